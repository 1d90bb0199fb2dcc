theorem d_M_fields_0 : decode b_M_fields 0 = .ok (.aload_n 0, 1) := by decide +kernel
theorem d_M_fields_1 : decode b_M_fields 1 = .ok (.iload_n 1, 1) := by decide +kernel
theorem d_M_fields_2 : decode b_M_fields 2 = .ok (.sipush 256, 3) := by decide +kernel
theorem d_M_fields_5 : decode b_M_fields 5 = .ok (.invokevirtual 207, 3) := by decide +kernel
theorem d_M_fields_8 : decode b_M_fields 8 = .ok (.lstore_n 2, 1) := by decide +kernel
theorem d_M_fields_9 : decode b_M_fields 9 = .ok (.aload_n 0, 1) := by decide +kernel
theorem d_M_fields_10 : decode b_M_fields 10 = .ok (.iload_n 1, 1) := by decide +kernel
theorem d_M_fields_11 : decode b_M_fields 11 = .ok (.sipush 257, 3) := by decide +kernel
theorem d_M_fields_14 : decode b_M_fields 14 = .ok (.invokevirtual 207, 3) := by decide +kernel
theorem d_M_fields_17 : decode b_M_fields 17 = .ok (.lstore 4, 2) := by decide +kernel
theorem d_M_fields_19 : decode b_M_fields 19 = .ok (.aload_n 0, 1) := by decide +kernel
theorem d_M_fields_20 : decode b_M_fields 20 = .ok (.iload_n 1, 1) := by decide +kernel
theorem d_M_fields_21 : decode b_M_fields 21 = .ok (.sipush 258, 3) := by decide +kernel
theorem d_M_fields_24 : decode b_M_fields 24 = .ok (.invokevirtual 207, 3) := by decide +kernel
theorem d_M_fields_27 : decode b_M_fields 27 = .ok (.lstore 6, 2) := by decide +kernel
theorem d_M_fields_29 : decode b_M_fields 29 = .ok (.aload_n 0, 1) := by decide +kernel
theorem d_M_fields_30 : decode b_M_fields 30 = .ok (.iload_n 1, 1) := by decide +kernel
theorem d_M_fields_31 : decode b_M_fields 31 = .ok (.sipush 259, 3) := by decide +kernel
theorem d_M_fields_34 : decode b_M_fields 34 = .ok (.invokevirtual 207, 3) := by decide +kernel
theorem d_M_fields_37 : decode b_M_fields 37 = .ok (.lstore 8, 2) := by decide +kernel
theorem d_M_fields_39 : decode b_M_fields 39 = .ok (.aload_n 0, 1) := by decide +kernel
theorem d_M_fields_40 : decode b_M_fields 40 = .ok (.iload_n 1, 1) := by decide +kernel
theorem d_M_fields_41 : decode b_M_fields 41 = .ok (.sipush 278, 3) := by decide +kernel
theorem d_M_fields_44 : decode b_M_fields 44 = .ok (.invokevirtual 207, 3) := by decide +kernel
theorem d_M_fields_47 : decode b_M_fields 47 = .ok (.lstore 10, 2) := by decide +kernel
theorem d_M_fields_49 : decode b_M_fields 49 = .ok (.aload_n 0, 1) := by decide +kernel
theorem d_M_fields_50 : decode b_M_fields 50 = .ok (.iload_n 1, 1) := by decide +kernel
theorem d_M_fields_51 : decode b_M_fields 51 = .ok (.sipush 317, 3) := by decide +kernel
theorem d_M_fields_54 : decode b_M_fields 54 = .ok (.invokevirtual 113, 3) := by decide +kernel
theorem d_M_fields_57 : decode b_M_fields 57 = .ok (.ifCond .ge 7, 3) := by decide +kernel
theorem d_M_fields_60 : decode b_M_fields 60 = .ok (.lconst 1, 1) := by decide +kernel
theorem d_M_fields_61 : decode b_M_fields 61 = .ok (.goto 11, 3) := by decide +kernel
theorem d_M_fields_64 : decode b_M_fields 64 = .ok (.aload_n 0, 1) := by decide +kernel
theorem d_M_fields_65 : decode b_M_fields 65 = .ok (.iload_n 1, 1) := by decide +kernel
theorem d_M_fields_66 : decode b_M_fields 66 = .ok (.sipush 317, 3) := by decide +kernel
theorem d_M_fields_69 : decode b_M_fields 69 = .ok (.invokevirtual 207, 3) := by decide +kernel
theorem d_M_fields_72 : decode b_M_fields 72 = .ok (.lstore 12, 2) := by decide +kernel
theorem d_M_fields_74 : decode b_M_fields 74 = .ok (.aload_n 0, 1) := by decide +kernel
theorem d_M_fields_75 : decode b_M_fields 75 = .ok (.iload_n 1, 1) := by decide +kernel
theorem d_M_fields_76 : decode b_M_fields 76 = .ok (.invokevirtual 210, 3) := by decide +kernel
theorem d_M_fields_79 : decode b_M_fields 79 = .ok (.ifCond .eq 56, 3) := by decide +kernel
theorem d_M_fields_82 : decode b_M_fields 82 = .ok (.lload_n 2, 1) := by decide +kernel
theorem d_M_fields_83 : decode b_M_fields 83 = .ok (.lconst 1, 1) := by decide +kernel
theorem d_M_fields_84 : decode b_M_fields 84 = .ok (.lcmp, 1) := by decide +kernel
theorem d_M_fields_85 : decode b_M_fields 85 = .ok (.ifCond .lt 50, 3) := by decide +kernel
theorem d_M_fields_88 : decode b_M_fields 88 = .ok (.lload_n 2, 1) := by decide +kernel
theorem d_M_fields_89 : decode b_M_fields 89 = .ok (.ldc2_w 214, 3) := by decide +kernel
theorem d_M_fields_92 : decode b_M_fields 92 = .ok (.lcmp, 1) := by decide +kernel
theorem d_M_fields_93 : decode b_M_fields 93 = .ok (.ifCond .gt 42, 3) := by decide +kernel
theorem d_M_fields_96 : decode b_M_fields 96 = .ok (.lload 4, 2) := by decide +kernel
theorem d_M_fields_98 : decode b_M_fields 98 = .ok (.lconst 1, 1) := by decide +kernel
theorem d_M_fields_99 : decode b_M_fields 99 = .ok (.lcmp, 1) := by decide +kernel
theorem d_M_fields_100 : decode b_M_fields 100 = .ok (.ifCond .lt 35, 3) := by decide +kernel
theorem d_M_fields_103 : decode b_M_fields 103 = .ok (.lload 4, 2) := by decide +kernel
theorem d_M_fields_105 : decode b_M_fields 105 = .ok (.ldc2_w 214, 3) := by decide +kernel
theorem d_M_fields_108 : decode b_M_fields 108 = .ok (.lcmp, 1) := by decide +kernel
theorem d_M_fields_109 : decode b_M_fields 109 = .ok (.ifCond .gt 26, 3) := by decide +kernel
theorem d_M_fields_112 : decode b_M_fields 112 = .ok (.lload 10, 2) := by decide +kernel
theorem d_M_fields_114 : decode b_M_fields 114 = .ok (.lconst 1, 1) := by decide +kernel
theorem d_M_fields_115 : decode b_M_fields 115 = .ok (.lcmp, 1) := by decide +kernel
theorem d_M_fields_116 : decode b_M_fields 116 = .ok (.ifCond .lt 19, 3) := by decide +kernel
theorem d_M_fields_119 : decode b_M_fields 119 = .ok (.lload 12, 2) := by decide +kernel
theorem d_M_fields_121 : decode b_M_fields 121 = .ok (.lconst 1, 1) := by decide +kernel
theorem d_M_fields_122 : decode b_M_fields 122 = .ok (.lcmp, 1) := by decide +kernel
theorem d_M_fields_123 : decode b_M_fields 123 = .ok (.ifCond .lt 12, 3) := by decide +kernel
theorem d_M_fields_126 : decode b_M_fields 126 = .ok (.lload 12, 2) := by decide +kernel
theorem d_M_fields_128 : decode b_M_fields 128 = .ok (.ldc2_w 74, 3) := by decide +kernel
theorem d_M_fields_131 : decode b_M_fields 131 = .ok (.lcmp, 1) := by decide +kernel
theorem d_M_fields_132 : decode b_M_fields 132 = .ok (.ifCond .le 5, 3) := by decide +kernel
theorem d_M_fields_135 : decode b_M_fields 135 = .ok (.iconst 0, 1) := by decide +kernel
theorem d_M_fields_136 : decode b_M_fields 136 = .ok (.ireturn, 1) := by decide +kernel
theorem d_M_fields_137 : decode b_M_fields 137 = .ok (.lload 6, 2) := by decide +kernel
theorem d_M_fields_139 : decode b_M_fields 139 = .ok (.lconst 1, 1) := by decide +kernel
theorem d_M_fields_140 : decode b_M_fields 140 = .ok (.lcmp, 1) := by decide +kernel
theorem d_M_fields_141 : decode b_M_fields 141 = .ok (.ifCond .eq 30, 3) := by decide +kernel
theorem d_M_fields_144 : decode b_M_fields 144 = .ok (.lload 6, 2) := by decide +kernel
theorem d_M_fields_146 : decode b_M_fields 146 = .ok (.ldc2_w 74, 3) := by decide +kernel
theorem d_M_fields_149 : decode b_M_fields 149 = .ok (.lcmp, 1) := by decide +kernel
theorem d_M_fields_150 : decode b_M_fields 150 = .ok (.ifCond .eq 21, 3) := by decide +kernel
theorem d_M_fields_153 : decode b_M_fields 153 = .ok (.lload 6, 2) := by decide +kernel
theorem d_M_fields_155 : decode b_M_fields 155 = .ok (.ldc2_w 111, 3) := by decide +kernel
theorem d_M_fields_158 : decode b_M_fields 158 = .ok (.lcmp, 1) := by decide +kernel
theorem d_M_fields_159 : decode b_M_fields 159 = .ok (.ifCond .eq 12, 3) := by decide +kernel
theorem d_M_fields_162 : decode b_M_fields 162 = .ok (.lload 6, 2) := by decide +kernel
theorem d_M_fields_164 : decode b_M_fields 164 = .ok (.ldc2_w 76, 3) := by decide +kernel
theorem d_M_fields_167 : decode b_M_fields 167 = .ok (.lcmp, 1) := by decide +kernel
theorem d_M_fields_168 : decode b_M_fields 168 = .ok (.ifCond .ne 28, 3) := by decide +kernel
theorem d_M_fields_171 : decode b_M_fields 171 = .ok (.lload 8, 2) := by decide +kernel
theorem d_M_fields_173 : decode b_M_fields 173 = .ok (.lconst 1, 1) := by decide +kernel
theorem d_M_fields_174 : decode b_M_fields 174 = .ok (.lcmp, 1) := by decide +kernel
theorem d_M_fields_175 : decode b_M_fields 175 = .ok (.ifCond .eq 23, 3) := by decide +kernel
theorem d_M_fields_178 : decode b_M_fields 178 = .ok (.lload 8, 2) := by decide +kernel
theorem d_M_fields_180 : decode b_M_fields 180 = .ok (.ldc2_w 216, 3) := by decide +kernel
theorem d_M_fields_183 : decode b_M_fields 183 = .ok (.lcmp, 1) := by decide +kernel
theorem d_M_fields_184 : decode b_M_fields 184 = .ok (.ifCond .eq 14, 3) := by decide +kernel
theorem d_M_fields_187 : decode b_M_fields 187 = .ok (.lload 8, 2) := by decide +kernel
theorem d_M_fields_189 : decode b_M_fields 189 = .ok (.ldc2_w 218, 3) := by decide +kernel
theorem d_M_fields_192 : decode b_M_fields 192 = .ok (.lcmp, 1) := by decide +kernel
theorem d_M_fields_193 : decode b_M_fields 193 = .ok (.ifCond .eq 5, 3) := by decide +kernel
theorem d_M_fields_196 : decode b_M_fields 196 = .ok (.iconst 0, 1) := by decide +kernel
theorem d_M_fields_197 : decode b_M_fields 197 = .ok (.ireturn, 1) := by decide +kernel
theorem d_M_fields_198 : decode b_M_fields 198 = .ok (.aload_n 0, 1) := by decide +kernel
theorem d_M_fields_199 : decode b_M_fields 199 = .ok (.lload_n 2, 1) := by decide +kernel
theorem d_M_fields_200 : decode b_M_fields 200 = .ok (.l2i, 1) := by decide +kernel
theorem d_M_fields_201 : decode b_M_fields 201 = .ok (.putfield 220, 3) := by decide +kernel
theorem d_M_fields_204 : decode b_M_fields 204 = .ok (.aload_n 0, 1) := by decide +kernel
theorem d_M_fields_205 : decode b_M_fields 205 = .ok (.lload 4, 2) := by decide +kernel
theorem d_M_fields_207 : decode b_M_fields 207 = .ok (.l2i, 1) := by decide +kernel
theorem d_M_fields_208 : decode b_M_fields 208 = .ok (.putfield 201, 3) := by decide +kernel
theorem d_M_fields_211 : decode b_M_fields 211 = .ok (.aload_n 0, 1) := by decide +kernel
theorem d_M_fields_212 : decode b_M_fields 212 = .ok (.lload 6, 2) := by decide +kernel
theorem d_M_fields_214 : decode b_M_fields 214 = .ok (.l2i, 1) := by decide +kernel
theorem d_M_fields_215 : decode b_M_fields 215 = .ok (.putfield 223, 3) := by decide +kernel
theorem d_M_fields_218 : decode b_M_fields 218 = .ok (.aload_n 0, 1) := by decide +kernel
theorem d_M_fields_219 : decode b_M_fields 219 = .ok (.lload 8, 2) := by decide +kernel
theorem d_M_fields_221 : decode b_M_fields 221 = .ok (.l2i, 1) := by decide +kernel
theorem d_M_fields_222 : decode b_M_fields 222 = .ok (.putfield 226, 3) := by decide +kernel
theorem d_M_fields_225 : decode b_M_fields 225 = .ok (.aload_n 0, 1) := by decide +kernel
theorem d_M_fields_226 : decode b_M_fields 226 = .ok (.lload 10, 2) := by decide +kernel
theorem d_M_fields_228 : decode b_M_fields 228 = .ok (.lload 4, 2) := by decide +kernel
theorem d_M_fields_230 : decode b_M_fields 230 = .ok (.lcmp, 1) := by decide +kernel
theorem d_M_fields_231 : decode b_M_fields 231 = .ok (.ifCond .ge 8, 3) := by decide +kernel
theorem d_M_fields_234 : decode b_M_fields 234 = .ok (.lload 10, 2) := by decide +kernel
theorem d_M_fields_236 : decode b_M_fields 236 = .ok (.goto 5, 3) := by decide +kernel
theorem d_M_fields_239 : decode b_M_fields 239 = .ok (.lload 4, 2) := by decide +kernel
theorem d_M_fields_241 : decode b_M_fields 241 = .ok (.l2i, 1) := by decide +kernel
theorem d_M_fields_242 : decode b_M_fields 242 = .ok (.putfield 204, 3) := by decide +kernel
theorem d_M_fields_245 : decode b_M_fields 245 = .ok (.aload_n 0, 1) := by decide +kernel
theorem d_M_fields_246 : decode b_M_fields 246 = .ok (.lload 12, 2) := by decide +kernel
theorem d_M_fields_248 : decode b_M_fields 248 = .ok (.l2i, 1) := by decide +kernel
theorem d_M_fields_249 : decode b_M_fields 249 = .ok (.putfield 229, 3) := by decide +kernel
theorem d_M_fields_252 : decode b_M_fields 252 = .ok (.aload_n 0, 1) := by decide +kernel
theorem d_M_fields_253 : decode b_M_fields 253 = .ok (.invokevirtual 232, 3) := by decide +kernel
theorem d_M_fields_256 : decode b_M_fields 256 = .ok (.istore 14, 2) := by decide +kernel
theorem d_M_fields_258 : decode b_M_fields 258 = .ok (.aload_n 0, 1) := by decide +kernel
theorem d_M_fields_259 : decode b_M_fields 259 = .ok (.iload_n 1, 1) := by decide +kernel
theorem d_M_fields_260 : decode b_M_fields 260 = .ok (.sipush 273, 3) := by decide +kernel
theorem d_M_fields_263 : decode b_M_fields 263 = .ok (.iload 14, 2) := by decide +kernel
theorem d_M_fields_265 : decode b_M_fields 265 = .ok (.i2l, 1) := by decide +kernel
theorem d_M_fields_266 : decode b_M_fields 266 = .ok (.invokevirtual 193, 3) := by decide +kernel
theorem d_M_fields_269 : decode b_M_fields 269 = .ok (.ifCond .lt 21, 3) := by decide +kernel
theorem d_M_fields_272 : decode b_M_fields 272 = .ok (.aload_n 0, 1) := by decide +kernel
theorem d_M_fields_273 : decode b_M_fields 273 = .ok (.iload_n 1, 1) := by decide +kernel
theorem d_M_fields_274 : decode b_M_fields 274 = .ok (.sipush 279, 3) := by decide +kernel
theorem d_M_fields_277 : decode b_M_fields 277 = .ok (.iload 14, 2) := by decide +kernel
theorem d_M_fields_279 : decode b_M_fields 279 = .ok (.i2l, 1) := by decide +kernel
theorem d_M_fields_280 : decode b_M_fields 280 = .ok (.invokevirtual 193, 3) := by decide +kernel
theorem d_M_fields_283 : decode b_M_fields 283 = .ok (.ifCond .lt 7, 3) := by decide +kernel
theorem d_M_fields_286 : decode b_M_fields 286 = .ok (.iconst 1, 1) := by decide +kernel
theorem d_M_fields_287 : decode b_M_fields 287 = .ok (.goto 4, 3) := by decide +kernel
theorem d_M_fields_290 : decode b_M_fields 290 = .ok (.iconst 0, 1) := by decide +kernel
theorem d_M_fields_291 : decode b_M_fields 291 = .ok (.ireturn, 1) := by decide +kernel
def wp_M_fields_b290 (post : Int32 → (Nat → Int32) → (Nat → Int32) → Prop) (f_p0_file : Nat → Int32) (I_p0 : Nat → Int32) (f_p0_dirs : Nat → Int32) : Prop :=
  post 0 I_p0 f_p0_dirs
def wp_M_fields_b241 (post : Int32 → (Nat → Int32) → (Nat → Int32) → Prop) (f_p0_file : Nat → Int32) (I_p0 : Nat → Int32) (f_p0_dirs : Nat → Int32) (x1 : Int32) (x12 : Int64) (s0 : Int64) : Prop :=
  ∀ v : Int32, v = s0.toInt32 →
  ∀ v_1 : Int32, v_1 = x12.toInt32 →
  wp_M_strips (fun (r253 : Int32) =>
    wp_M_good (fun (r266 : Int32) (I_p0_266 : Nat → Int32) (f_p0_dirs_266 : Nat → Int32) =>
      ((r266 < 0 →
        wp_M_fields_b290 post f_p0_file I_p0_266 f_p0_dirs_266) ∧
       (¬ r266 < 0 →
        wp_M_good (fun (r280 : Int32) (I_p0_280 : Nat → Int32) (f_p0_dirs_280 : Nat → Int32) =>
          ((r280 < 0 →
            wp_M_fields_b290 post f_p0_file I_p0_280 f_p0_dirs_280) ∧
           (¬ r280 < 0 →
            post 1 I_p0_280 f_p0_dirs_280))) f_p0_file I_p0_266 f_p0_dirs_266 x1 279 r253.toInt64))) f_p0_file (upd (upd I_p0 27 v) 28 v_1) f_p0_dirs x1 273 r253.toInt64) (upd (upd I_p0 27 v) 28 v_1)
def wp_M_fields_b198 (post : Int32 → (Nat → Int32) → (Nat → Int32) → Prop) (f_p0_file : Nat → Int32) (I_p0 : Nat → Int32) (f_p0_dirs : Nat → Int32) (x1 : Int32) (x2 : Int64) (x4 : Int64) (x6 : Int64) (x8 : Int64) (x10 : Int64) (x12 : Int64) : Prop :=
  ∀ v : Int32, v = x2.toInt32 →
  ∀ v_1 : Int32, v_1 = x4.toInt32 →
  ∀ v_2 : Int32, v_2 = x6.toInt32 →
  ∀ v_3 : Int32, v_3 = x8.toInt32 →
  ((x4 ≤ x10 →
    wp_M_fields_b241 post f_p0_file (upd (upd (upd (upd I_p0 23 v) 24 v_1) 25 v_2) 26 v_3) f_p0_dirs x1 x12 x4) ∧
   (¬ x4 ≤ x10 →
    wp_M_fields_b241 post f_p0_file (upd (upd (upd (upd I_p0 23 v) 24 v_1) 25 v_2) 26 v_3) f_p0_dirs x1 x12 x10))
def wp_M_fields_b171 (post : Int32 → (Nat → Int32) → (Nat → Int32) → Prop) (f_p0_file : Nat → Int32) (I_p0 : Nat → Int32) (f_p0_dirs : Nat → Int32) (x1 : Int32) (x2 : Int64) (x4 : Int64) (x6 : Int64) (x8 : Int64) (x10 : Int64) (x12 : Int64) : Prop :=
  ((x8 = 1 →
    wp_M_fields_b198 post f_p0_file I_p0 f_p0_dirs x1 x2 x4 x6 x8 x10 x12) ∧
   (¬ x8 = 1 →
    ((x8 = 5 →
      wp_M_fields_b198 post f_p0_file I_p0 f_p0_dirs x1 x2 x4 x6 x8 x10 x12) ∧
     (¬ x8 = 5 →
      ((x8 = 32773 →
        wp_M_fields_b198 post f_p0_file I_p0 f_p0_dirs x1 x2 x4 x6 x8 x10 x12) ∧
       (¬ x8 = 32773 →
        post 0 I_p0 f_p0_dirs))))))
def wp_M_fields_b72 (post : Int32 → (Nat → Int32) → (Nat → Int32) → Prop) (f_p0_file : Nat → Int32) (I_p0 : Nat → Int32) (f_p0_dirs : Nat → Int32) (x1 : Int32) (x2 : Int64) (x4 : Int64) (x6 : Int64) (x8 : Int64) (x10 : Int64) (s0 : Int64) : Prop :=
  wp_M_rising (fun (r76 : Int32) =>
    ((r76 = 0 →
      post 0 I_p0 f_p0_dirs) ∧
     (¬ r76 = 0 →
      ((x2 < 1 →
        post 0 I_p0 f_p0_dirs) ∧
       (¬ x2 < 1 →
        ((16 < x2 →
          post 0 I_p0 f_p0_dirs) ∧
         (¬ 16 < x2 →
          ((x4 < 1 →
            post 0 I_p0 f_p0_dirs) ∧
           (¬ x4 < 1 →
            ((16 < x4 →
              post 0 I_p0 f_p0_dirs) ∧
             (¬ 16 < x4 →
              ((x10 < 1 →
                post 0 I_p0 f_p0_dirs) ∧
               (¬ x10 < 1 →
                ((s0 < 1 →
                  post 0 I_p0 f_p0_dirs) ∧
                 (¬ s0 < 1 →
                  ((s0 ≤ 2 →
                    ((x6 = 1 →
                      wp_M_fields_b171 post f_p0_file I_p0 f_p0_dirs x1 x2 x4 x6 x8 x10 s0) ∧
                     (¬ x6 = 1 →
                      ((x6 = 2 →
                        wp_M_fields_b171 post f_p0_file I_p0 f_p0_dirs x1 x2 x4 x6 x8 x10 s0) ∧
                       (¬ x6 = 2 →
                        ((x6 = 4 →
                          wp_M_fields_b171 post f_p0_file I_p0 f_p0_dirs x1 x2 x4 x6 x8 x10 s0) ∧
                         (¬ x6 = 4 →
                          ((x6 = 8 →
                            wp_M_fields_b171 post f_p0_file I_p0 f_p0_dirs x1 x2 x4 x6 x8 x10 s0) ∧
                           (¬ x6 = 8 →
                            post 0 I_p0 f_p0_dirs))))))))) ∧
                   (¬ s0 ≤ 2 →
                    post 0 I_p0 f_p0_dirs))))))))))))))))) I_p0 f_p0_dirs f_p0_file x1
def wp_M_fields (post : Int32 → (Nat → Int32) → (Nat → Int32) → Prop) (f_p0_file : Nat → Int32) (I_p0 : Nat → Int32) (f_p0_dirs : Nat → Int32) (x1 : Int32) : Prop :=
  wp_M_one (fun (r5 : Int64) (I_p0_5 : Nat → Int32) (f_p0_dirs_5 : Nat → Int32) =>
    wp_M_one (fun (r14 : Int64) (I_p0_14 : Nat → Int32) (f_p0_dirs_14 : Nat → Int32) =>
      wp_M_one (fun (r24 : Int64) (I_p0_24 : Nat → Int32) (f_p0_dirs_24 : Nat → Int32) =>
        wp_M_one (fun (r34 : Int64) (I_p0_34 : Nat → Int32) (f_p0_dirs_34 : Nat → Int32) =>
          wp_M_one (fun (r44 : Int64) (I_p0_44 : Nat → Int32) (f_p0_dirs_44 : Nat → Int32) =>
            wp_M_entry (fun (r54 : Int32) (I_p0_54 : Nat → Int32) (f_p0_dirs_54 : Nat → Int32) =>
              ((0 ≤ r54 →
                wp_M_one (fun (r69 : Int64) (I_p0_69 : Nat → Int32) (f_p0_dirs_69 : Nat → Int32) =>
                  wp_M_fields_b72 post f_p0_file I_p0_69 f_p0_dirs_69 x1 r5 r14 r24 r34 r44 r69) f_p0_file I_p0_54 f_p0_dirs_54 x1 317) ∧
               (¬ 0 ≤ r54 →
                wp_M_fields_b72 post f_p0_file I_p0_54 f_p0_dirs_54 x1 r5 r14 r24 r34 r44 1))) f_p0_file I_p0_44 f_p0_dirs_44 x1 317) f_p0_file I_p0_34 f_p0_dirs_34 x1 278) f_p0_file I_p0_24 f_p0_dirs_24 x1 259) f_p0_file I_p0_14 f_p0_dirs_14 x1 258) f_p0_file I_p0_5 f_p0_dirs_5 x1 257) f_p0_file I_p0 f_p0_dirs x1 256
set_option maxRecDepth 100000 in
set_option maxHeartbeats 4000000 in
theorem c_M_fields (l : Launch) (dC : Nat → ClassId) (dI : Nat → Nat → Nat) (cI : ClassId) (a_p0 : Nat) (A_p0 : Nat → Nat) (f_p0_file : Nat → Int32) (I_p0 : Nat → Int32) (f_p0_dirs : Nat → Int32) (x1 : Int32) {post : Int32 → (Nat → Int32) → (Nat → Int32) → Prop} (hw : wp_M_fields post f_p0_file I_p0 f_p0_dirs x1) : gm_i l y_M_fields ws_M_fields ({ frames := 6, cells := 0, slots := 0, locals := 146 } : Room) (dC, dI) vwCl [(cI, .int)] [.ref a_p0, .int x1] [oM a_p0 A_p0 I_p0, gz cI (A_p0 13) 8 f_p0_dirs, gz cI (A_p0 0) 2000 f_p0_file] (fun (u : (Nat → Int32) × (Nat → Int32)) => [oM a_p0 A_p0 u.1, gz cI (A_p0 13) 8 u.2, gz cI (A_p0 0) 2000 f_p0_file]) (fun (r : Int32) (u : (Nat → Int32) × (Nat → Int32)) => post r u.1 u.2) := by
  refine gm_iof (cc := b_M_fields) (maxL := 15) (ty := .boolean) (by decide) rfl (Nat.le_of_ble_eq_true rfl) ?_
  intro p e s m args below meth c A Q hx hb hml hown hg hK hN hA hret
  have hown : s.vm.findClass R_M = some m.cls := hown
  have b290 : ∀ (H : Heap) (locs : List Loc) (ls : Array Slot) (I_p0 : Nat → Int32) (f_p0_dirs : Nat → Int32), va_P (dC, dI) vwCl [oM a_p0 A_p0 I_p0, gz cI (A_p0 13) 8 f_p0_dirs, gz cI (A_p0 0) 2000 f_p0_file] H → va_D A [oM a_p0 A_p0 I_p0, gz cI (A_p0 13) 8 f_p0_dirs, gz cI (A_p0 0) 2000 f_p0_file] → va_S A s.heap H locs → lv_has ls 15 [] → wp_M_fields_b290 post f_p0_file I_p0 f_p0_dirs → W p l e ({ frames := 6, cells := 0, slots := 0, locals := 146 } : Room) s m args below meth c H locs 0 0 Q (F0 m 290 ls []) := by
    intro H locs ls I_p0 f_p0_dirs hP hD hS hl hw
    unfold wp_M_fields_b290 at hw
    refine lv_iconst (v := 0) hx hb d_M_fields_290 (by decide) ?_
    exact hret _ _ _ _ _ (I_p0, f_p0_dirs) d_M_fields_291 rfl hP hD hS hw
  have b241 : ∀ (H : Heap) (locs : List Loc) (ls : Array Slot) (I_p0 : Nat → Int32) (f_p0_dirs : Nat → Int32) (x1 : Int32) (x12 : Int64) (s0 : Int64), va_P (dC, dI) vwCl [oM a_p0 A_p0 I_p0, gz cI (A_p0 13) 8 f_p0_dirs, gz cI (A_p0 0) 2000 f_p0_file] H → va_D A [oM a_p0 A_p0 I_p0, gz cI (A_p0 13) 8 f_p0_dirs, gz cI (A_p0 0) 2000 f_p0_file] → va_S A s.heap H locs → lv_has ls 15 [(0, .ref a_p0), (1, .int x1), (12, .long x12)] → wp_M_fields_b241 post f_p0_file I_p0 f_p0_dirs x1 x12 s0 → W p l e ({ frames := 6, cells := 0, slots := 0, locals := 146 } : Room) s m args below meth c H locs 0 0 Q (F0 m 241 ls [.long s0, .ref a_p0]) := by
    intro H locs ls I_p0 f_p0_dirs x1 x12 s0 hP hD hS hl hw
    unfold wp_M_fields_b241 at hw
    refine lv_l2i hx hb d_M_fields_241 rfl ?_
    refine lv_topi (fun v e_v => ?_)
    have hw := hw v e_v
    refine va_put (D := (dC, dI)) (ci := 10) (v := .int v) (ty := .int) (C := R_M) (T := T_M) (N := 30) hx hb hg in_M t_M tok_M nok_M hown hK hP hD hS 0 rfl rfl 27 (by decide) (hg _ t_785) (fun _ h9 => h9) rfl (by decide +kernel) rfl rfl (Nat.le_of_ble_eq_true rfl) d_M_fields_242 (fun H locs hP hD hS => ?_)
    have hP : va_P (dC, dI) vwCl [oM a_p0 A_p0 (upd I_p0 27 v), gz cI (A_p0 13) 8 f_p0_dirs, gz cI (A_p0 0) 2000 f_p0_file] H := hP
    have hD : va_D A [oM a_p0 A_p0 (upd I_p0 27 v), gz cI (A_p0 13) 8 f_p0_dirs, gz cI (A_p0 0) 2000 f_p0_file] := hD
    refine lv_aload_n hx hb d_M_fields_245 rfl (lv_at hl 0 rfl) ?_
    refine lv_lload hx hb d_M_fields_246 (lv_at hl 2 rfl) ?_
    refine lv_l2i hx hb d_M_fields_248 rfl ?_
    refine lv_topi (fun v_1 e_v_1 => ?_)
    have hw := hw v_1 e_v_1
    refine va_put (D := (dC, dI)) (ci := 10) (v := .int v_1) (ty := .int) (C := R_M) (T := T_M) (N := 30) hx hb hg in_M t_M tok_M nok_M hown hK hP hD hS 0 rfl rfl 28 (by decide) (hg _ t_786) (fun _ h9 => h9) rfl (by decide +kernel) rfl rfl (Nat.le_of_ble_eq_true rfl) d_M_fields_249 (fun H locs hP hD hS => ?_)
    have hP : va_P (dC, dI) vwCl [oM a_p0 A_p0 (upd (upd I_p0 27 v) 28 v_1), gz cI (A_p0 13) 8 f_p0_dirs, gz cI (A_p0 0) 2000 f_p0_file] H := hP
    have hD : va_D A [oM a_p0 A_p0 (upd (upd I_p0 27 v) 28 v_1), gz cI (A_p0 13) 8 f_p0_dirs, gz cI (A_p0 0) 2000 f_p0_file] := hD
    refine lv_aload_n hx hb d_M_fields_252 rfl (lv_at hl 0 rfl) ?_
    refine gc_i (wn := fun (_ : Unit) => [oM a_p0 A_p0 (upd (upd I_p0 27 v) 28 v_1), gz cI (A_p0 13) 8 f_p0_dirs, gz cI (A_p0 0) 2000 f_p0_file]) (wr := [gz cI (A_p0 13) 8 f_p0_dirs, gz cI (A_p0 0) 2000 f_p0_file]) (gr_V (As := []) (rest := []) ⟨hx, hb, hml, hown, hg⟩ (c_M_strips l dC dI cI a_p0 A_p0 (upd (upd I_p0 27 v) 28 v_1) hw _) (cwV 0 hg (gg_V t_1040 t_1042 t_53 t_71 t_1043) rfl rfl rfl (by decide +kernel) ⟨Nat.le_of_ble_eq_true rfl, Nat.le_of_ble_eq_true rfl⟩) hK hN hP hD [0] (by decide) rfl 0 10 rfl rfl rfl rfl hl.1 rfl (Nat.le_of_ble_eq_true rfl) d_M_fields_253 ⟨Nat.le_of_ble_eq_true rfl, Nat.le_of_ble_eq_true rfl⟩) rfl rfl hP hD hS hA [0] [1, 2] [2, 0, 1] rfl rfl (by decide) (by decide) (by decide) (fun _ => rfl) ?_
    intro r253 _ H locs hw hP hD hS
    try dsimp only at hw
    have hP : va_P (dC, dI) vwCl [oM a_p0 A_p0 (upd (upd I_p0 27 v) 28 v_1), gz cI (A_p0 13) 8 f_p0_dirs, gz cI (A_p0 0) 2000 f_p0_file] H := hP
    have hD : va_D A [oM a_p0 A_p0 (upd (upd I_p0 27 v) 28 v_1), gz cI (A_p0 13) 8 f_p0_dirs, gz cI (A_p0 0) 2000 f_p0_file] := hD
    refine lv_istore (lv' := [(14, .int r253), (0, .ref a_p0), (1, .int x1), (12, .long x12)]) hx hb d_M_fields_256 hl (by decide) rfl (fun ls hl => ?_)
    refine lv_aload_n hx hb d_M_fields_258 rfl (lv_at hl 1 rfl) ?_
    refine lv_iload_n hx hb d_M_fields_259 rfl (lv_at hl 2 rfl) ?_
    refine lv_sipush (v := 273) hx hb d_M_fields_260 (by decide) ?_
    refine lv_iload hx hb d_M_fields_263 (lv_at hl 0 rfl) ?_
    refine lv_i2l hx hb d_M_fields_265 rfl ?_
    refine gc_i (wn := fun u => [oM a_p0 A_p0 u.1, gz cI (A_p0 13) 8 u.2, gz cI (A_p0 0) 2000 f_p0_file]) (wr := []) (gr_V (As := [.int x1, .int 273, .long r253.toInt64]) (rest := []) ⟨hx, hb, hml, hown, hg⟩ (c_M_good l dC dI cI a_p0 A_p0 f_p0_file (upd (upd I_p0 27 v) 28 v_1) f_p0_dirs x1 273 r253.toInt64 hw _) (cwV 3 hg (gg_V t_1028 t_1030 t_51 t_71 t_1031) rfl rfl rfl (by decide +kernel) ⟨Nat.le_of_ble_eq_true rfl, Nat.le_of_ble_eq_true rfl⟩) hK hN hP hD [0, 1, 2] (by decide) rfl 0 10 rfl rfl rfl rfl hl.1 rfl (Nat.le_of_ble_eq_true rfl) d_M_fields_266 ⟨Nat.le_of_ble_eq_true rfl, Nat.le_of_ble_eq_true rfl⟩) rfl rfl hP hD hS hA [0, 1, 2] [] [0, 1, 2] rfl rfl (by decide) (by decide) (by decide) (fun _ => rfl) ?_
    intro r266 u9 H locs hw hP hD hS
    obtain ⟨I_p0_266, f_p0_dirs_266⟩ := u9
    try dsimp only at hw
    have hP : va_P (dC, dI) vwCl [oM a_p0 A_p0 I_p0_266, gz cI (A_p0 13) 8 f_p0_dirs_266, gz cI (A_p0 0) 2000 f_p0_file] H := hP
    have hD : va_D A [oM a_p0 A_p0 I_p0_266, gz cI (A_p0 13) 8 f_p0_dirs_266, gz cI (A_p0 0) 2000 f_p0_file] := hD
    refine lv_if_lt hx hb d_M_fields_269 rfl (fun hc => ?_) (fun hc => ?_)
    · have hw := hw.1 hc
      exact b290 _ _ _ I_p0_266 f_p0_dirs_266 hP hD hS (lv_sub hl [] rfl) hw
    · have hw := hw.2 hc
      refine lv_aload_n hx hb d_M_fields_272 rfl (lv_at hl 1 rfl) ?_
      refine lv_iload_n hx hb d_M_fields_273 rfl (lv_at hl 2 rfl) ?_
      refine lv_sipush (v := 279) hx hb d_M_fields_274 (by decide) ?_
      refine lv_iload hx hb d_M_fields_277 (lv_at hl 0 rfl) ?_
      refine lv_i2l hx hb d_M_fields_279 rfl ?_
      refine gc_i (wn := fun u => [oM a_p0 A_p0 u.1, gz cI (A_p0 13) 8 u.2, gz cI (A_p0 0) 2000 f_p0_file]) (wr := []) (gr_V (As := [.int x1, .int 279, .long r253.toInt64]) (rest := []) ⟨hx, hb, hml, hown, hg⟩ (c_M_good l dC dI cI a_p0 A_p0 f_p0_file I_p0_266 f_p0_dirs_266 x1 279 r253.toInt64 hw _) (cwV 3 hg (gg_V t_1028 t_1030 t_51 t_71 t_1031) rfl rfl rfl (by decide +kernel) ⟨Nat.le_of_ble_eq_true rfl, Nat.le_of_ble_eq_true rfl⟩) hK hN hP hD [0, 1, 2] (by decide) rfl 0 10 rfl rfl rfl rfl hl.1 rfl (Nat.le_of_ble_eq_true rfl) d_M_fields_280 ⟨Nat.le_of_ble_eq_true rfl, Nat.le_of_ble_eq_true rfl⟩) rfl rfl hP hD hS hA [0, 1, 2] [] [0, 1, 2] rfl rfl (by decide) (by decide) (by decide) (fun _ => rfl) ?_
      intro r280 u9 H locs hw hP hD hS
      obtain ⟨I_p0_280, f_p0_dirs_280⟩ := u9
      try dsimp only at hw
      have hP : va_P (dC, dI) vwCl [oM a_p0 A_p0 I_p0_280, gz cI (A_p0 13) 8 f_p0_dirs_280, gz cI (A_p0 0) 2000 f_p0_file] H := hP
      have hD : va_D A [oM a_p0 A_p0 I_p0_280, gz cI (A_p0 13) 8 f_p0_dirs_280, gz cI (A_p0 0) 2000 f_p0_file] := hD
      refine lv_if_lt hx hb d_M_fields_283 rfl (fun hc => ?_) (fun hc => ?_)
      · have hw := hw.1 hc
        exact b290 _ _ _ I_p0_280 f_p0_dirs_280 hP hD hS (lv_sub hl [] rfl) hw
      · have hw := hw.2 hc
        refine lv_iconst (v := 1) hx hb d_M_fields_286 (by decide) ?_
        refine lv_goto hx hb d_M_fields_287 rfl ?_
        exact hret _ _ _ _ _ (I_p0_280, f_p0_dirs_280) d_M_fields_291 rfl hP hD hS hw
  have b198 : ∀ (H : Heap) (locs : List Loc) (ls : Array Slot) (I_p0 : Nat → Int32) (f_p0_dirs : Nat → Int32) (x1 : Int32) (x2 : Int64) (x4 : Int64) (x6 : Int64) (x8 : Int64) (x10 : Int64) (x12 : Int64), va_P (dC, dI) vwCl [oM a_p0 A_p0 I_p0, gz cI (A_p0 13) 8 f_p0_dirs, gz cI (A_p0 0) 2000 f_p0_file] H → va_D A [oM a_p0 A_p0 I_p0, gz cI (A_p0 13) 8 f_p0_dirs, gz cI (A_p0 0) 2000 f_p0_file] → va_S A s.heap H locs → lv_has ls 15 [(0, .ref a_p0), (1, .int x1), (2, .long x2), (4, .long x4), (6, .long x6), (8, .long x8), (10, .long x10), (12, .long x12)] → wp_M_fields_b198 post f_p0_file I_p0 f_p0_dirs x1 x2 x4 x6 x8 x10 x12 → W p l e ({ frames := 6, cells := 0, slots := 0, locals := 146 } : Room) s m args below meth c H locs 0 0 Q (F0 m 198 ls []) := by
    intro H locs ls I_p0 f_p0_dirs x1 x2 x4 x6 x8 x10 x12 hP hD hS hl hw
    unfold wp_M_fields_b198 at hw
    refine lv_aload_n hx hb d_M_fields_198 rfl (lv_at hl 0 rfl) ?_
    refine lv_lload_n hx hb d_M_fields_199 rfl (lv_at hl 2 rfl) ?_
    refine lv_l2i hx hb d_M_fields_200 rfl ?_
    refine lv_topi (fun v e_v => ?_)
    have hw := hw v e_v
    refine va_put (D := (dC, dI)) (ci := 10) (v := .int v) (ty := .int) (C := R_M) (T := T_M) (N := 30) hx hb hg in_M t_M tok_M nok_M hown hK hP hD hS 0 rfl rfl 23 (by decide) (hg _ t_781) (fun _ h9 => h9) rfl (by decide +kernel) rfl rfl (Nat.le_of_ble_eq_true rfl) d_M_fields_201 (fun H locs hP hD hS => ?_)
    have hP : va_P (dC, dI) vwCl [oM a_p0 A_p0 (upd I_p0 23 v), gz cI (A_p0 13) 8 f_p0_dirs, gz cI (A_p0 0) 2000 f_p0_file] H := hP
    have hD : va_D A [oM a_p0 A_p0 (upd I_p0 23 v), gz cI (A_p0 13) 8 f_p0_dirs, gz cI (A_p0 0) 2000 f_p0_file] := hD
    refine lv_aload_n hx hb d_M_fields_204 rfl (lv_at hl 0 rfl) ?_
    refine lv_lload hx hb d_M_fields_205 (lv_at hl 3 rfl) ?_
    refine lv_l2i hx hb d_M_fields_207 rfl ?_
    refine lv_topi (fun v_1 e_v_1 => ?_)
    have hw := hw v_1 e_v_1
    refine va_put (D := (dC, dI)) (ci := 10) (v := .int v_1) (ty := .int) (C := R_M) (T := T_M) (N := 30) hx hb hg in_M t_M tok_M nok_M hown hK hP hD hS 0 rfl rfl 24 (by decide) (hg _ t_782) (fun _ h9 => h9) rfl (by decide +kernel) rfl rfl (Nat.le_of_ble_eq_true rfl) d_M_fields_208 (fun H locs hP hD hS => ?_)
    have hP : va_P (dC, dI) vwCl [oM a_p0 A_p0 (upd (upd I_p0 23 v) 24 v_1), gz cI (A_p0 13) 8 f_p0_dirs, gz cI (A_p0 0) 2000 f_p0_file] H := hP
    have hD : va_D A [oM a_p0 A_p0 (upd (upd I_p0 23 v) 24 v_1), gz cI (A_p0 13) 8 f_p0_dirs, gz cI (A_p0 0) 2000 f_p0_file] := hD
    refine lv_aload_n hx hb d_M_fields_211 rfl (lv_at hl 0 rfl) ?_
    refine lv_lload hx hb d_M_fields_212 (lv_at hl 4 rfl) ?_
    refine lv_l2i hx hb d_M_fields_214 rfl ?_
    refine lv_topi (fun v_2 e_v_2 => ?_)
    have hw := hw v_2 e_v_2
    refine va_put (D := (dC, dI)) (ci := 10) (v := .int v_2) (ty := .int) (C := R_M) (T := T_M) (N := 30) hx hb hg in_M t_M tok_M nok_M hown hK hP hD hS 0 rfl rfl 25 (by decide) (hg _ t_783) (fun _ h9 => h9) rfl (by decide +kernel) rfl rfl (Nat.le_of_ble_eq_true rfl) d_M_fields_215 (fun H locs hP hD hS => ?_)
    have hP : va_P (dC, dI) vwCl [oM a_p0 A_p0 (upd (upd (upd I_p0 23 v) 24 v_1) 25 v_2), gz cI (A_p0 13) 8 f_p0_dirs, gz cI (A_p0 0) 2000 f_p0_file] H := hP
    have hD : va_D A [oM a_p0 A_p0 (upd (upd (upd I_p0 23 v) 24 v_1) 25 v_2), gz cI (A_p0 13) 8 f_p0_dirs, gz cI (A_p0 0) 2000 f_p0_file] := hD
    refine lv_aload_n hx hb d_M_fields_218 rfl (lv_at hl 0 rfl) ?_
    refine lv_lload hx hb d_M_fields_219 (lv_at hl 5 rfl) ?_
    refine lv_l2i hx hb d_M_fields_221 rfl ?_
    refine lv_topi (fun v_3 e_v_3 => ?_)
    have hw := hw v_3 e_v_3
    refine va_put (D := (dC, dI)) (ci := 10) (v := .int v_3) (ty := .int) (C := R_M) (T := T_M) (N := 30) hx hb hg in_M t_M tok_M nok_M hown hK hP hD hS 0 rfl rfl 26 (by decide) (hg _ t_784) (fun _ h9 => h9) rfl (by decide +kernel) rfl rfl (Nat.le_of_ble_eq_true rfl) d_M_fields_222 (fun H locs hP hD hS => ?_)
    have hP : va_P (dC, dI) vwCl [oM a_p0 A_p0 (upd (upd (upd (upd I_p0 23 v) 24 v_1) 25 v_2) 26 v_3), gz cI (A_p0 13) 8 f_p0_dirs, gz cI (A_p0 0) 2000 f_p0_file] H := hP
    have hD : va_D A [oM a_p0 A_p0 (upd (upd (upd (upd I_p0 23 v) 24 v_1) 25 v_2) 26 v_3), gz cI (A_p0 13) 8 f_p0_dirs, gz cI (A_p0 0) 2000 f_p0_file] := hD
    refine lv_aload_n hx hb d_M_fields_225 rfl (lv_at hl 0 rfl) ?_
    refine lv_lload hx hb d_M_fields_226 (lv_at hl 6 rfl) ?_
    refine lv_lload hx hb d_M_fields_228 (lv_at hl 3 rfl) ?_
    refine W.lcmp hx hb d_M_fields_230 ?_
    refine lv_if_ge hx hb d_M_fields_231 rfl (fun hc => ?_) (fun hc => ?_)
    · have hw := hw.1 ((lg_cmp_ge _ _).mp hc)
      refine lv_lload hx hb d_M_fields_239 (lv_at hl 3 rfl) ?_
      exact b241 _ _ _ (upd (upd (upd (upd I_p0 23 v) 24 v_1) 25 v_2) 26 v_3) f_p0_dirs x1 x12 x4 hP hD hS (lv_sub hl [0, 1, 7] rfl) hw
    · have hw := hw.2 (fun h9 => hc ((lg_cmp_ge _ _).mpr h9))
      refine lv_lload hx hb d_M_fields_234 (lv_at hl 6 rfl) ?_
      refine lv_goto hx hb d_M_fields_236 rfl ?_
      exact b241 _ _ _ (upd (upd (upd (upd I_p0 23 v) 24 v_1) 25 v_2) 26 v_3) f_p0_dirs x1 x12 x10 hP hD hS (lv_sub hl [0, 1, 7] rfl) hw
  have b171 : ∀ (H : Heap) (locs : List Loc) (ls : Array Slot) (I_p0 : Nat → Int32) (f_p0_dirs : Nat → Int32) (x1 : Int32) (x2 : Int64) (x4 : Int64) (x6 : Int64) (x8 : Int64) (x10 : Int64) (x12 : Int64), va_P (dC, dI) vwCl [oM a_p0 A_p0 I_p0, gz cI (A_p0 13) 8 f_p0_dirs, gz cI (A_p0 0) 2000 f_p0_file] H → va_D A [oM a_p0 A_p0 I_p0, gz cI (A_p0 13) 8 f_p0_dirs, gz cI (A_p0 0) 2000 f_p0_file] → va_S A s.heap H locs → lv_has ls 15 [(0, .ref a_p0), (1, .int x1), (2, .long x2), (4, .long x4), (6, .long x6), (8, .long x8), (10, .long x10), (12, .long x12)] → wp_M_fields_b171 post f_p0_file I_p0 f_p0_dirs x1 x2 x4 x6 x8 x10 x12 → W p l e ({ frames := 6, cells := 0, slots := 0, locals := 146 } : Room) s m args below meth c H locs 0 0 Q (F0 m 171 ls []) := by
    intro H locs ls I_p0 f_p0_dirs x1 x2 x4 x6 x8 x10 x12 hP hD hS hl hw
    unfold wp_M_fields_b171 at hw
    refine lv_lload hx hb d_M_fields_171 (lv_at hl 5 rfl) ?_
    refine lv_lconst (v := 1) hx hb d_M_fields_173 (by decide) ?_
    refine W.lcmp hx hb d_M_fields_174 ?_
    refine lv_if_eq hx hb d_M_fields_175 rfl (fun hc => ?_) (fun hc => ?_)
    · have hw := hw.1 ((lg_cmp_eq _ _).mp hc)
      exact b198 _ _ _ I_p0 f_p0_dirs x1 x2 x4 x6 x8 x10 x12 hP hD hS (lv_sub hl [0, 1, 2, 3, 4, 5, 6, 7] rfl) hw
    · have hw := hw.2 (fun h9 => hc ((lg_cmp_eq _ _).mpr h9))
      refine lv_lload hx hb d_M_fields_178 (lv_at hl 5 rfl) ?_
      refine lv_ldc2 (v := 5) hx hb hown (hg _ t_1038) d_M_fields_180 ?_
      refine W.lcmp hx hb d_M_fields_183 ?_
      refine lv_if_eq hx hb d_M_fields_184 rfl (fun hc => ?_) (fun hc => ?_)
      · have hw := hw.1 ((lg_cmp_eq _ _).mp hc)
        exact b198 _ _ _ I_p0 f_p0_dirs x1 x2 x4 x6 x8 x10 x12 hP hD hS (lv_sub hl [0, 1, 2, 3, 4, 5, 6, 7] rfl) hw
      · have hw := hw.2 (fun h9 => hc ((lg_cmp_eq _ _).mpr h9))
        refine lv_lload hx hb d_M_fields_187 (lv_at hl 5 rfl) ?_
        refine lv_ldc2 (v := 32773) hx hb hown (hg _ t_1039) d_M_fields_189 ?_
        refine W.lcmp hx hb d_M_fields_192 ?_
        refine lv_if_eq hx hb d_M_fields_193 rfl (fun hc => ?_) (fun hc => ?_)
        · have hw := hw.1 ((lg_cmp_eq _ _).mp hc)
          exact b198 _ _ _ I_p0 f_p0_dirs x1 x2 x4 x6 x8 x10 x12 hP hD hS (lv_sub hl [0, 1, 2, 3, 4, 5, 6, 7] rfl) hw
        · have hw := hw.2 (fun h9 => hc ((lg_cmp_eq _ _).mpr h9))
          refine lv_iconst (v := 0) hx hb d_M_fields_196 (by decide) ?_
          exact hret _ _ _ _ _ (I_p0, f_p0_dirs) d_M_fields_197 rfl hP hD hS hw
  have b72 : ∀ (H : Heap) (locs : List Loc) (ls : Array Slot) (I_p0 : Nat → Int32) (f_p0_dirs : Nat → Int32) (x1 : Int32) (x2 : Int64) (x4 : Int64) (x6 : Int64) (x8 : Int64) (x10 : Int64) (s0 : Int64), va_P (dC, dI) vwCl [oM a_p0 A_p0 I_p0, gz cI (A_p0 13) 8 f_p0_dirs, gz cI (A_p0 0) 2000 f_p0_file] H → va_D A [oM a_p0 A_p0 I_p0, gz cI (A_p0 13) 8 f_p0_dirs, gz cI (A_p0 0) 2000 f_p0_file] → va_S A s.heap H locs → lv_has ls 15 [(0, .ref a_p0), (1, .int x1), (2, .long x2), (4, .long x4), (6, .long x6), (8, .long x8), (10, .long x10)] → wp_M_fields_b72 post f_p0_file I_p0 f_p0_dirs x1 x2 x4 x6 x8 x10 s0 → W p l e ({ frames := 6, cells := 0, slots := 0, locals := 146 } : Room) s m args below meth c H locs 0 0 Q (F0 m 72 ls [.long s0]) := by
    intro H locs ls I_p0 f_p0_dirs x1 x2 x4 x6 x8 x10 s0 hP hD hS hl hw
    unfold wp_M_fields_b72 at hw
    refine lv_lstore (lv' := [(12, .long s0), (0, .ref a_p0), (1, .int x1), (2, .long x2), (4, .long x4), (6, .long x6), (8, .long x8), (10, .long x10)]) hx hb d_M_fields_72 hl (by decide) rfl (fun ls hl => ?_)
    refine lv_aload_n hx hb d_M_fields_74 rfl (lv_at hl 1 rfl) ?_
    refine lv_iload_n hx hb d_M_fields_75 rfl (lv_at hl 2 rfl) ?_
    refine gc_i (wn := fun (_ : Unit) => [oM a_p0 A_p0 I_p0, gz cI (A_p0 13) 8 f_p0_dirs, gz cI (A_p0 0) 2000 f_p0_file]) (wr := []) (gr_V (As := [.int x1]) (rest := []) ⟨hx, hb, hml, hown, hg⟩ (c_M_rising l dC dI cI a_p0 A_p0 I_p0 f_p0_dirs f_p0_file x1 hw _) (cwV 1 hg (gg_V t_1033 t_1035 t_52 t_71 t_1036) rfl rfl rfl (by decide +kernel) ⟨Nat.le_of_ble_eq_true rfl, Nat.le_of_ble_eq_true rfl⟩) hK hN hP hD [0, 1, 2] (by decide) rfl 0 10 rfl rfl rfl rfl hl.1 rfl (Nat.le_of_ble_eq_true rfl) d_M_fields_76 ⟨Nat.le_of_ble_eq_true rfl, Nat.le_of_ble_eq_true rfl⟩) rfl rfl hP hD hS hA [0, 1, 2] [] [0, 1, 2] rfl rfl (by decide) (by decide) (by decide) (fun _ => rfl) ?_
    intro r76 _ H locs hw hP hD hS
    try dsimp only at hw
    have hP : va_P (dC, dI) vwCl [oM a_p0 A_p0 I_p0, gz cI (A_p0 13) 8 f_p0_dirs, gz cI (A_p0 0) 2000 f_p0_file] H := hP
    have hD : va_D A [oM a_p0 A_p0 I_p0, gz cI (A_p0 13) 8 f_p0_dirs, gz cI (A_p0 0) 2000 f_p0_file] := hD
    refine lv_if_eq hx hb d_M_fields_79 rfl (fun hc => ?_) (fun hc => ?_)
    · have hw := hw.1 hc
      refine lv_iconst (v := 0) hx hb d_M_fields_135 (by decide) ?_
      exact hret _ _ _ _ _ (I_p0, f_p0_dirs) d_M_fields_136 rfl hP hD hS hw
    · have hw := hw.2 hc
      refine lv_lload_n hx hb d_M_fields_82 rfl (lv_at hl 3 rfl) ?_
      refine lv_lconst (v := 1) hx hb d_M_fields_83 (by decide) ?_
      refine W.lcmp hx hb d_M_fields_84 ?_
      refine lv_if_lt hx hb d_M_fields_85 rfl (fun hc => ?_) (fun hc => ?_)
      · have hw := hw.1 ((lg_cmp_lt _ _).mp hc)
        refine lv_iconst (v := 0) hx hb d_M_fields_135 (by decide) ?_
        exact hret _ _ _ _ _ (I_p0, f_p0_dirs) d_M_fields_136 rfl hP hD hS hw
      · have hw := hw.2 (fun h9 => hc ((lg_cmp_lt _ _).mpr h9))
        refine lv_lload_n hx hb d_M_fields_88 rfl (lv_at hl 3 rfl) ?_
        refine lv_ldc2 (v := 16) hx hb hown (hg _ t_1037) d_M_fields_89 ?_
        refine W.lcmp hx hb d_M_fields_92 ?_
        refine lv_if_gt hx hb d_M_fields_93 rfl (fun hc => ?_) (fun hc => ?_)
        · have hw := hw.1 ((lg_cmp_gt _ _).mp hc)
          refine lv_iconst (v := 0) hx hb d_M_fields_135 (by decide) ?_
          exact hret _ _ _ _ _ (I_p0, f_p0_dirs) d_M_fields_136 rfl hP hD hS hw
        · have hw := hw.2 (fun h9 => hc ((lg_cmp_gt _ _).mpr h9))
          refine lv_lload hx hb d_M_fields_96 (lv_at hl 4 rfl) ?_
          refine lv_lconst (v := 1) hx hb d_M_fields_98 (by decide) ?_
          refine W.lcmp hx hb d_M_fields_99 ?_
          refine lv_if_lt hx hb d_M_fields_100 rfl (fun hc => ?_) (fun hc => ?_)
          · have hw := hw.1 ((lg_cmp_lt _ _).mp hc)
            refine lv_iconst (v := 0) hx hb d_M_fields_135 (by decide) ?_
            exact hret _ _ _ _ _ (I_p0, f_p0_dirs) d_M_fields_136 rfl hP hD hS hw
          · have hw := hw.2 (fun h9 => hc ((lg_cmp_lt _ _).mpr h9))
            refine lv_lload hx hb d_M_fields_103 (lv_at hl 4 rfl) ?_
            refine lv_ldc2 (v := 16) hx hb hown (hg _ t_1037) d_M_fields_105 ?_
            refine W.lcmp hx hb d_M_fields_108 ?_
            refine lv_if_gt hx hb d_M_fields_109 rfl (fun hc => ?_) (fun hc => ?_)
            · have hw := hw.1 ((lg_cmp_gt _ _).mp hc)
              refine lv_iconst (v := 0) hx hb d_M_fields_135 (by decide) ?_
              exact hret _ _ _ _ _ (I_p0, f_p0_dirs) d_M_fields_136 rfl hP hD hS hw
            · have hw := hw.2 (fun h9 => hc ((lg_cmp_gt _ _).mpr h9))
              refine lv_lload hx hb d_M_fields_112 (lv_at hl 7 rfl) ?_
              refine lv_lconst (v := 1) hx hb d_M_fields_114 (by decide) ?_
              refine W.lcmp hx hb d_M_fields_115 ?_
              refine lv_if_lt hx hb d_M_fields_116 rfl (fun hc => ?_) (fun hc => ?_)
              · have hw := hw.1 ((lg_cmp_lt _ _).mp hc)
                refine lv_iconst (v := 0) hx hb d_M_fields_135 (by decide) ?_
                exact hret _ _ _ _ _ (I_p0, f_p0_dirs) d_M_fields_136 rfl hP hD hS hw
              · have hw := hw.2 (fun h9 => hc ((lg_cmp_lt _ _).mpr h9))
                refine lv_lload hx hb d_M_fields_119 (lv_at hl 0 rfl) ?_
                refine lv_lconst (v := 1) hx hb d_M_fields_121 (by decide) ?_
                refine W.lcmp hx hb d_M_fields_122 ?_
                refine lv_if_lt hx hb d_M_fields_123 rfl (fun hc => ?_) (fun hc => ?_)
                · have hw := hw.1 ((lg_cmp_lt _ _).mp hc)
                  refine lv_iconst (v := 0) hx hb d_M_fields_135 (by decide) ?_
                  exact hret _ _ _ _ _ (I_p0, f_p0_dirs) d_M_fields_136 rfl hP hD hS hw
                · have hw := hw.2 (fun h9 => hc ((lg_cmp_lt _ _).mpr h9))
                  refine lv_lload hx hb d_M_fields_126 (lv_at hl 0 rfl) ?_
                  refine lv_ldc2 (v := 2) hx hb hown (hg _ t_911) d_M_fields_128 ?_
                  refine W.lcmp hx hb d_M_fields_131 ?_
                  refine lv_if_le hx hb d_M_fields_132 rfl (fun hc => ?_) (fun hc => ?_)
                  · have hw := hw.1 ((lg_cmp_le _ _).mp hc)
                    refine lv_lload hx hb d_M_fields_137 (lv_at hl 5 rfl) ?_
                    refine lv_lconst (v := 1) hx hb d_M_fields_139 (by decide) ?_
                    refine W.lcmp hx hb d_M_fields_140 ?_
                    refine lv_if_eq hx hb d_M_fields_141 rfl (fun hc => ?_) (fun hc => ?_)
                    · have hw := hw.1 ((lg_cmp_eq _ _).mp hc)
                      exact b171 _ _ _ I_p0 f_p0_dirs x1 x2 x4 x6 x8 x10 s0 hP hD hS (lv_sub hl [1, 2, 3, 4, 5, 6, 7, 0] rfl) hw
                    · have hw := hw.2 (fun h9 => hc ((lg_cmp_eq _ _).mpr h9))
                      refine lv_lload hx hb d_M_fields_144 (lv_at hl 5 rfl) ?_
                      refine lv_ldc2 (v := 2) hx hb hown (hg _ t_911) d_M_fields_146 ?_
                      refine W.lcmp hx hb d_M_fields_149 ?_
                      refine lv_if_eq hx hb d_M_fields_150 rfl (fun hc => ?_) (fun hc => ?_)
                      · have hw := hw.1 ((lg_cmp_eq _ _).mp hc)
                        exact b171 _ _ _ I_p0 f_p0_dirs x1 x2 x4 x6 x8 x10 s0 hP hD hS (lv_sub hl [1, 2, 3, 4, 5, 6, 7, 0] rfl) hw
                      · have hw := hw.2 (fun h9 => hc ((lg_cmp_eq _ _).mpr h9))
                        refine lv_lload hx hb d_M_fields_153 (lv_at hl 5 rfl) ?_
                        refine lv_ldc2 (v := 4) hx hb hown (hg _ t_936) d_M_fields_155 ?_
                        refine W.lcmp hx hb d_M_fields_158 ?_
                        refine lv_if_eq hx hb d_M_fields_159 rfl (fun hc => ?_) (fun hc => ?_)
                        · have hw := hw.1 ((lg_cmp_eq _ _).mp hc)
                          exact b171 _ _ _ I_p0 f_p0_dirs x1 x2 x4 x6 x8 x10 s0 hP hD hS (lv_sub hl [1, 2, 3, 4, 5, 6, 7, 0] rfl) hw
                        · have hw := hw.2 (fun h9 => hc ((lg_cmp_eq _ _).mpr h9))
                          refine lv_lload hx hb d_M_fields_162 (lv_at hl 5 rfl) ?_
                          refine lv_ldc2 (v := 8) hx hb hown (hg _ t_912) d_M_fields_164 ?_
                          refine W.lcmp hx hb d_M_fields_167 ?_
                          refine lv_if_ne hx hb d_M_fields_168 rfl (fun hc => ?_) (fun hc => ?_)
                          · have hw := hw.2 (fun h9 => hc ((lg_cmp_eq _ _).mpr h9))
                            refine lv_iconst (v := 0) hx hb d_M_fields_196 (by decide) ?_
                            exact hret _ _ _ _ _ (I_p0, f_p0_dirs) d_M_fields_197 rfl hP hD hS hw
                          · have hw := hw.1 ((lg_cmp_eq _ _).mp hc)
                            exact b171 _ _ _ I_p0 f_p0_dirs x1 x2 x4 x6 x8 x10 s0 hP hD hS (lv_sub hl [1, 2, 3, 4, 5, 6, 7, 0] rfl) hw
                  · have hw := hw.2 (fun h9 => hc ((lg_cmp_le _ _).mpr h9))
                    refine lv_iconst (v := 0) hx hb d_M_fields_135 (by decide) ?_
                    exact hret _ _ _ _ _ (I_p0, f_p0_dirs) d_M_fields_136 rfl hP hD hS hw
  intro ls hl hP hD hS
  have hl : lv_has ls 15 [(0, .ref a_p0), (1, .int x1)] := hl
  unfold wp_M_fields at hw
  refine lv_aload_n hx hb d_M_fields_0 rfl (lv_at hl 0 rfl) ?_
  refine lv_iload_n hx hb d_M_fields_1 rfl (lv_at hl 1 rfl) ?_
  refine lv_sipush (v := 256) hx hb d_M_fields_2 (by decide) ?_
  refine gc_l (wn := fun u => [oM a_p0 A_p0 u.1, gz cI (A_p0 13) 8 u.2, gz cI (A_p0 0) 2000 f_p0_file]) (wr := []) (gr_V (As := [.int x1, .int 256]) (rest := []) ⟨hx, hb, hml, hown, hg⟩ (c_M_one l dC dI cI a_p0 A_p0 f_p0_file I_p0 f_p0_dirs x1 256 hw _) (cwV 2 hg (gg_V t_1024 t_1026 t_50 t_71 t_1027) rfl rfl rfl (by decide +kernel) ⟨Nat.le_of_ble_eq_true rfl, Nat.le_of_ble_eq_true rfl⟩) hK hN hP hD [0, 1, 2] (by decide) rfl 0 10 rfl rfl rfl rfl hl.1 rfl (Nat.le_of_ble_eq_true rfl) d_M_fields_5 ⟨Nat.le_of_ble_eq_true rfl, Nat.le_of_ble_eq_true rfl⟩) rfl rfl hP hD hS hA [0, 1, 2] [] [0, 1, 2] rfl rfl (by decide) (by decide) (by decide) (fun _ => rfl) ?_
  intro r5 u9 H locs hw hP hD hS
  obtain ⟨I_p0_5, f_p0_dirs_5⟩ := u9
  try dsimp only at hw
  have hP : va_P (dC, dI) vwCl [oM a_p0 A_p0 I_p0_5, gz cI (A_p0 13) 8 f_p0_dirs_5, gz cI (A_p0 0) 2000 f_p0_file] H := hP
  have hD : va_D A [oM a_p0 A_p0 I_p0_5, gz cI (A_p0 13) 8 f_p0_dirs_5, gz cI (A_p0 0) 2000 f_p0_file] := hD
  refine lv_lstore_n (lv' := [(2, .long r5), (0, .ref a_p0), (1, .int x1)]) hx hb d_M_fields_8 rfl hl (by decide) rfl (fun ls hl => ?_)
  refine lv_aload_n hx hb d_M_fields_9 rfl (lv_at hl 1 rfl) ?_
  refine lv_iload_n hx hb d_M_fields_10 rfl (lv_at hl 2 rfl) ?_
  refine lv_sipush (v := 257) hx hb d_M_fields_11 (by decide) ?_
  refine gc_l (wn := fun u => [oM a_p0 A_p0 u.1, gz cI (A_p0 13) 8 u.2, gz cI (A_p0 0) 2000 f_p0_file]) (wr := []) (gr_V (As := [.int x1, .int 257]) (rest := []) ⟨hx, hb, hml, hown, hg⟩ (c_M_one l dC dI cI a_p0 A_p0 f_p0_file I_p0_5 f_p0_dirs_5 x1 257 hw _) (cwV 2 hg (gg_V t_1024 t_1026 t_50 t_71 t_1027) rfl rfl rfl (by decide +kernel) ⟨Nat.le_of_ble_eq_true rfl, Nat.le_of_ble_eq_true rfl⟩) hK hN hP hD [0, 1, 2] (by decide) rfl 0 10 rfl rfl rfl rfl hl.1 rfl (Nat.le_of_ble_eq_true rfl) d_M_fields_14 ⟨Nat.le_of_ble_eq_true rfl, Nat.le_of_ble_eq_true rfl⟩) rfl rfl hP hD hS hA [0, 1, 2] [] [0, 1, 2] rfl rfl (by decide) (by decide) (by decide) (fun _ => rfl) ?_
  intro r14 u9 H locs hw hP hD hS
  obtain ⟨I_p0_14, f_p0_dirs_14⟩ := u9
  try dsimp only at hw
  have hP : va_P (dC, dI) vwCl [oM a_p0 A_p0 I_p0_14, gz cI (A_p0 13) 8 f_p0_dirs_14, gz cI (A_p0 0) 2000 f_p0_file] H := hP
  have hD : va_D A [oM a_p0 A_p0 I_p0_14, gz cI (A_p0 13) 8 f_p0_dirs_14, gz cI (A_p0 0) 2000 f_p0_file] := hD
  refine lv_lstore (lv' := [(4, .long r14), (2, .long r5), (0, .ref a_p0), (1, .int x1)]) hx hb d_M_fields_17 hl (by decide) rfl (fun ls hl => ?_)
  refine lv_aload_n hx hb d_M_fields_19 rfl (lv_at hl 2 rfl) ?_
  refine lv_iload_n hx hb d_M_fields_20 rfl (lv_at hl 3 rfl) ?_
  refine lv_sipush (v := 258) hx hb d_M_fields_21 (by decide) ?_
  refine gc_l (wn := fun u => [oM a_p0 A_p0 u.1, gz cI (A_p0 13) 8 u.2, gz cI (A_p0 0) 2000 f_p0_file]) (wr := []) (gr_V (As := [.int x1, .int 258]) (rest := []) ⟨hx, hb, hml, hown, hg⟩ (c_M_one l dC dI cI a_p0 A_p0 f_p0_file I_p0_14 f_p0_dirs_14 x1 258 hw _) (cwV 2 hg (gg_V t_1024 t_1026 t_50 t_71 t_1027) rfl rfl rfl (by decide +kernel) ⟨Nat.le_of_ble_eq_true rfl, Nat.le_of_ble_eq_true rfl⟩) hK hN hP hD [0, 1, 2] (by decide) rfl 0 10 rfl rfl rfl rfl hl.1 rfl (Nat.le_of_ble_eq_true rfl) d_M_fields_24 ⟨Nat.le_of_ble_eq_true rfl, Nat.le_of_ble_eq_true rfl⟩) rfl rfl hP hD hS hA [0, 1, 2] [] [0, 1, 2] rfl rfl (by decide) (by decide) (by decide) (fun _ => rfl) ?_
  intro r24 u9 H locs hw hP hD hS
  obtain ⟨I_p0_24, f_p0_dirs_24⟩ := u9
  try dsimp only at hw
  have hP : va_P (dC, dI) vwCl [oM a_p0 A_p0 I_p0_24, gz cI (A_p0 13) 8 f_p0_dirs_24, gz cI (A_p0 0) 2000 f_p0_file] H := hP
  have hD : va_D A [oM a_p0 A_p0 I_p0_24, gz cI (A_p0 13) 8 f_p0_dirs_24, gz cI (A_p0 0) 2000 f_p0_file] := hD
  refine lv_lstore (lv' := [(6, .long r24), (4, .long r14), (2, .long r5), (0, .ref a_p0), (1, .int x1)]) hx hb d_M_fields_27 hl (by decide) rfl (fun ls hl => ?_)
  refine lv_aload_n hx hb d_M_fields_29 rfl (lv_at hl 3 rfl) ?_
  refine lv_iload_n hx hb d_M_fields_30 rfl (lv_at hl 4 rfl) ?_
  refine lv_sipush (v := 259) hx hb d_M_fields_31 (by decide) ?_
  refine gc_l (wn := fun u => [oM a_p0 A_p0 u.1, gz cI (A_p0 13) 8 u.2, gz cI (A_p0 0) 2000 f_p0_file]) (wr := []) (gr_V (As := [.int x1, .int 259]) (rest := []) ⟨hx, hb, hml, hown, hg⟩ (c_M_one l dC dI cI a_p0 A_p0 f_p0_file I_p0_24 f_p0_dirs_24 x1 259 hw _) (cwV 2 hg (gg_V t_1024 t_1026 t_50 t_71 t_1027) rfl rfl rfl (by decide +kernel) ⟨Nat.le_of_ble_eq_true rfl, Nat.le_of_ble_eq_true rfl⟩) hK hN hP hD [0, 1, 2] (by decide) rfl 0 10 rfl rfl rfl rfl hl.1 rfl (Nat.le_of_ble_eq_true rfl) d_M_fields_34 ⟨Nat.le_of_ble_eq_true rfl, Nat.le_of_ble_eq_true rfl⟩) rfl rfl hP hD hS hA [0, 1, 2] [] [0, 1, 2] rfl rfl (by decide) (by decide) (by decide) (fun _ => rfl) ?_
  intro r34 u9 H locs hw hP hD hS
  obtain ⟨I_p0_34, f_p0_dirs_34⟩ := u9
  try dsimp only at hw
  have hP : va_P (dC, dI) vwCl [oM a_p0 A_p0 I_p0_34, gz cI (A_p0 13) 8 f_p0_dirs_34, gz cI (A_p0 0) 2000 f_p0_file] H := hP
  have hD : va_D A [oM a_p0 A_p0 I_p0_34, gz cI (A_p0 13) 8 f_p0_dirs_34, gz cI (A_p0 0) 2000 f_p0_file] := hD
  refine lv_lstore (lv' := [(8, .long r34), (6, .long r24), (4, .long r14), (2, .long r5), (0, .ref a_p0), (1, .int x1)]) hx hb d_M_fields_37 hl (by decide) rfl (fun ls hl => ?_)
  refine lv_aload_n hx hb d_M_fields_39 rfl (lv_at hl 4 rfl) ?_
  refine lv_iload_n hx hb d_M_fields_40 rfl (lv_at hl 5 rfl) ?_
  refine lv_sipush (v := 278) hx hb d_M_fields_41 (by decide) ?_
  refine gc_l (wn := fun u => [oM a_p0 A_p0 u.1, gz cI (A_p0 13) 8 u.2, gz cI (A_p0 0) 2000 f_p0_file]) (wr := []) (gr_V (As := [.int x1, .int 278]) (rest := []) ⟨hx, hb, hml, hown, hg⟩ (c_M_one l dC dI cI a_p0 A_p0 f_p0_file I_p0_34 f_p0_dirs_34 x1 278 hw _) (cwV 2 hg (gg_V t_1024 t_1026 t_50 t_71 t_1027) rfl rfl rfl (by decide +kernel) ⟨Nat.le_of_ble_eq_true rfl, Nat.le_of_ble_eq_true rfl⟩) hK hN hP hD [0, 1, 2] (by decide) rfl 0 10 rfl rfl rfl rfl hl.1 rfl (Nat.le_of_ble_eq_true rfl) d_M_fields_44 ⟨Nat.le_of_ble_eq_true rfl, Nat.le_of_ble_eq_true rfl⟩) rfl rfl hP hD hS hA [0, 1, 2] [] [0, 1, 2] rfl rfl (by decide) (by decide) (by decide) (fun _ => rfl) ?_
  intro r44 u9 H locs hw hP hD hS
  obtain ⟨I_p0_44, f_p0_dirs_44⟩ := u9
  try dsimp only at hw
  have hP : va_P (dC, dI) vwCl [oM a_p0 A_p0 I_p0_44, gz cI (A_p0 13) 8 f_p0_dirs_44, gz cI (A_p0 0) 2000 f_p0_file] H := hP
  have hD : va_D A [oM a_p0 A_p0 I_p0_44, gz cI (A_p0 13) 8 f_p0_dirs_44, gz cI (A_p0 0) 2000 f_p0_file] := hD
  refine lv_lstore (lv' := [(10, .long r44), (8, .long r34), (6, .long r24), (4, .long r14), (2, .long r5), (0, .ref a_p0), (1, .int x1)]) hx hb d_M_fields_47 hl (by decide) rfl (fun ls hl => ?_)
  refine lv_aload_n hx hb d_M_fields_49 rfl (lv_at hl 5 rfl) ?_
  refine lv_iload_n hx hb d_M_fields_50 rfl (lv_at hl 6 rfl) ?_
  refine lv_sipush (v := 317) hx hb d_M_fields_51 (by decide) ?_
  refine gc_i (wn := fun u => [oM a_p0 A_p0 u.1, gz cI (A_p0 13) 8 u.2, gz cI (A_p0 0) 2000 f_p0_file]) (wr := []) (gr_V (As := [.int x1, .int 317]) (rest := []) ⟨hx, hb, hml, hown, hg⟩ (c_M_entry l dC dI cI a_p0 A_p0 f_p0_file I_p0_44 f_p0_dirs_44 x1 317 hw _) (cwV 2 hg (gg_V t_923 t_925 t_30 t_71 t_926) rfl rfl rfl (by decide +kernel) ⟨Nat.le_of_ble_eq_true rfl, Nat.le_of_ble_eq_true rfl⟩) hK hN hP hD [0, 1, 2] (by decide) rfl 0 10 rfl rfl rfl rfl hl.1 rfl (Nat.le_of_ble_eq_true rfl) d_M_fields_54 ⟨Nat.le_of_ble_eq_true rfl, Nat.le_of_ble_eq_true rfl⟩) rfl rfl hP hD hS hA [0, 1, 2] [] [0, 1, 2] rfl rfl (by decide) (by decide) (by decide) (fun _ => rfl) ?_
  intro r54 u9 H locs hw hP hD hS
  obtain ⟨I_p0_54, f_p0_dirs_54⟩ := u9
  try dsimp only at hw
  have hP : va_P (dC, dI) vwCl [oM a_p0 A_p0 I_p0_54, gz cI (A_p0 13) 8 f_p0_dirs_54, gz cI (A_p0 0) 2000 f_p0_file] H := hP
  have hD : va_D A [oM a_p0 A_p0 I_p0_54, gz cI (A_p0 13) 8 f_p0_dirs_54, gz cI (A_p0 0) 2000 f_p0_file] := hD
  refine lv_if_ge hx hb d_M_fields_57 rfl (fun hc => ?_) (fun hc => ?_)
  · have hw := hw.1 hc
    refine lv_aload_n hx hb d_M_fields_64 rfl (lv_at hl 5 rfl) ?_
    refine lv_iload_n hx hb d_M_fields_65 rfl (lv_at hl 6 rfl) ?_
    refine lv_sipush (v := 317) hx hb d_M_fields_66 (by decide) ?_
    refine gc_l (wn := fun u => [oM a_p0 A_p0 u.1, gz cI (A_p0 13) 8 u.2, gz cI (A_p0 0) 2000 f_p0_file]) (wr := []) (gr_V (As := [.int x1, .int 317]) (rest := []) ⟨hx, hb, hml, hown, hg⟩ (c_M_one l dC dI cI a_p0 A_p0 f_p0_file I_p0_54 f_p0_dirs_54 x1 317 hw _) (cwV 2 hg (gg_V t_1024 t_1026 t_50 t_71 t_1027) rfl rfl rfl (by decide +kernel) ⟨Nat.le_of_ble_eq_true rfl, Nat.le_of_ble_eq_true rfl⟩) hK hN hP hD [0, 1, 2] (by decide) rfl 0 10 rfl rfl rfl rfl hl.1 rfl (Nat.le_of_ble_eq_true rfl) d_M_fields_69 ⟨Nat.le_of_ble_eq_true rfl, Nat.le_of_ble_eq_true rfl⟩) rfl rfl hP hD hS hA [0, 1, 2] [] [0, 1, 2] rfl rfl (by decide) (by decide) (by decide) (fun _ => rfl) ?_
    intro r69 u9 H locs hw hP hD hS
    obtain ⟨I_p0_69, f_p0_dirs_69⟩ := u9
    try dsimp only at hw
    have hP : va_P (dC, dI) vwCl [oM a_p0 A_p0 I_p0_69, gz cI (A_p0 13) 8 f_p0_dirs_69, gz cI (A_p0 0) 2000 f_p0_file] H := hP
    have hD : va_D A [oM a_p0 A_p0 I_p0_69, gz cI (A_p0 13) 8 f_p0_dirs_69, gz cI (A_p0 0) 2000 f_p0_file] := hD
    exact b72 _ _ _ I_p0_69 f_p0_dirs_69 x1 r5 r14 r24 r34 r44 r69 hP hD hS (lv_sub hl [5, 6, 4, 3, 2, 1, 0] rfl) hw
  · have hw := hw.2 hc
    refine lv_lconst (v := 1) hx hb d_M_fields_60 (by decide) ?_
    refine lv_goto hx hb d_M_fields_61 rfl ?_
    exact b72 _ _ _ I_p0_54 f_p0_dirs_54 x1 r5 r14 r24 r34 r44 1 hP hD hS (lv_sub hl [5, 6, 4, 3, 2, 1, 0] rfl) hw
theorem d_M_fill_0 : decode b_M_fill 0 = .ok (.iload_n 3, 1) := by decide +kernel
theorem d_M_fill_1 : decode b_M_fill 1 = .ok (.iconst 1, 1) := by decide +kernel
theorem d_M_fill_2 : decode b_M_fill 2 = .ok (.if_icmp .lt 70, 3) := by decide +kernel
theorem d_M_fill_5 : decode b_M_fill 5 = .ok (.iload 4, 2) := by decide +kernel
theorem d_M_fill_7 : decode b_M_fill 7 = .ok (.iconst 1, 1) := by decide +kernel
theorem d_M_fill_8 : decode b_M_fill 8 = .ok (.if_icmp .lt 64, 3) := by decide +kernel
theorem d_M_fill_11 : decode b_M_fill 11 = .ok (.iload_n 1, 1) := by decide +kernel
theorem d_M_fill_12 : decode b_M_fill 12 = .ok (.ifCond .lt 60, 3) := by decide +kernel
theorem d_M_fill_15 : decode b_M_fill 15 = .ok (.iload_n 2, 1) := by decide +kernel
theorem d_M_fill_16 : decode b_M_fill 16 = .ok (.ifCond .lt 56, 3) := by decide +kernel
theorem d_M_fill_19 : decode b_M_fill 19 = .ok (.iload_n 1, 1) := by decide +kernel
theorem d_M_fill_20 : decode b_M_fill 20 = .ok (.aload_n 0, 1) := by decide +kernel
theorem d_M_fill_21 : decode b_M_fill 21 = .ok (.getfield 13, 3) := by decide +kernel
theorem d_M_fill_24 : decode b_M_fill 24 = .ok (.if_icmp .ge 48, 3) := by decide +kernel
theorem d_M_fill_27 : decode b_M_fill 27 = .ok (.iload_n 2, 1) := by decide +kernel
theorem d_M_fill_28 : decode b_M_fill 28 = .ok (.aload_n 0, 1) := by decide +kernel
theorem d_M_fill_29 : decode b_M_fill 29 = .ok (.getfield 17, 3) := by decide +kernel
theorem d_M_fill_32 : decode b_M_fill 32 = .ok (.if_icmp .ge 40, 3) := by decide +kernel
theorem d_M_fill_35 : decode b_M_fill 35 = .ok (.iload_n 3, 1) := by decide +kernel
theorem d_M_fill_36 : decode b_M_fill 36 = .ok (.aload_n 0, 1) := by decide +kernel
theorem d_M_fill_37 : decode b_M_fill 37 = .ok (.getfield 13, 3) := by decide +kernel
theorem d_M_fill_40 : decode b_M_fill 40 = .ok (.iload_n 1, 1) := by decide +kernel
theorem d_M_fill_41 : decode b_M_fill 41 = .ok (.isub, 1) := by decide +kernel
theorem d_M_fill_42 : decode b_M_fill 42 = .ok (.if_icmp .gt 30, 3) := by decide +kernel
theorem d_M_fill_45 : decode b_M_fill 45 = .ok (.iload 4, 2) := by decide +kernel
theorem d_M_fill_47 : decode b_M_fill 47 = .ok (.aload_n 0, 1) := by decide +kernel
theorem d_M_fill_48 : decode b_M_fill 48 = .ok (.getfield 17, 3) := by decide +kernel
theorem d_M_fill_51 : decode b_M_fill 51 = .ok (.iload_n 2, 1) := by decide +kernel
theorem d_M_fill_52 : decode b_M_fill 52 = .ok (.isub, 1) := by decide +kernel
theorem d_M_fill_53 : decode b_M_fill 53 = .ok (.if_icmp .gt 19, 3) := by decide +kernel
theorem d_M_fill_56 : decode b_M_fill 56 = .ok (.iload 5, 2) := by decide +kernel
theorem d_M_fill_58 : decode b_M_fill 58 = .ok (.ifCond .lt 14, 3) := by decide +kernel
theorem d_M_fill_61 : decode b_M_fill 61 = .ok (.iload 5, 2) := by decide +kernel
theorem d_M_fill_63 : decode b_M_fill 63 = .ok (.iconst 1, 1) := by decide +kernel
theorem d_M_fill_64 : decode b_M_fill 64 = .ok (.aload_n 0, 1) := by decide +kernel
theorem d_M_fill_65 : decode b_M_fill 65 = .ok (.getfield 20, 3) := by decide +kernel
theorem d_M_fill_68 : decode b_M_fill 68 = .ok (.ishl, 1) := by decide +kernel
theorem d_M_fill_69 : decode b_M_fill 69 = .ok (.if_icmp .lt 5, 3) := by decide +kernel
theorem d_M_fill_72 : decode b_M_fill 72 = .ok (.iconst 0, 1) := by decide +kernel
theorem d_M_fill_73 : decode b_M_fill 73 = .ok (.ireturn, 1) := by decide +kernel
theorem d_M_fill_74 : decode b_M_fill 74 = .ok (.iload_n 2, 1) := by decide +kernel
theorem d_M_fill_75 : decode b_M_fill 75 = .ok (.istore 6, 2) := by decide +kernel
theorem d_M_fill_77 : decode b_M_fill 77 = .ok (.iload 6, 2) := by decide +kernel
theorem d_M_fill_79 : decode b_M_fill 79 = .ok (.iload_n 2, 1) := by decide +kernel
theorem d_M_fill_80 : decode b_M_fill 80 = .ok (.iload 4, 2) := by decide +kernel
theorem d_M_fill_82 : decode b_M_fill 82 = .ok (.iadd, 1) := by decide +kernel
theorem d_M_fill_83 : decode b_M_fill 83 = .ok (.if_icmp .ge 41, 3) := by decide +kernel
theorem d_M_fill_86 : decode b_M_fill 86 = .ok (.iload_n 1, 1) := by decide +kernel
theorem d_M_fill_87 : decode b_M_fill 87 = .ok (.istore 7, 2) := by decide +kernel
theorem d_M_fill_89 : decode b_M_fill 89 = .ok (.iload 7, 2) := by decide +kernel
theorem d_M_fill_91 : decode b_M_fill 91 = .ok (.iload_n 1, 1) := by decide +kernel
theorem d_M_fill_92 : decode b_M_fill 92 = .ok (.iload_n 3, 1) := by decide +kernel
theorem d_M_fill_93 : decode b_M_fill 93 = .ok (.iadd, 1) := by decide +kernel
theorem d_M_fill_94 : decode b_M_fill 94 = .ok (.if_icmp .ge 24, 3) := by decide +kernel
theorem d_M_fill_97 : decode b_M_fill 97 = .ok (.aload_n 0, 1) := by decide +kernel
theorem d_M_fill_98 : decode b_M_fill 98 = .ok (.getfield 23, 3) := by decide +kernel
theorem d_M_fill_101 : decode b_M_fill 101 = .ok (.bipush 16, 2) := by decide +kernel
theorem d_M_fill_103 : decode b_M_fill 103 = .ok (.iload 6, 2) := by decide +kernel
theorem d_M_fill_105 : decode b_M_fill 105 = .ok (.imul, 1) := by decide +kernel
theorem d_M_fill_106 : decode b_M_fill 106 = .ok (.iload 7, 2) := by decide +kernel
theorem d_M_fill_108 : decode b_M_fill 108 = .ok (.iadd, 1) := by decide +kernel
theorem d_M_fill_109 : decode b_M_fill 109 = .ok (.iload 5, 2) := by decide +kernel
theorem d_M_fill_111 : decode b_M_fill 111 = .ok (.iastore, 1) := by decide +kernel
theorem d_M_fill_112 : decode b_M_fill 112 = .ok (.iinc 7 1, 3) := by decide +kernel
theorem d_M_fill_115 : decode b_M_fill 115 = .ok (.goto (-26), 3) := by decide +kernel
theorem d_M_fill_118 : decode b_M_fill 118 = .ok (.iinc 6 1, 3) := by decide +kernel
theorem d_M_fill_121 : decode b_M_fill 121 = .ok (.goto (-44), 3) := by decide +kernel
theorem d_M_fill_124 : decode b_M_fill 124 = .ok (.iconst 1, 1) := by decide +kernel
theorem d_M_fill_125 : decode b_M_fill 125 = .ok (.ireturn, 1) := by decide +kernel
def wp_M_fill_l89 (post : Int32 → (Nat → Int32) → Prop) (k77 : (Nat → Int32) → Int32 → Int32 → Int32 → Int32 → Int32 → Int32 → Prop) (I_p0 : Nat → Int32) : Nat → (Nat → Int32) → Int32 → Int32 → Int32 → Int32 → Int32 → Int32 → Int32 → Prop
  | 0, _, _, _, _, _, _, _, _ => False
  | n + 1, f_p0_samples, x1, x2, x3, x4, x5, x6, x7 =>
    (((x1 + x3) ≤ x7 →
      k77 f_p0_samples x1 x2 x3 x4 x5 (x6 + 1)) ∧
     (¬ (x1 + x3) ≤ x7 →
      vp_in ((16 * x6) + x7) 256 ∧
      wp_M_fill_l89 post k77 I_p0 n (upd f_p0_samples ((16 * x6) + x7).toNatClampNeg x5) x1 x2 x3 x4 x5 x6 (x7 + 1)))
def wp_M_fill_l77 (post : Int32 → (Nat → Int32) → Prop) (I_p0 : Nat → Int32) : Nat → (Nat → Int32) → Int32 → Int32 → Int32 → Int32 → Int32 → Int32 → Prop
  | 0, _, _, _, _, _, _, _ => False
  | n + 1, f_p0_samples, x1, x2, x3, x4, x5, x6 =>
    (((x2 + x4) ≤ x6 →
      post 1 f_p0_samples) ∧
     (¬ (x2 + x4) ≤ x6 →
      (∃ n1 : Nat, wp_M_fill_l89 post (wp_M_fill_l77 post I_p0 n) I_p0 n1 f_p0_samples x1 x2 x3 x4 x5 x6 x1)))
def wp_M_fill (post : Int32 → (Nat → Int32) → Prop) (I_p0 : Nat → Int32) (f_p0_samples : Nat → Int32) (x1 : Int32) (x2 : Int32) (x3 : Int32) (x4 : Int32) (x5 : Int32) : Prop :=
  ((x3 < 1 →
    post 0 f_p0_samples) ∧
   (¬ x3 < 1 →
    ((x4 < 1 →
      post 0 f_p0_samples) ∧
     (¬ x4 < 1 →
      ((x1 < 0 →
        post 0 f_p0_samples) ∧
       (¬ x1 < 0 →
        ((x2 < 0 →
          post 0 f_p0_samples) ∧
         (¬ x2 < 0 →
          (((I_p0 3) ≤ x1 →
            post 0 f_p0_samples) ∧
           (¬ (I_p0 3) ≤ x1 →
            (((I_p0 4) ≤ x2 →
              post 0 f_p0_samples) ∧
             (¬ (I_p0 4) ≤ x2 →
              ((((I_p0 3) - x1) < x3 →
                post 0 f_p0_samples) ∧
               (¬ ((I_p0 3) - x1) < x3 →
                ((((I_p0 4) - x2) < x4 →
                  post 0 f_p0_samples) ∧
                 (¬ ((I_p0 4) - x2) < x4 →
                  ((x5 < 0 →
                    post 0 f_p0_samples) ∧
                   (¬ x5 < 0 →
                    ((x5 < (1 <<< ((I_p0 5) &&& 31)) →
                      (∃ n1 : Nat, wp_M_fill_l77 post I_p0 n1 f_p0_samples x1 x2 x3 x4 x5 x2)) ∧
                     (¬ x5 < (1 <<< ((I_p0 5) &&& 31)) →
                      post 0 f_p0_samples))))))))))))))))))))
set_option maxRecDepth 100000 in
set_option maxHeartbeats 4000000 in
theorem c_M_fill (l : Launch) (dC : Nat → ClassId) (dI : Nat → Nat → Nat) (cI : ClassId) (a_p0 : Nat) (A_p0 : Nat → Nat) (I_p0 : Nat → Int32) (f_p0_samples : Nat → Int32) (x1 : Int32) (x2 : Int32) (x3 : Int32) (x4 : Int32) (x5 : Int32) {post : Int32 → (Nat → Int32) → Prop} (hw : wp_M_fill post I_p0 f_p0_samples x1 x2 x3 x4 x5) : gm_i l y_M_fill ws_M_fill ({ frames := 0, cells := 0, slots := 0, locals := 0 } : Room) (dC, dI) vwCl [(cI, .int)] [.ref a_p0, .int x1, .int x2, .int x3, .int x4, .int x5] [oM a_p0 A_p0 I_p0, gz cI (A_p0 6) 256 f_p0_samples] (fun (u : (Nat → Int32)) => [oM a_p0 A_p0 I_p0, gz cI (A_p0 6) 256 u]) (fun (r : Int32) (u : (Nat → Int32)) => post r u) := by
  refine gm_iof (cc := b_M_fill) (maxL := 8) (ty := .boolean) (by decide) rfl (Nat.le_of_ble_eq_true rfl) ?_
  intro p e s m args below meth c A Q hx hb hml hown hg hK hN hA hret
  have hown : s.vm.findClass R_M = some m.cls := hown
  have l89 : ∀ (k77 : (Nat → Int32) → Int32 → Int32 → Int32 → Int32 → Int32 → Int32 → Prop), (∀ (H : Heap) (locs : List Loc) (ls : Array Slot) (f_p0_samples : Nat → Int32) (x1 : Int32) (x2 : Int32) (x3 : Int32) (x4 : Int32) (x5 : Int32) (x6 : Int32), va_P (dC, dI) vwCl [oM a_p0 A_p0 I_p0, gz cI (A_p0 6) 256 f_p0_samples] H → va_D A [oM a_p0 A_p0 I_p0, gz cI (A_p0 6) 256 f_p0_samples] → va_S A s.heap H locs → lv_has ls 8 [(0, .ref a_p0), (1, .int x1), (2, .int x2), (3, .int x3), (4, .int x4), (5, .int x5), (6, .int x6)] → k77 f_p0_samples x1 x2 x3 x4 x5 x6 → W p l e ({ frames := 0, cells := 0, slots := 0, locals := 0 } : Room) s m args below meth c H locs 0 0 Q (F0 m 77 ls [])) → ∀ n : Nat, ∀ (H : Heap) (locs : List Loc) (ls : Array Slot) (f_p0_samples : Nat → Int32) (x1 : Int32) (x2 : Int32) (x3 : Int32) (x4 : Int32) (x5 : Int32) (x6 : Int32) (x7 : Int32), va_P (dC, dI) vwCl [oM a_p0 A_p0 I_p0, gz cI (A_p0 6) 256 f_p0_samples] H → va_D A [oM a_p0 A_p0 I_p0, gz cI (A_p0 6) 256 f_p0_samples] → va_S A s.heap H locs → lv_has ls 8 [(0, .ref a_p0), (1, .int x1), (2, .int x2), (3, .int x3), (4, .int x4), (5, .int x5), (6, .int x6), (7, .int x7)] → wp_M_fill_l89 post k77 I_p0 n f_p0_samples x1 x2 x3 x4 x5 x6 x7 → W p l e ({ frames := 0, cells := 0, slots := 0, locals := 0 } : Room) s m args below meth c H locs 0 0 Q (F0 m 89 ls []) := by
    intro k77 hk77 n
    induction n with
    | zero => intro H locs ls f_p0_samples x1 x2 x3 x4 x5 x6 x7 hP hD hS hl hw; exact hw.elim
    | succ n ih =>
      intro H locs ls f_p0_samples x1 x2 x3 x4 x5 x6 x7 hP hD hS hl hw
      unfold wp_M_fill_l89 at hw
      refine lv_iload hx hb d_M_fill_89 (lv_at hl 7 rfl) ?_
      refine lv_iload_n hx hb d_M_fill_91 rfl (lv_at hl 1 rfl) ?_
      refine lv_iload_n hx hb d_M_fill_92 rfl (lv_at hl 3 rfl) ?_
      refine lv_iadd hx hb d_M_fill_93 ?_
      refine lv_icmp_ge hx hb d_M_fill_94 rfl (fun hc => ?_) (fun hc => ?_)
      · have hw := hw.1 hc
        refine lv_iinc (k := 6) (v := (x6 + 1)) (lv' := [(6, .int (x6 + 1)), (0, .ref a_p0), (1, .int x1), (2, .int x2), (3, .int x3), (4, .int x4), (5, .int x5), (7, .int x7)]) hx hb d_M_fill_118 hl rfl (congrArg (fun z => x6 + z) (by decide : Int32.ofInt 1 = 1)) (by decide) rfl (fun ls hl => ?_)
        refine lv_goto hx hb d_M_fill_121 rfl ?_
        exact hk77 _ _ _ f_p0_samples x1 x2 x3 x4 x5 (x6 + 1) hP hD hS (lv_sub hl [1, 2, 3, 4, 5, 6, 0] rfl) hw
      · have hw := hw.2 hc
        refine lv_aload_n hx hb d_M_fill_97 rfl (lv_at hl 0 rfl) ?_
        refine va_get (D := (dC, dI)) (ci := 10) (v := .ref (A_p0 6)) (C := R_M) (T := T_M) (N := 30) hx hb hg in_M hown hK hP 0 rfl rfl 6 (by decide) (hg _ t_764) (fun _ h9 => h9) rfl d_M_fill_98 ?_
        refine lv_bipush (v := 16) hx hb d_M_fill_101 (by decide) ?_
        refine lv_iload hx hb d_M_fill_103 (lv_at hl 6 rfl) ?_
        refine lv_imul hx hb d_M_fill_105 ?_
        refine lv_iload hx hb d_M_fill_106 (lv_at hl 7 rfl) ?_
        refine lv_iadd hx hb d_M_fill_108 ?_
        refine lv_iload hx hb d_M_fill_109 (lv_at hl 5 rfl) ?_
        obtain ⟨hin, hw⟩ := hw
        refine va_iast hx hb hK hP hD hS 1 0 rfl rfl hin d_M_fill_111 (fun H locs hP hD hS => ?_)
        have hP : va_P (dC, dI) vwCl [oM a_p0 A_p0 I_p0, gz cI (A_p0 6) 256 (upd f_p0_samples ((16 * x6) + x7).toNatClampNeg x5)] H := hP
        have hD : va_D A [oM a_p0 A_p0 I_p0, gz cI (A_p0 6) 256 (upd f_p0_samples ((16 * x6) + x7).toNatClampNeg x5)] := hD
        refine lv_iinc (k := 7) (v := (x7 + 1)) (lv' := [(7, .int (x7 + 1)), (0, .ref a_p0), (1, .int x1), (2, .int x2), (3, .int x3), (4, .int x4), (5, .int x5), (6, .int x6)]) hx hb d_M_fill_112 hl rfl (congrArg (fun z => x7 + z) (by decide : Int32.ofInt 1 = 1)) (by decide) rfl (fun ls hl => ?_)
        refine lv_goto hx hb d_M_fill_115 rfl ?_
        exact ih _ _ _ (upd f_p0_samples ((16 * x6) + x7).toNatClampNeg x5) x1 x2 x3 x4 x5 x6 (x7 + 1) hP hD hS (lv_sub hl [1, 2, 3, 4, 5, 6, 7, 0] rfl) hw
  have l77 : ∀ n : Nat, ∀ (H : Heap) (locs : List Loc) (ls : Array Slot) (f_p0_samples : Nat → Int32) (x1 : Int32) (x2 : Int32) (x3 : Int32) (x4 : Int32) (x5 : Int32) (x6 : Int32), va_P (dC, dI) vwCl [oM a_p0 A_p0 I_p0, gz cI (A_p0 6) 256 f_p0_samples] H → va_D A [oM a_p0 A_p0 I_p0, gz cI (A_p0 6) 256 f_p0_samples] → va_S A s.heap H locs → lv_has ls 8 [(0, .ref a_p0), (1, .int x1), (2, .int x2), (3, .int x3), (4, .int x4), (5, .int x5), (6, .int x6)] → wp_M_fill_l77 post I_p0 n f_p0_samples x1 x2 x3 x4 x5 x6 → W p l e ({ frames := 0, cells := 0, slots := 0, locals := 0 } : Room) s m args below meth c H locs 0 0 Q (F0 m 77 ls []) := by
    intro n
    induction n with
    | zero => intro H locs ls f_p0_samples x1 x2 x3 x4 x5 x6 hP hD hS hl hw; exact hw.elim
    | succ n ih =>
      intro H locs ls f_p0_samples x1 x2 x3 x4 x5 x6 hP hD hS hl hw
      unfold wp_M_fill_l77 at hw
      refine lv_iload hx hb d_M_fill_77 (lv_at hl 6 rfl) ?_
      refine lv_iload_n hx hb d_M_fill_79 rfl (lv_at hl 2 rfl) ?_
      refine lv_iload hx hb d_M_fill_80 (lv_at hl 4 rfl) ?_
      refine lv_iadd hx hb d_M_fill_82 ?_
      refine lv_icmp_ge hx hb d_M_fill_83 rfl (fun hc => ?_) (fun hc => ?_)
      · have hw := hw.1 hc
        refine lv_iconst (v := 1) hx hb d_M_fill_124 (by decide) ?_
        exact hret _ _ _ _ _ f_p0_samples d_M_fill_125 rfl hP hD hS hw
      · have hw := hw.2 hc
        refine lv_iload_n hx hb d_M_fill_86 rfl (lv_at hl 1 rfl) ?_
        refine lv_istore (lv' := [(7, .int x1), (0, .ref a_p0), (1, .int x1), (2, .int x2), (3, .int x3), (4, .int x4), (5, .int x5), (6, .int x6)]) hx hb d_M_fill_87 hl (by decide) rfl (fun ls hl => ?_)
        obtain ⟨n1, hw⟩ := hw
        exact l89 _ ih n1 _ _ _ f_p0_samples x1 x2 x3 x4 x5 x6 x1 hP hD hS (lv_sub hl [1, 2, 3, 4, 5, 6, 7, 0] rfl) hw
  intro ls hl hP hD hS
  have hl : lv_has ls 8 [(0, .ref a_p0), (1, .int x1), (2, .int x2), (3, .int x3), (4, .int x4), (5, .int x5)] := hl
  unfold wp_M_fill at hw
  refine lv_iload_n hx hb d_M_fill_0 rfl (lv_at hl 3 rfl) ?_
  refine lv_iconst (v := 1) hx hb d_M_fill_1 (by decide) ?_
  refine lv_icmp_lt hx hb d_M_fill_2 rfl (fun hc => ?_) (fun hc => ?_)
  · have hw := hw.1 hc
    refine lv_iconst (v := 0) hx hb d_M_fill_72 (by decide) ?_
    exact hret _ _ _ _ _ f_p0_samples d_M_fill_73 rfl hP hD hS hw
  · have hw := hw.2 hc
    refine lv_iload hx hb d_M_fill_5 (lv_at hl 4 rfl) ?_
    refine lv_iconst (v := 1) hx hb d_M_fill_7 (by decide) ?_
    refine lv_icmp_lt hx hb d_M_fill_8 rfl (fun hc => ?_) (fun hc => ?_)
    · have hw := hw.1 hc
      refine lv_iconst (v := 0) hx hb d_M_fill_72 (by decide) ?_
      exact hret _ _ _ _ _ f_p0_samples d_M_fill_73 rfl hP hD hS hw
    · have hw := hw.2 hc
      refine lv_iload_n hx hb d_M_fill_11 rfl (lv_at hl 1 rfl) ?_
      refine lv_if_lt hx hb d_M_fill_12 rfl (fun hc => ?_) (fun hc => ?_)
      · have hw := hw.1 hc
        refine lv_iconst (v := 0) hx hb d_M_fill_72 (by decide) ?_
        exact hret _ _ _ _ _ f_p0_samples d_M_fill_73 rfl hP hD hS hw
      · have hw := hw.2 hc
        refine lv_iload_n hx hb d_M_fill_15 rfl (lv_at hl 2 rfl) ?_
        refine lv_if_lt hx hb d_M_fill_16 rfl (fun hc => ?_) (fun hc => ?_)
        · have hw := hw.1 hc
          refine lv_iconst (v := 0) hx hb d_M_fill_72 (by decide) ?_
          exact hret _ _ _ _ _ f_p0_samples d_M_fill_73 rfl hP hD hS hw
        · have hw := hw.2 hc
          refine lv_iload_n hx hb d_M_fill_19 rfl (lv_at hl 1 rfl) ?_
          refine lv_aload_n hx hb d_M_fill_20 rfl (lv_at hl 0 rfl) ?_
          refine va_get (D := (dC, dI)) (ci := 10) (v := .int (I_p0 3)) (C := R_M) (T := T_M) (N := 30) hx hb hg in_M hown hK hP 0 rfl rfl 3 (by decide) (hg _ t_761) (fun _ h9 => h9) rfl d_M_fill_21 ?_
          refine lv_icmp_ge hx hb d_M_fill_24 rfl (fun hc => ?_) (fun hc => ?_)
          · have hw := hw.1 hc
            refine lv_iconst (v := 0) hx hb d_M_fill_72 (by decide) ?_
            exact hret _ _ _ _ _ f_p0_samples d_M_fill_73 rfl hP hD hS hw
          · have hw := hw.2 hc
            refine lv_iload_n hx hb d_M_fill_27 rfl (lv_at hl 2 rfl) ?_
            refine lv_aload_n hx hb d_M_fill_28 rfl (lv_at hl 0 rfl) ?_
            refine va_get (D := (dC, dI)) (ci := 10) (v := .int (I_p0 4)) (C := R_M) (T := T_M) (N := 30) hx hb hg in_M hown hK hP 0 rfl rfl 4 (by decide) (hg _ t_762) (fun _ h9 => h9) rfl d_M_fill_29 ?_
            refine lv_icmp_ge hx hb d_M_fill_32 rfl (fun hc => ?_) (fun hc => ?_)
            · have hw := hw.1 hc
              refine lv_iconst (v := 0) hx hb d_M_fill_72 (by decide) ?_
              exact hret _ _ _ _ _ f_p0_samples d_M_fill_73 rfl hP hD hS hw
            · have hw := hw.2 hc
              refine lv_iload_n hx hb d_M_fill_35 rfl (lv_at hl 3 rfl) ?_
              refine lv_aload_n hx hb d_M_fill_36 rfl (lv_at hl 0 rfl) ?_
              refine va_get (D := (dC, dI)) (ci := 10) (v := .int (I_p0 3)) (C := R_M) (T := T_M) (N := 30) hx hb hg in_M hown hK hP 0 rfl rfl 3 (by decide) (hg _ t_761) (fun _ h9 => h9) rfl d_M_fill_37 ?_
              refine lv_iload_n hx hb d_M_fill_40 rfl (lv_at hl 1 rfl) ?_
              refine lv_isub hx hb d_M_fill_41 ?_
              refine lv_icmp_gt hx hb d_M_fill_42 rfl (fun hc => ?_) (fun hc => ?_)
              · have hw := hw.1 hc
                refine lv_iconst (v := 0) hx hb d_M_fill_72 (by decide) ?_
                exact hret _ _ _ _ _ f_p0_samples d_M_fill_73 rfl hP hD hS hw
              · have hw := hw.2 hc
                refine lv_iload hx hb d_M_fill_45 (lv_at hl 4 rfl) ?_
                refine lv_aload_n hx hb d_M_fill_47 rfl (lv_at hl 0 rfl) ?_
                refine va_get (D := (dC, dI)) (ci := 10) (v := .int (I_p0 4)) (C := R_M) (T := T_M) (N := 30) hx hb hg in_M hown hK hP 0 rfl rfl 4 (by decide) (hg _ t_762) (fun _ h9 => h9) rfl d_M_fill_48 ?_
                refine lv_iload_n hx hb d_M_fill_51 rfl (lv_at hl 2 rfl) ?_
                refine lv_isub hx hb d_M_fill_52 ?_
                refine lv_icmp_gt hx hb d_M_fill_53 rfl (fun hc => ?_) (fun hc => ?_)
                · have hw := hw.1 hc
                  refine lv_iconst (v := 0) hx hb d_M_fill_72 (by decide) ?_
                  exact hret _ _ _ _ _ f_p0_samples d_M_fill_73 rfl hP hD hS hw
                · have hw := hw.2 hc
                  refine lv_iload hx hb d_M_fill_56 (lv_at hl 5 rfl) ?_
                  refine lv_if_lt hx hb d_M_fill_58 rfl (fun hc => ?_) (fun hc => ?_)
                  · have hw := hw.1 hc
                    refine lv_iconst (v := 0) hx hb d_M_fill_72 (by decide) ?_
                    exact hret _ _ _ _ _ f_p0_samples d_M_fill_73 rfl hP hD hS hw
                  · have hw := hw.2 hc
                    refine lv_iload hx hb d_M_fill_61 (lv_at hl 5 rfl) ?_
                    refine lv_iconst (v := 1) hx hb d_M_fill_63 (by decide) ?_
                    refine lv_aload_n hx hb d_M_fill_64 rfl (lv_at hl 0 rfl) ?_
                    refine va_get (D := (dC, dI)) (ci := 10) (v := .int (I_p0 5)) (C := R_M) (T := T_M) (N := 30) hx hb hg in_M hown hK hP 0 rfl rfl 5 (by decide) (hg _ t_763) (fun _ h9 => h9) rfl d_M_fill_65 ?_
                    refine lv_ishl hx hb d_M_fill_68 ?_
                    refine lv_icmp_lt hx hb d_M_fill_69 rfl (fun hc => ?_) (fun hc => ?_)
                    · have hw := hw.1 hc
                      refine lv_iload_n hx hb d_M_fill_74 rfl (lv_at hl 2 rfl) ?_
                      refine lv_istore (lv' := [(6, .int x2), (0, .ref a_p0), (1, .int x1), (2, .int x2), (3, .int x3), (4, .int x4), (5, .int x5)]) hx hb d_M_fill_75 hl (by decide) rfl (fun ls hl => ?_)
                      obtain ⟨n1, hw⟩ := hw
                      exact l77 n1 _ _ _ f_p0_samples x1 x2 x3 x4 x5 x2 hP hD hS (lv_sub hl [1, 2, 3, 4, 5, 6, 0] rfl) hw
                    · have hw := hw.2 hc
                      refine lv_iconst (v := 0) hx hb d_M_fill_72 (by decide) ?_
                      exact hret _ _ _ _ _ f_p0_samples d_M_fill_73 rfl hP hD hS hw
theorem d_M_rowBytes_0 : decode b_M_rowBytes 0 = .ok (.iload_n 0, 1) := by decide +kernel
theorem d_M_rowBytes_1 : decode b_M_rowBytes 1 = .ok (.iload_n 1, 1) := by decide +kernel
theorem d_M_rowBytes_2 : decode b_M_rowBytes 2 = .ok (.imul, 1) := by decide +kernel
theorem d_M_rowBytes_3 : decode b_M_rowBytes 3 = .ok (.bipush 7, 2) := by decide +kernel
theorem d_M_rowBytes_5 : decode b_M_rowBytes 5 = .ok (.iadd, 1) := by decide +kernel
theorem d_M_rowBytes_6 : decode b_M_rowBytes 6 = .ok (.bipush 8, 2) := by decide +kernel
theorem d_M_rowBytes_8 : decode b_M_rowBytes 8 = .ok (.idiv, 1) := by decide +kernel
theorem d_M_rowBytes_9 : decode b_M_rowBytes 9 = .ok (.ireturn, 1) := by decide +kernel
def wp_M_rowBytes (post : Int32 → Prop) (x0 : Int32) (x1 : Int32) : Prop :=
  post (((x0 * x1) + 7) / 8)
set_option maxRecDepth 100000 in
set_option maxHeartbeats 4000000 in
theorem c_M_rowBytes (l : Launch) (dC : Nat → ClassId) (dI : Nat → Nat → Nat) (cI : ClassId) (x0 : Int32) (x1 : Int32) {post : Int32 → Prop} (hw : wp_M_rowBytes post x0 x1) : gm_i l y_M_rowBytes ws_M_rowBytes ({ frames := 0, cells := 0, slots := 0, locals := 0 } : Room) (dC, dI) vwCl [(cI, .int)] [.int x0, .int x1] [] (fun (_ : Unit) => []) (fun (r : Int32) (_ : Unit) => post r) := by
  refine gm_iof (cc := b_M_rowBytes) (maxL := 2) (ty := .int) (by decide) rfl (Nat.le_of_ble_eq_true rfl) ?_
  intro p e s m args below meth c A Q hx hb hml hown hg hK hN hA hret
  have hown : s.vm.findClass R_M = some m.cls := hown
  intro ls hl hP hD hS
  have hl : lv_has ls 2 [(0, .int x0), (1, .int x1)] := hl
  unfold wp_M_rowBytes at hw
  refine lv_iload_n hx hb d_M_rowBytes_0 rfl (lv_at hl 0 rfl) ?_
  refine lv_iload_n hx hb d_M_rowBytes_1 rfl (lv_at hl 1 rfl) ?_
  refine lv_imul hx hb d_M_rowBytes_2 ?_
  refine lv_bipush (v := 7) hx hb d_M_rowBytes_3 (by decide) ?_
  refine lv_iadd hx hb d_M_rowBytes_5 ?_
  refine lv_bipush (v := 8) hx hb d_M_rowBytes_6 (by decide) ?_
  refine lv_idiv hx hb d_M_rowBytes_8 (by decide) ?_
  exact hret _ _ _ _ _ () d_M_rowBytes_9 rfl hP hD hS hw
