theorem d_M_walk_0 : decode b_M_walk 0 = .ok (.aload_n 0, 1) := by decide +kernel
theorem d_M_walk_1 : decode b_M_walk 1 = .ok (.iconst 0, 1) := by decide +kernel
theorem d_M_walk_2 : decode b_M_walk 2 = .ok (.putfield 86, 3) := by decide +kernel
theorem d_M_walk_5 : decode b_M_walk 5 = .ok (.aload_n 0, 1) := by decide +kernel
theorem d_M_walk_6 : decode b_M_walk 6 = .ok (.iconst 0, 1) := by decide +kernel
theorem d_M_walk_7 : decode b_M_walk 7 = .ok (.putfield 89, 3) := by decide +kernel
theorem d_M_walk_10 : decode b_M_walk 10 = .ok (.aload_n 0, 1) := by decide +kernel
theorem d_M_walk_11 : decode b_M_walk 11 = .ok (.iconst 4, 1) := by decide +kernel
theorem d_M_walk_12 : decode b_M_walk 12 = .ok (.putfield 93, 3) := by decide +kernel
theorem d_M_walk_15 : decode b_M_walk 15 = .ok (.aload_n 0, 1) := by decide +kernel
theorem d_M_walk_16 : decode b_M_walk 16 = .ok (.getfield 7, 3) := by decide +kernel
theorem d_M_walk_19 : decode b_M_walk 19 = .ok (.iconst 0, 1) := by decide +kernel
theorem d_M_walk_20 : decode b_M_walk 20 = .ok (.iaload, 1) := by decide +kernel
theorem d_M_walk_21 : decode b_M_walk 21 = .ok (.aload_n 0, 1) := by decide +kernel
theorem d_M_walk_22 : decode b_M_walk 22 = .ok (.getfield 7, 3) := by decide +kernel
theorem d_M_walk_25 : decode b_M_walk 25 = .ok (.iconst 1, 1) := by decide +kernel
theorem d_M_walk_26 : decode b_M_walk 26 = .ok (.iaload, 1) := by decide +kernel
theorem d_M_walk_27 : decode b_M_walk 27 = .ok (.if_icmp .ne 42, 3) := by decide +kernel
theorem d_M_walk_30 : decode b_M_walk 30 = .ok (.aload_n 0, 1) := by decide +kernel
theorem d_M_walk_31 : decode b_M_walk 31 = .ok (.getfield 7, 3) := by decide +kernel
theorem d_M_walk_34 : decode b_M_walk 34 = .ok (.iconst 0, 1) := by decide +kernel
theorem d_M_walk_35 : decode b_M_walk 35 = .ok (.iaload, 1) := by decide +kernel
theorem d_M_walk_36 : decode b_M_walk 36 = .ok (.bipush 73, 2) := by decide +kernel
theorem d_M_walk_38 : decode b_M_walk 38 = .ok (.if_icmp .eq 14, 3) := by decide +kernel
theorem d_M_walk_41 : decode b_M_walk 41 = .ok (.aload_n 0, 1) := by decide +kernel
theorem d_M_walk_42 : decode b_M_walk 42 = .ok (.getfield 7, 3) := by decide +kernel
theorem d_M_walk_45 : decode b_M_walk 45 = .ok (.iconst 0, 1) := by decide +kernel
theorem d_M_walk_46 : decode b_M_walk 46 = .ok (.iaload, 1) := by decide +kernel
theorem d_M_walk_47 : decode b_M_walk 47 = .ok (.bipush 77, 2) := by decide +kernel
theorem d_M_walk_49 : decode b_M_walk 49 = .ok (.if_icmp .ne 20, 3) := by decide +kernel
theorem d_M_walk_52 : decode b_M_walk 52 = .ok (.aload_n 0, 1) := by decide +kernel
theorem d_M_walk_53 : decode b_M_walk 53 = .ok (.iconst 2, 1) := by decide +kernel
theorem d_M_walk_54 : decode b_M_walk 54 = .ok (.iconst 2, 1) := by decide +kernel
theorem d_M_walk_55 : decode b_M_walk 55 = .ok (.invokevirtual 78, 3) := by decide +kernel
theorem d_M_walk_58 : decode b_M_walk 58 = .ok (.ldc2_w 96, 3) := by decide +kernel
theorem d_M_walk_61 : decode b_M_walk 61 = .ok (.lcmp, 1) := by decide +kernel
theorem d_M_walk_62 : decode b_M_walk 62 = .ok (.ifCond .ne 7, 3) := by decide +kernel
theorem d_M_walk_65 : decode b_M_walk 65 = .ok (.iconst 1, 1) := by decide +kernel
theorem d_M_walk_66 : decode b_M_walk 66 = .ok (.goto 4, 3) := by decide +kernel
theorem d_M_walk_69 : decode b_M_walk 69 = .ok (.iconst 0, 1) := by decide +kernel
theorem d_M_walk_70 : decode b_M_walk 70 = .ok (.istore_n 1, 1) := by decide +kernel
theorem d_M_walk_71 : decode b_M_walk 71 = .ok (.iload_n 1, 1) := by decide +kernel
theorem d_M_walk_72 : decode b_M_walk 72 = .ok (.istore_n 2, 1) := by decide +kernel
theorem d_M_walk_73 : decode b_M_walk 73 = .ok (.iload_n 2, 1) := by decide +kernel
theorem d_M_walk_74 : decode b_M_walk 74 = .ok (.ifCond .eq 147, 3) := by decide +kernel
theorem d_M_walk_77 : decode b_M_walk 77 = .ok (.aload_n 0, 1) := by decide +kernel
theorem d_M_walk_78 : decode b_M_walk 78 = .ok (.aload_n 0, 1) := by decide +kernel
theorem d_M_walk_79 : decode b_M_walk 79 = .ok (.getfield 93, 3) := by decide +kernel
theorem d_M_walk_82 : decode b_M_walk 82 = .ok (.iconst 4, 1) := by decide +kernel
theorem d_M_walk_83 : decode b_M_walk 83 = .ok (.invokevirtual 78, 3) := by decide +kernel
theorem d_M_walk_86 : decode b_M_walk 86 = .ok (.lstore_n 3, 1) := by decide +kernel
theorem d_M_walk_87 : decode b_M_walk 87 = .ok (.aload_n 0, 1) := by decide +kernel
theorem d_M_walk_88 : decode b_M_walk 88 = .ok (.lload_n 3, 1) := by decide +kernel
theorem d_M_walk_89 : decode b_M_walk 89 = .ok (.lconst 0, 1) := by decide +kernel
theorem d_M_walk_90 : decode b_M_walk 90 = .ok (.lcmp, 1) := by decide +kernel
theorem d_M_walk_91 : decode b_M_walk 91 = .ok (.ifCond .ne 7, 3) := by decide +kernel
theorem d_M_walk_94 : decode b_M_walk 94 = .ok (.iconst 1, 1) := by decide +kernel
theorem d_M_walk_95 : decode b_M_walk 95 = .ok (.goto 4, 3) := by decide +kernel
theorem d_M_walk_98 : decode b_M_walk 98 = .ok (.iconst 0, 1) := by decide +kernel
theorem d_M_walk_99 : decode b_M_walk 99 = .ok (.putfield 89, 3) := by decide +kernel
theorem d_M_walk_102 : decode b_M_walk 102 = .ok (.aload_n 0, 1) := by decide +kernel
theorem d_M_walk_103 : decode b_M_walk 103 = .ok (.getfield 89, 3) := by decide +kernel
theorem d_M_walk_106 : decode b_M_walk 106 = .ok (.ifCond .ne 24, 3) := by decide +kernel
theorem d_M_walk_109 : decode b_M_walk 109 = .ok (.aload_n 0, 1) := by decide +kernel
theorem d_M_walk_110 : decode b_M_walk 110 = .ok (.getfield 86, 3) := by decide +kernel
theorem d_M_walk_113 : decode b_M_walk 113 = .ok (.bipush 8, 2) := by decide +kernel
theorem d_M_walk_115 : decode b_M_walk 115 = .ok (.if_icmp .ge 15, 3) := by decide +kernel
theorem d_M_walk_118 : decode b_M_walk 118 = .ok (.aload_n 0, 1) := by decide +kernel
theorem d_M_walk_119 : decode b_M_walk 119 = .ok (.lload_n 3, 1) := by decide +kernel
theorem d_M_walk_120 : decode b_M_walk 120 = .ok (.invokevirtual 98, 3) := by decide +kernel
theorem d_M_walk_123 : decode b_M_walk 123 = .ok (.ifCond .eq 7, 3) := by decide +kernel
theorem d_M_walk_126 : decode b_M_walk 126 = .ok (.iconst 1, 1) := by decide +kernel
theorem d_M_walk_127 : decode b_M_walk 127 = .ok (.goto 4, 3) := by decide +kernel
theorem d_M_walk_130 : decode b_M_walk 130 = .ok (.iconst 0, 1) := by decide +kernel
theorem d_M_walk_131 : decode b_M_walk 131 = .ok (.istore_n 2, 1) := by decide +kernel
theorem d_M_walk_132 : decode b_M_walk 132 = .ok (.iconst 0, 1) := by decide +kernel
theorem d_M_walk_133 : decode b_M_walk 133 = .ok (.istore 5, 2) := by decide +kernel
theorem d_M_walk_135 : decode b_M_walk 135 = .ok (.iload 5, 2) := by decide +kernel
theorem d_M_walk_137 : decode b_M_walk 137 = .ok (.aload_n 0, 1) := by decide +kernel
theorem d_M_walk_138 : decode b_M_walk 138 = .ok (.getfield 86, 3) := by decide +kernel
theorem d_M_walk_141 : decode b_M_walk 141 = .ok (.if_icmp .ge 32, 3) := by decide +kernel
theorem d_M_walk_144 : decode b_M_walk 144 = .ok (.iload_n 2, 1) := by decide +kernel
theorem d_M_walk_145 : decode b_M_walk 145 = .ok (.ifCond .eq 20, 3) := by decide +kernel
theorem d_M_walk_148 : decode b_M_walk 148 = .ok (.aload_n 0, 1) := by decide +kernel
theorem d_M_walk_149 : decode b_M_walk 149 = .ok (.getfield 35, 3) := by decide +kernel
theorem d_M_walk_152 : decode b_M_walk 152 = .ok (.iload 5, 2) := by decide +kernel
theorem d_M_walk_154 : decode b_M_walk 154 = .ok (.iaload, 1) := by decide +kernel
theorem d_M_walk_155 : decode b_M_walk 155 = .ok (.i2l, 1) := by decide +kernel
theorem d_M_walk_156 : decode b_M_walk 156 = .ok (.lload_n 3, 1) := by decide +kernel
theorem d_M_walk_157 : decode b_M_walk 157 = .ok (.lcmp, 1) := by decide +kernel
theorem d_M_walk_158 : decode b_M_walk 158 = .ok (.ifCond .eq 7, 3) := by decide +kernel
theorem d_M_walk_161 : decode b_M_walk 161 = .ok (.iconst 1, 1) := by decide +kernel
theorem d_M_walk_162 : decode b_M_walk 162 = .ok (.goto 4, 3) := by decide +kernel
theorem d_M_walk_165 : decode b_M_walk 165 = .ok (.iconst 0, 1) := by decide +kernel
theorem d_M_walk_166 : decode b_M_walk 166 = .ok (.istore_n 2, 1) := by decide +kernel
theorem d_M_walk_167 : decode b_M_walk 167 = .ok (.iinc 5 1, 3) := by decide +kernel
theorem d_M_walk_170 : decode b_M_walk 170 = .ok (.goto (-35), 3) := by decide +kernel
theorem d_M_walk_173 : decode b_M_walk 173 = .ok (.iload_n 2, 1) := by decide +kernel
theorem d_M_walk_174 : decode b_M_walk 174 = .ok (.ifCond .eq 44, 3) := by decide +kernel
theorem d_M_walk_177 : decode b_M_walk 177 = .ok (.aload_n 0, 1) := by decide +kernel
theorem d_M_walk_178 : decode b_M_walk 178 = .ok (.getfield 35, 3) := by decide +kernel
theorem d_M_walk_181 : decode b_M_walk 181 = .ok (.aload_n 0, 1) := by decide +kernel
theorem d_M_walk_182 : decode b_M_walk 182 = .ok (.getfield 86, 3) := by decide +kernel
theorem d_M_walk_185 : decode b_M_walk 185 = .ok (.lload_n 3, 1) := by decide +kernel
theorem d_M_walk_186 : decode b_M_walk 186 = .ok (.l2i, 1) := by decide +kernel
theorem d_M_walk_187 : decode b_M_walk 187 = .ok (.iastore, 1) := by decide +kernel
theorem d_M_walk_188 : decode b_M_walk 188 = .ok (.aload_n 0, 1) := by decide +kernel
theorem d_M_walk_189 : decode b_M_walk 189 = .ok (.dup, 1) := by decide +kernel
theorem d_M_walk_190 : decode b_M_walk 190 = .ok (.getfield 86, 3) := by decide +kernel
theorem d_M_walk_193 : decode b_M_walk 193 = .ok (.iconst 1, 1) := by decide +kernel
theorem d_M_walk_194 : decode b_M_walk 194 = .ok (.iadd, 1) := by decide +kernel
theorem d_M_walk_195 : decode b_M_walk 195 = .ok (.putfield 86, 3) := by decide +kernel
theorem d_M_walk_198 : decode b_M_walk 198 = .ok (.aload_n 0, 1) := by decide +kernel
theorem d_M_walk_199 : decode b_M_walk 199 = .ok (.lload_n 3, 1) := by decide +kernel
theorem d_M_walk_200 : decode b_M_walk 200 = .ok (.l2i, 1) := by decide +kernel
theorem d_M_walk_201 : decode b_M_walk 201 = .ok (.iconst 2, 1) := by decide +kernel
theorem d_M_walk_202 : decode b_M_walk 202 = .ok (.iadd, 1) := by decide +kernel
theorem d_M_walk_203 : decode b_M_walk 203 = .ok (.bipush 12, 2) := by decide +kernel
theorem d_M_walk_205 : decode b_M_walk 205 = .ok (.aload_n 0, 1) := by decide +kernel
theorem d_M_walk_206 : decode b_M_walk 206 = .ok (.lload_n 3, 1) := by decide +kernel
theorem d_M_walk_207 : decode b_M_walk 207 = .ok (.l2i, 1) := by decide +kernel
theorem d_M_walk_208 : decode b_M_walk 208 = .ok (.iconst 2, 1) := by decide +kernel
theorem d_M_walk_209 : decode b_M_walk 209 = .ok (.invokevirtual 78, 3) := by decide +kernel
theorem d_M_walk_212 : decode b_M_walk 212 = .ok (.l2i, 1) := by decide +kernel
theorem d_M_walk_213 : decode b_M_walk 213 = .ok (.imul, 1) := by decide +kernel
theorem d_M_walk_214 : decode b_M_walk 214 = .ok (.iadd, 1) := by decide +kernel
theorem d_M_walk_215 : decode b_M_walk 215 = .ok (.putfield 93, 3) := by decide +kernel
theorem d_M_walk_218 : decode b_M_walk 218 = .ok (.goto (-145), 3) := by decide +kernel
theorem d_M_walk_221 : decode b_M_walk 221 = .ok (.return_, 1) := by decide +kernel
def wp_M_walk_b218 (post : (Nat → Int32) → (Nat → Int32) → Prop) (k73 : (Nat → Int32) → (Nat → Int32) → Int32 → Prop) (f_p0_file : Nat → Int32) (I_p0 : Nat → Int32) (f_p0_dirs : Nat → Int32) (x2 : Int32) : Prop :=
  k73 I_p0 f_p0_dirs x2
def wp_M_walk_b166 (post : (Nat → Int32) → (Nat → Int32) → Prop) (k73 : (Nat → Int32) → (Nat → Int32) → Int32 → Prop) (k135 : (Nat → Int32) → (Nat → Int32) → Int32 → Int64 → Int32 → Prop) (f_p0_file : Nat → Int32) (I_p0 : Nat → Int32) (f_p0_dirs : Nat → Int32) (x3 : Int64) (x5 : Int32) (s0 : Int32) : Prop :=
  k135 I_p0 f_p0_dirs s0 x3 (x5 + 1)
def wp_M_walk_b165 (post : (Nat → Int32) → (Nat → Int32) → Prop) (k73 : (Nat → Int32) → (Nat → Int32) → Int32 → Prop) (k135 : (Nat → Int32) → (Nat → Int32) → Int32 → Int64 → Int32 → Prop) (f_p0_file : Nat → Int32) (I_p0 : Nat → Int32) (f_p0_dirs : Nat → Int32) (x3 : Int64) (x5 : Int32) : Prop :=
  wp_M_walk_b166 post k73 k135 f_p0_file I_p0 f_p0_dirs x3 x5 0
def wp_M_walk_l135 (post : (Nat → Int32) → (Nat → Int32) → Prop) (k73 : (Nat → Int32) → (Nat → Int32) → Int32 → Prop) (f_p0_file : Nat → Int32) : Nat → (Nat → Int32) → (Nat → Int32) → Int32 → Int64 → Int32 → Prop
  | 0, _, _, _, _, _ => False
  | n + 1, I_p0, f_p0_dirs, x2, x3, x5 =>
    (((I_p0 11) ≤ x5 →
      ((x2 = 0 →
        wp_M_walk_b218 post k73 f_p0_file I_p0 f_p0_dirs x2) ∧
       (¬ x2 = 0 →
        vp_in (I_p0 11) 8 ∧
        wp_M_read (fun (r209 : Int64) =>
          wp_M_walk_b218 post k73 f_p0_file (upd (upd I_p0 11 ((I_p0 11) + 1)) 14 ((x3.toInt32 + 2) + (12 * r209.toInt32))) (upd f_p0_dirs (I_p0 11).toNatClampNeg x3.toInt32) x2) (upd I_p0 11 ((I_p0 11) + 1)) f_p0_file x3.toInt32 2))) ∧
     (¬ (I_p0 11) ≤ x5 →
      ((x2 = 0 →
        wp_M_walk_b165 post k73 (wp_M_walk_l135 post k73 f_p0_file n) f_p0_file I_p0 f_p0_dirs x3 x5) ∧
       (¬ x2 = 0 →
        vp_in x5 8 ∧
        (((f_p0_dirs (x5).toNatClampNeg).toInt64 = x3 →
          wp_M_walk_b165 post k73 (wp_M_walk_l135 post k73 f_p0_file n) f_p0_file I_p0 f_p0_dirs x3 x5) ∧
         (¬ (f_p0_dirs (x5).toNatClampNeg).toInt64 = x3 →
          wp_M_walk_b166 post k73 (wp_M_walk_l135 post k73 f_p0_file n) f_p0_file I_p0 f_p0_dirs x3 x5 1))))))
def wp_M_walk_b131 (post : (Nat → Int32) → (Nat → Int32) → Prop) (k73 : (Nat → Int32) → (Nat → Int32) → Int32 → Prop) (f_p0_file : Nat → Int32) (I_p0 : Nat → Int32) (f_p0_dirs : Nat → Int32) (x3 : Int64) (s0 : Int32) : Prop :=
  (∃ n1 : Nat, wp_M_walk_l135 post k73 f_p0_file n1 I_p0 f_p0_dirs s0 x3 0)
def wp_M_walk_b130 (post : (Nat → Int32) → (Nat → Int32) → Prop) (k73 : (Nat → Int32) → (Nat → Int32) → Int32 → Prop) (f_p0_file : Nat → Int32) (I_p0 : Nat → Int32) (f_p0_dirs : Nat → Int32) (x3 : Int64) : Prop :=
  wp_M_walk_b131 post k73 f_p0_file I_p0 f_p0_dirs x3 0
def wp_M_walk_b99 (post : (Nat → Int32) → (Nat → Int32) → Prop) (k73 : (Nat → Int32) → (Nat → Int32) → Int32 → Prop) (f_p0_file : Nat → Int32) (I_p0 : Nat → Int32) (f_p0_dirs : Nat → Int32) (x3 : Int64) (s0 : Int32) : Prop :=
  (s0 = 0 ∨ s0 = 1) ∧
  ((s0 = 0 →
    ((8 ≤ (I_p0 11) →
      wp_M_walk_b130 post k73 f_p0_file (upd I_p0 12 s0) f_p0_dirs x3) ∧
     (¬ 8 ≤ (I_p0 11) →
      wp_M_stands (fun (r120 : Int32) =>
        ((r120 = 0 →
          wp_M_walk_b130 post k73 f_p0_file (upd I_p0 12 s0) f_p0_dirs x3) ∧
         (¬ r120 = 0 →
          wp_M_walk_b131 post k73 f_p0_file (upd I_p0 12 s0) f_p0_dirs x3 1))) (upd I_p0 12 s0) f_p0_file x3))) ∧
   (¬ s0 = 0 →
    wp_M_walk_b130 post k73 f_p0_file (upd I_p0 12 s0) f_p0_dirs x3))
def wp_M_walk_l73 (post : (Nat → Int32) → (Nat → Int32) → Prop) (f_p0_file : Nat → Int32) : Nat → (Nat → Int32) → (Nat → Int32) → Int32 → Prop
  | 0, _, _, _ => False
  | n + 1, I_p0, f_p0_dirs, x2 =>
    ((x2 = 0 →
      post I_p0 f_p0_dirs) ∧
     (¬ x2 = 0 →
      wp_M_read (fun (r83 : Int64) =>
        ((r83 = 0 →
          wp_M_walk_b99 post (wp_M_walk_l73 post f_p0_file n) f_p0_file I_p0 f_p0_dirs r83 1) ∧
         (¬ r83 = 0 →
          wp_M_walk_b99 post (wp_M_walk_l73 post f_p0_file n) f_p0_file I_p0 f_p0_dirs r83 0))) I_p0 f_p0_file (I_p0 14) 4))
def wp_M_walk_b70 (post : (Nat → Int32) → (Nat → Int32) → Prop) (f_p0_file : Nat → Int32) (I_p0 : Nat → Int32) (f_p0_dirs : Nat → Int32) (s0 : Int32) : Prop :=
  (∃ n1 : Nat, wp_M_walk_l73 post f_p0_file n1 I_p0 f_p0_dirs s0)
def wp_M_walk_b69 (post : (Nat → Int32) → (Nat → Int32) → Prop) (f_p0_file : Nat → Int32) (I_p0 : Nat → Int32) (f_p0_dirs : Nat → Int32) : Prop :=
  wp_M_walk_b70 post f_p0_file I_p0 f_p0_dirs 0
def wp_M_walk_b52 (post : (Nat → Int32) → (Nat → Int32) → Prop) (f_p0_file : Nat → Int32) (I_p0 : Nat → Int32) (f_p0_dirs : Nat → Int32) : Prop :=
  wp_M_read (fun (r55 : Int64) =>
    ((r55 = 42 →
      wp_M_walk_b70 post f_p0_file I_p0 f_p0_dirs 1) ∧
     (¬ r55 = 42 →
      wp_M_walk_b69 post f_p0_file I_p0 f_p0_dirs))) I_p0 f_p0_file 2 2
def wp_M_walk (post : (Nat → Int32) → (Nat → Int32) → Prop) (f_p0_file : Nat → Int32) (I_p0 : Nat → Int32) (f_p0_dirs : Nat → Int32) : Prop :=
  vp_in 0 2000 ∧
  vp_in 1 2000 ∧
  (((f_p0_file 0) = (f_p0_file 1) →
    vp_in 0 2000 ∧
    (((f_p0_file 0) = 73 →
      wp_M_walk_b52 post f_p0_file (upd (upd (upd I_p0 11 0) 12 0) 14 4) f_p0_dirs) ∧
     (¬ (f_p0_file 0) = 73 →
      vp_in 0 2000 ∧
      (((f_p0_file 0) = 77 →
        wp_M_walk_b52 post f_p0_file (upd (upd (upd I_p0 11 0) 12 0) 14 4) f_p0_dirs) ∧
       (¬ (f_p0_file 0) = 77 →
        wp_M_walk_b69 post f_p0_file (upd (upd (upd I_p0 11 0) 12 0) 14 4) f_p0_dirs))))) ∧
   (¬ (f_p0_file 0) = (f_p0_file 1) →
    wp_M_walk_b69 post f_p0_file (upd (upd (upd I_p0 11 0) 12 0) 14 4) f_p0_dirs))
set_option maxRecDepth 100000 in
set_option maxHeartbeats 4000000 in
theorem c_M_walk (l : Launch) (dC : Nat → ClassId) (dI : Nat → Nat → Nat) (cI : ClassId) (a_p0 : Nat) (A_p0 : Nat → Nat) (f_p0_file : Nat → Int32) (I_p0 : Nat → Int32) (f_p0_dirs : Nat → Int32) {post : (Nat → Int32) → (Nat → Int32) → Prop} (hw : wp_M_walk post f_p0_file I_p0 f_p0_dirs) : gm_v l y_M_walk ws_M_walk ({ frames := 2, cells := 0, slots := 0, locals := 49 } : Room) (dC, dI) vwCl [(cI, .int)] [.ref a_p0] [oM a_p0 A_p0 I_p0, gz cI (A_p0 13) 8 f_p0_dirs, gz cI (A_p0 0) 2000 f_p0_file] (fun (u : (Nat → Int32) × (Nat → Int32)) => [oM a_p0 A_p0 u.1, gz cI (A_p0 13) 8 u.2, gz cI (A_p0 0) 2000 f_p0_file]) (fun (u : (Nat → Int32) × (Nat → Int32)) => post  u.1 u.2) := by
  refine gm_vof (cc := b_M_walk) (maxL := 6) (by decide) rfl (Nat.le_of_ble_eq_true rfl) ?_
  intro p e s m args below meth c A Q hx hb hml hown hg hK hN hA hnm hret
  have hown : s.vm.findClass R_M = some m.cls := hown
  have b218 : ∀ (k73 : (Nat → Int32) → (Nat → Int32) → Int32 → Prop), (∀ (H : Heap) (locs : List Loc) (ls : Array Slot) (I_p0 : Nat → Int32) (f_p0_dirs : Nat → Int32) (x2 : Int32), va_P (dC, dI) vwCl [oM a_p0 A_p0 I_p0, gz cI (A_p0 13) 8 f_p0_dirs, gz cI (A_p0 0) 2000 f_p0_file] H → va_D A [oM a_p0 A_p0 I_p0, gz cI (A_p0 13) 8 f_p0_dirs, gz cI (A_p0 0) 2000 f_p0_file] → va_S A s.heap H locs → lv_has ls 6 [(0, .ref a_p0), (2, .int x2)] → k73 I_p0 f_p0_dirs x2 → W p l e ({ frames := 2, cells := 0, slots := 0, locals := 49 } : Room) s m args below meth c H locs 0 0 Q (F0 m 73 ls [])) → ∀ (H : Heap) (locs : List Loc) (ls : Array Slot) (I_p0 : Nat → Int32) (f_p0_dirs : Nat → Int32) (x2 : Int32), va_P (dC, dI) vwCl [oM a_p0 A_p0 I_p0, gz cI (A_p0 13) 8 f_p0_dirs, gz cI (A_p0 0) 2000 f_p0_file] H → va_D A [oM a_p0 A_p0 I_p0, gz cI (A_p0 13) 8 f_p0_dirs, gz cI (A_p0 0) 2000 f_p0_file] → va_S A s.heap H locs → lv_has ls 6 [(0, .ref a_p0), (2, .int x2)] → wp_M_walk_b218 post k73 f_p0_file I_p0 f_p0_dirs x2 → W p l e ({ frames := 2, cells := 0, slots := 0, locals := 49 } : Room) s m args below meth c H locs 0 0 Q (F0 m 218 ls []) := by
    intro k73 hk73 H locs ls I_p0 f_p0_dirs x2 hP hD hS hl hw
    unfold wp_M_walk_b218 at hw
    refine lv_goto hx hb d_M_walk_218 rfl ?_
    exact hk73 _ _ _ I_p0 f_p0_dirs x2 hP hD hS (lv_sub hl [0, 1] rfl) hw
  have b166 : ∀ (k73 : (Nat → Int32) → (Nat → Int32) → Int32 → Prop), (∀ (H : Heap) (locs : List Loc) (ls : Array Slot) (I_p0 : Nat → Int32) (f_p0_dirs : Nat → Int32) (x2 : Int32), va_P (dC, dI) vwCl [oM a_p0 A_p0 I_p0, gz cI (A_p0 13) 8 f_p0_dirs, gz cI (A_p0 0) 2000 f_p0_file] H → va_D A [oM a_p0 A_p0 I_p0, gz cI (A_p0 13) 8 f_p0_dirs, gz cI (A_p0 0) 2000 f_p0_file] → va_S A s.heap H locs → lv_has ls 6 [(0, .ref a_p0), (2, .int x2)] → k73 I_p0 f_p0_dirs x2 → W p l e ({ frames := 2, cells := 0, slots := 0, locals := 49 } : Room) s m args below meth c H locs 0 0 Q (F0 m 73 ls [])) → ∀ (k135 : (Nat → Int32) → (Nat → Int32) → Int32 → Int64 → Int32 → Prop), (∀ (H : Heap) (locs : List Loc) (ls : Array Slot) (I_p0 : Nat → Int32) (f_p0_dirs : Nat → Int32) (x2 : Int32) (x3 : Int64) (x5 : Int32), va_P (dC, dI) vwCl [oM a_p0 A_p0 I_p0, gz cI (A_p0 13) 8 f_p0_dirs, gz cI (A_p0 0) 2000 f_p0_file] H → va_D A [oM a_p0 A_p0 I_p0, gz cI (A_p0 13) 8 f_p0_dirs, gz cI (A_p0 0) 2000 f_p0_file] → va_S A s.heap H locs → lv_has ls 6 [(0, .ref a_p0), (2, .int x2), (3, .long x3), (5, .int x5)] → k135 I_p0 f_p0_dirs x2 x3 x5 → W p l e ({ frames := 2, cells := 0, slots := 0, locals := 49 } : Room) s m args below meth c H locs 0 0 Q (F0 m 135 ls [])) → ∀ (H : Heap) (locs : List Loc) (ls : Array Slot) (I_p0 : Nat → Int32) (f_p0_dirs : Nat → Int32) (x3 : Int64) (x5 : Int32) (s0 : Int32), va_P (dC, dI) vwCl [oM a_p0 A_p0 I_p0, gz cI (A_p0 13) 8 f_p0_dirs, gz cI (A_p0 0) 2000 f_p0_file] H → va_D A [oM a_p0 A_p0 I_p0, gz cI (A_p0 13) 8 f_p0_dirs, gz cI (A_p0 0) 2000 f_p0_file] → va_S A s.heap H locs → lv_has ls 6 [(0, .ref a_p0), (3, .long x3), (5, .int x5)] → wp_M_walk_b166 post k73 k135 f_p0_file I_p0 f_p0_dirs x3 x5 s0 → W p l e ({ frames := 2, cells := 0, slots := 0, locals := 49 } : Room) s m args below meth c H locs 0 0 Q (F0 m 166 ls [.int s0]) := by
    intro k73 hk73 k135 hk135 H locs ls I_p0 f_p0_dirs x3 x5 s0 hP hD hS hl hw
    unfold wp_M_walk_b166 at hw
    refine lv_istore_n (lv' := [(2, .int s0), (0, .ref a_p0), (3, .long x3), (5, .int x5)]) hx hb d_M_walk_166 rfl hl (by decide) rfl (fun ls hl => ?_)
    refine lv_iinc (k := 3) (v := (x5 + 1)) (lv' := [(5, .int (x5 + 1)), (2, .int s0), (0, .ref a_p0), (3, .long x3)]) hx hb d_M_walk_167 hl rfl (congrArg (fun z => x5 + z) (by decide : Int32.ofInt 1 = 1)) (by decide) rfl (fun ls hl => ?_)
    refine lv_goto hx hb d_M_walk_170 rfl ?_
    exact hk135 _ _ _ I_p0 f_p0_dirs s0 x3 (x5 + 1) hP hD hS (lv_sub hl [2, 1, 3, 0] rfl) hw
  have b165 : ∀ (k73 : (Nat → Int32) → (Nat → Int32) → Int32 → Prop), (∀ (H : Heap) (locs : List Loc) (ls : Array Slot) (I_p0 : Nat → Int32) (f_p0_dirs : Nat → Int32) (x2 : Int32), va_P (dC, dI) vwCl [oM a_p0 A_p0 I_p0, gz cI (A_p0 13) 8 f_p0_dirs, gz cI (A_p0 0) 2000 f_p0_file] H → va_D A [oM a_p0 A_p0 I_p0, gz cI (A_p0 13) 8 f_p0_dirs, gz cI (A_p0 0) 2000 f_p0_file] → va_S A s.heap H locs → lv_has ls 6 [(0, .ref a_p0), (2, .int x2)] → k73 I_p0 f_p0_dirs x2 → W p l e ({ frames := 2, cells := 0, slots := 0, locals := 49 } : Room) s m args below meth c H locs 0 0 Q (F0 m 73 ls [])) → ∀ (k135 : (Nat → Int32) → (Nat → Int32) → Int32 → Int64 → Int32 → Prop), (∀ (H : Heap) (locs : List Loc) (ls : Array Slot) (I_p0 : Nat → Int32) (f_p0_dirs : Nat → Int32) (x2 : Int32) (x3 : Int64) (x5 : Int32), va_P (dC, dI) vwCl [oM a_p0 A_p0 I_p0, gz cI (A_p0 13) 8 f_p0_dirs, gz cI (A_p0 0) 2000 f_p0_file] H → va_D A [oM a_p0 A_p0 I_p0, gz cI (A_p0 13) 8 f_p0_dirs, gz cI (A_p0 0) 2000 f_p0_file] → va_S A s.heap H locs → lv_has ls 6 [(0, .ref a_p0), (2, .int x2), (3, .long x3), (5, .int x5)] → k135 I_p0 f_p0_dirs x2 x3 x5 → W p l e ({ frames := 2, cells := 0, slots := 0, locals := 49 } : Room) s m args below meth c H locs 0 0 Q (F0 m 135 ls [])) → ∀ (H : Heap) (locs : List Loc) (ls : Array Slot) (I_p0 : Nat → Int32) (f_p0_dirs : Nat → Int32) (x3 : Int64) (x5 : Int32), va_P (dC, dI) vwCl [oM a_p0 A_p0 I_p0, gz cI (A_p0 13) 8 f_p0_dirs, gz cI (A_p0 0) 2000 f_p0_file] H → va_D A [oM a_p0 A_p0 I_p0, gz cI (A_p0 13) 8 f_p0_dirs, gz cI (A_p0 0) 2000 f_p0_file] → va_S A s.heap H locs → lv_has ls 6 [(0, .ref a_p0), (3, .long x3), (5, .int x5)] → wp_M_walk_b165 post k73 k135 f_p0_file I_p0 f_p0_dirs x3 x5 → W p l e ({ frames := 2, cells := 0, slots := 0, locals := 49 } : Room) s m args below meth c H locs 0 0 Q (F0 m 165 ls []) := by
    intro k73 hk73 k135 hk135 H locs ls I_p0 f_p0_dirs x3 x5 hP hD hS hl hw
    unfold wp_M_walk_b165 at hw
    refine lv_iconst (v := 0) hx hb d_M_walk_165 (by decide) ?_
    exact b166 _ hk73 _ hk135 _ _ _ I_p0 f_p0_dirs x3 x5 0 hP hD hS (lv_sub hl [0, 1, 2] rfl) hw
  have l135 : ∀ (k73 : (Nat → Int32) → (Nat → Int32) → Int32 → Prop), (∀ (H : Heap) (locs : List Loc) (ls : Array Slot) (I_p0 : Nat → Int32) (f_p0_dirs : Nat → Int32) (x2 : Int32), va_P (dC, dI) vwCl [oM a_p0 A_p0 I_p0, gz cI (A_p0 13) 8 f_p0_dirs, gz cI (A_p0 0) 2000 f_p0_file] H → va_D A [oM a_p0 A_p0 I_p0, gz cI (A_p0 13) 8 f_p0_dirs, gz cI (A_p0 0) 2000 f_p0_file] → va_S A s.heap H locs → lv_has ls 6 [(0, .ref a_p0), (2, .int x2)] → k73 I_p0 f_p0_dirs x2 → W p l e ({ frames := 2, cells := 0, slots := 0, locals := 49 } : Room) s m args below meth c H locs 0 0 Q (F0 m 73 ls [])) → ∀ n : Nat, ∀ (H : Heap) (locs : List Loc) (ls : Array Slot) (I_p0 : Nat → Int32) (f_p0_dirs : Nat → Int32) (x2 : Int32) (x3 : Int64) (x5 : Int32), va_P (dC, dI) vwCl [oM a_p0 A_p0 I_p0, gz cI (A_p0 13) 8 f_p0_dirs, gz cI (A_p0 0) 2000 f_p0_file] H → va_D A [oM a_p0 A_p0 I_p0, gz cI (A_p0 13) 8 f_p0_dirs, gz cI (A_p0 0) 2000 f_p0_file] → va_S A s.heap H locs → lv_has ls 6 [(0, .ref a_p0), (2, .int x2), (3, .long x3), (5, .int x5)] → wp_M_walk_l135 post k73 f_p0_file n I_p0 f_p0_dirs x2 x3 x5 → W p l e ({ frames := 2, cells := 0, slots := 0, locals := 49 } : Room) s m args below meth c H locs 0 0 Q (F0 m 135 ls []) := by
    intro k73 hk73 n
    induction n with
    | zero => intro H locs ls I_p0 f_p0_dirs x2 x3 x5 hP hD hS hl hw; exact hw.elim
    | succ n ih =>
      intro H locs ls I_p0 f_p0_dirs x2 x3 x5 hP hD hS hl hw
      unfold wp_M_walk_l135 at hw
      refine lv_iload hx hb d_M_walk_135 (lv_at hl 3 rfl) ?_
      refine lv_aload_n hx hb d_M_walk_137 rfl (lv_at hl 0 rfl) ?_
      refine va_get (D := (dC, dI)) (ci := 10) (v := .int (I_p0 11)) (C := R_M) (T := T_M) (N := 30) hx hb hg in_M hown hK hP 0 rfl rfl 11 (by decide) (hg _ t_769) (fun _ h9 => h9) rfl d_M_walk_138 ?_
      refine lv_icmp_ge hx hb d_M_walk_141 rfl (fun hc => ?_) (fun hc => ?_)
      · have hw := hw.1 hc
        refine lv_iload_n hx hb d_M_walk_173 rfl (lv_at hl 1 rfl) ?_
        refine lv_if_eq hx hb d_M_walk_174 rfl (fun hc => ?_) (fun hc => ?_)
        · have hw := hw.1 hc
          exact b218 _ hk73 _ _ _ I_p0 f_p0_dirs x2 hP hD hS (lv_sub hl [0, 1] rfl) hw
        · have hw := hw.2 hc
          refine lv_aload_n hx hb d_M_walk_177 rfl (lv_at hl 0 rfl) ?_
          refine va_get (D := (dC, dI)) (ci := 10) (v := .ref (A_p0 13)) (C := R_M) (T := T_M) (N := 30) hx hb hg in_M hown hK hP 0 rfl rfl 13 (by decide) (hg _ t_771) (fun _ h9 => h9) rfl d_M_walk_178 ?_
          refine lv_aload_n hx hb d_M_walk_181 rfl (lv_at hl 0 rfl) ?_
          refine va_get (D := (dC, dI)) (ci := 10) (v := .int (I_p0 11)) (C := R_M) (T := T_M) (N := 30) hx hb hg in_M hown hK hP 0 rfl rfl 11 (by decide) (hg _ t_769) (fun _ h9 => h9) rfl d_M_walk_182 ?_
          refine lv_lload_n hx hb d_M_walk_185 rfl (lv_at hl 2 rfl) ?_
          refine lv_l2i hx hb d_M_walk_186 rfl ?_
          obtain ⟨hin, hw⟩ := hw
          refine va_iast hx hb hK hP hD hS 1 0 rfl rfl hin d_M_walk_187 (fun H locs hP hD hS => ?_)
          have hP : va_P (dC, dI) vwCl [oM a_p0 A_p0 I_p0, gz cI (A_p0 13) 8 (upd f_p0_dirs (I_p0 11).toNatClampNeg x3.toInt32), gz cI (A_p0 0) 2000 f_p0_file] H := hP
          have hD : va_D A [oM a_p0 A_p0 I_p0, gz cI (A_p0 13) 8 (upd f_p0_dirs (I_p0 11).toNatClampNeg x3.toInt32), gz cI (A_p0 0) 2000 f_p0_file] := hD
          refine lv_aload_n hx hb d_M_walk_188 rfl (lv_at hl 0 rfl) ?_
          refine lv_dup hx hb d_M_walk_189 rfl ?_
          refine va_get (D := (dC, dI)) (ci := 10) (v := .int (I_p0 11)) (C := R_M) (T := T_M) (N := 30) hx hb hg in_M hown hK hP 0 rfl rfl 11 (by decide) (hg _ t_769) (fun _ h9 => h9) rfl d_M_walk_190 ?_
          refine lv_iconst (v := 1) hx hb d_M_walk_193 (by decide) ?_
          refine lv_iadd hx hb d_M_walk_194 ?_
          refine va_put (D := (dC, dI)) (ci := 10) (v := .int ((I_p0 11) + 1)) (ty := .int) (C := R_M) (T := T_M) (N := 30) hx hb hg in_M t_M tok_M nok_M hown hK hP hD hS 0 rfl rfl 11 (by decide) (hg _ t_769) (fun _ h9 => h9) rfl (by decide +kernel) rfl rfl (Nat.le_of_ble_eq_true rfl) d_M_walk_195 (fun H locs hP hD hS => ?_)
          have hP : va_P (dC, dI) vwCl [oM a_p0 A_p0 (upd I_p0 11 ((I_p0 11) + 1)), gz cI (A_p0 13) 8 (upd f_p0_dirs (I_p0 11).toNatClampNeg x3.toInt32), gz cI (A_p0 0) 2000 f_p0_file] H := hP
          have hD : va_D A [oM a_p0 A_p0 (upd I_p0 11 ((I_p0 11) + 1)), gz cI (A_p0 13) 8 (upd f_p0_dirs (I_p0 11).toNatClampNeg x3.toInt32), gz cI (A_p0 0) 2000 f_p0_file] := hD
          refine lv_aload_n hx hb d_M_walk_198 rfl (lv_at hl 0 rfl) ?_
          refine lv_lload_n hx hb d_M_walk_199 rfl (lv_at hl 2 rfl) ?_
          refine lv_l2i hx hb d_M_walk_200 rfl ?_
          refine lv_iconst (v := 2) hx hb d_M_walk_201 (by decide) ?_
          refine lv_iadd hx hb d_M_walk_202 ?_
          refine lv_bipush (v := 12) hx hb d_M_walk_203 (by decide) ?_
          refine lv_aload_n hx hb d_M_walk_205 rfl (lv_at hl 0 rfl) ?_
          refine lv_lload_n hx hb d_M_walk_206 rfl (lv_at hl 2 rfl) ?_
          refine lv_l2i hx hb d_M_walk_207 rfl ?_
          refine lv_iconst (v := 2) hx hb d_M_walk_208 (by decide) ?_
          refine gc_l (wn := fun (_ : Unit) => [oM a_p0 A_p0 (upd I_p0 11 ((I_p0 11) + 1)), gz cI (A_p0 13) 8 (upd f_p0_dirs (I_p0 11).toNatClampNeg x3.toInt32), gz cI (A_p0 0) 2000 f_p0_file]) (wr := [gz cI (A_p0 13) 8 (upd f_p0_dirs (I_p0 11).toNatClampNeg x3.toInt32)]) (gr_V (As := [.int x3.toInt32, .int 2]) (rest := [.int 12, .int (x3.toInt32 + 2), .ref a_p0]) ⟨hx, hb, hml, hown, hg⟩ (c_M_read l dC dI cI a_p0 A_p0 (upd I_p0 11 ((I_p0 11) + 1)) f_p0_file x3.toInt32 2 hw _) (cwV 2 hg (gg_V t_901 t_903 t_28 t_71 t_904) rfl rfl rfl (by decide +kernel) ⟨Nat.le_of_ble_eq_true rfl, Nat.le_of_ble_eq_true rfl⟩) hK hN hP hD [0, 2] (by decide) rfl 0 10 rfl rfl rfl rfl hl.1 rfl (Nat.le_of_ble_eq_true rfl) d_M_walk_209 ⟨Nat.le_of_ble_eq_true rfl, Nat.le_of_ble_eq_true rfl⟩) rfl rfl hP hD hS hA [0, 2] [1] [1, 0, 2] rfl rfl (by decide) (by decide) (by decide) (fun _ => rfl) ?_
          intro r209 _ H locs hw hP hD hS
          try dsimp only at hw
          have hP : va_P (dC, dI) vwCl [oM a_p0 A_p0 (upd I_p0 11 ((I_p0 11) + 1)), gz cI (A_p0 13) 8 (upd f_p0_dirs (I_p0 11).toNatClampNeg x3.toInt32), gz cI (A_p0 0) 2000 f_p0_file] H := hP
          have hD : va_D A [oM a_p0 A_p0 (upd I_p0 11 ((I_p0 11) + 1)), gz cI (A_p0 13) 8 (upd f_p0_dirs (I_p0 11).toNatClampNeg x3.toInt32), gz cI (A_p0 0) 2000 f_p0_file] := hD
          refine lv_l2i hx hb d_M_walk_212 rfl ?_
          refine lv_imul hx hb d_M_walk_213 ?_
          refine lv_iadd hx hb d_M_walk_214 ?_
          refine va_put (D := (dC, dI)) (ci := 10) (v := .int ((x3.toInt32 + 2) + (12 * r209.toInt32))) (ty := .int) (C := R_M) (T := T_M) (N := 30) hx hb hg in_M t_M tok_M nok_M hown hK hP hD hS 0 rfl rfl 14 (by decide) (hg _ t_772) (fun _ h9 => h9) rfl (by decide +kernel) rfl rfl (Nat.le_of_ble_eq_true rfl) d_M_walk_215 (fun H locs hP hD hS => ?_)
          have hP : va_P (dC, dI) vwCl [oM a_p0 A_p0 (upd (upd I_p0 11 ((I_p0 11) + 1)) 14 ((x3.toInt32 + 2) + (12 * r209.toInt32))), gz cI (A_p0 13) 8 (upd f_p0_dirs (I_p0 11).toNatClampNeg x3.toInt32), gz cI (A_p0 0) 2000 f_p0_file] H := hP
          have hD : va_D A [oM a_p0 A_p0 (upd (upd I_p0 11 ((I_p0 11) + 1)) 14 ((x3.toInt32 + 2) + (12 * r209.toInt32))), gz cI (A_p0 13) 8 (upd f_p0_dirs (I_p0 11).toNatClampNeg x3.toInt32), gz cI (A_p0 0) 2000 f_p0_file] := hD
          exact b218 _ hk73 _ _ _ (upd (upd I_p0 11 ((I_p0 11) + 1)) 14 ((x3.toInt32 + 2) + (12 * r209.toInt32))) (upd f_p0_dirs (I_p0 11).toNatClampNeg x3.toInt32) x2 hP hD hS (lv_sub hl [0, 1] rfl) hw
      · have hw := hw.2 hc
        refine lv_iload_n hx hb d_M_walk_144 rfl (lv_at hl 1 rfl) ?_
        refine lv_if_eq hx hb d_M_walk_145 rfl (fun hc => ?_) (fun hc => ?_)
        · have hw := hw.1 hc
          exact b165 _ hk73 _ ih _ _ _ I_p0 f_p0_dirs x3 x5 hP hD hS (lv_sub hl [0, 2, 3] rfl) hw
        · have hw := hw.2 hc
          refine lv_aload_n hx hb d_M_walk_148 rfl (lv_at hl 0 rfl) ?_
          refine va_get (D := (dC, dI)) (ci := 10) (v := .ref (A_p0 13)) (C := R_M) (T := T_M) (N := 30) hx hb hg in_M hown hK hP 0 rfl rfl 13 (by decide) (hg _ t_771) (fun _ h9 => h9) rfl d_M_walk_149 ?_
          refine lv_iload hx hb d_M_walk_152 (lv_at hl 3 rfl) ?_
          obtain ⟨hin, hw⟩ := hw
          refine va_iald hx hb hK hP 1 0 rfl rfl hin d_M_walk_154 ?_
          refine lv_i2l hx hb d_M_walk_155 rfl ?_
          refine lv_lload_n hx hb d_M_walk_156 rfl (lv_at hl 2 rfl) ?_
          refine W.lcmp hx hb d_M_walk_157 ?_
          refine lv_if_eq hx hb d_M_walk_158 rfl (fun hc => ?_) (fun hc => ?_)
          · have hw := hw.1 ((lg_cmp_eq _ _).mp hc)
            exact b165 _ hk73 _ ih _ _ _ I_p0 f_p0_dirs x3 x5 hP hD hS (lv_sub hl [0, 2, 3] rfl) hw
          · have hw := hw.2 (fun h9 => hc ((lg_cmp_eq _ _).mpr h9))
            refine lv_iconst (v := 1) hx hb d_M_walk_161 (by decide) ?_
            refine lv_goto hx hb d_M_walk_162 rfl ?_
            exact b166 _ hk73 _ ih _ _ _ I_p0 f_p0_dirs x3 x5 1 hP hD hS (lv_sub hl [0, 2, 3] rfl) hw
  have b131 : ∀ (k73 : (Nat → Int32) → (Nat → Int32) → Int32 → Prop), (∀ (H : Heap) (locs : List Loc) (ls : Array Slot) (I_p0 : Nat → Int32) (f_p0_dirs : Nat → Int32) (x2 : Int32), va_P (dC, dI) vwCl [oM a_p0 A_p0 I_p0, gz cI (A_p0 13) 8 f_p0_dirs, gz cI (A_p0 0) 2000 f_p0_file] H → va_D A [oM a_p0 A_p0 I_p0, gz cI (A_p0 13) 8 f_p0_dirs, gz cI (A_p0 0) 2000 f_p0_file] → va_S A s.heap H locs → lv_has ls 6 [(0, .ref a_p0), (2, .int x2)] → k73 I_p0 f_p0_dirs x2 → W p l e ({ frames := 2, cells := 0, slots := 0, locals := 49 } : Room) s m args below meth c H locs 0 0 Q (F0 m 73 ls [])) → ∀ (H : Heap) (locs : List Loc) (ls : Array Slot) (I_p0 : Nat → Int32) (f_p0_dirs : Nat → Int32) (x3 : Int64) (s0 : Int32), va_P (dC, dI) vwCl [oM a_p0 A_p0 I_p0, gz cI (A_p0 13) 8 f_p0_dirs, gz cI (A_p0 0) 2000 f_p0_file] H → va_D A [oM a_p0 A_p0 I_p0, gz cI (A_p0 13) 8 f_p0_dirs, gz cI (A_p0 0) 2000 f_p0_file] → va_S A s.heap H locs → lv_has ls 6 [(0, .ref a_p0), (3, .long x3)] → wp_M_walk_b131 post k73 f_p0_file I_p0 f_p0_dirs x3 s0 → W p l e ({ frames := 2, cells := 0, slots := 0, locals := 49 } : Room) s m args below meth c H locs 0 0 Q (F0 m 131 ls [.int s0]) := by
    intro k73 hk73 H locs ls I_p0 f_p0_dirs x3 s0 hP hD hS hl hw
    unfold wp_M_walk_b131 at hw
    refine lv_istore_n (lv' := [(2, .int s0), (0, .ref a_p0), (3, .long x3)]) hx hb d_M_walk_131 rfl hl (by decide) rfl (fun ls hl => ?_)
    refine lv_iconst (v := 0) hx hb d_M_walk_132 (by decide) ?_
    refine lv_istore (lv' := [(5, .int 0), (2, .int s0), (0, .ref a_p0), (3, .long x3)]) hx hb d_M_walk_133 hl (by decide) rfl (fun ls hl => ?_)
    obtain ⟨n1, hw⟩ := hw
    exact l135 _ hk73 n1 _ _ _ I_p0 f_p0_dirs s0 x3 0 hP hD hS (lv_sub hl [2, 1, 3, 0] rfl) hw
  have b130 : ∀ (k73 : (Nat → Int32) → (Nat → Int32) → Int32 → Prop), (∀ (H : Heap) (locs : List Loc) (ls : Array Slot) (I_p0 : Nat → Int32) (f_p0_dirs : Nat → Int32) (x2 : Int32), va_P (dC, dI) vwCl [oM a_p0 A_p0 I_p0, gz cI (A_p0 13) 8 f_p0_dirs, gz cI (A_p0 0) 2000 f_p0_file] H → va_D A [oM a_p0 A_p0 I_p0, gz cI (A_p0 13) 8 f_p0_dirs, gz cI (A_p0 0) 2000 f_p0_file] → va_S A s.heap H locs → lv_has ls 6 [(0, .ref a_p0), (2, .int x2)] → k73 I_p0 f_p0_dirs x2 → W p l e ({ frames := 2, cells := 0, slots := 0, locals := 49 } : Room) s m args below meth c H locs 0 0 Q (F0 m 73 ls [])) → ∀ (H : Heap) (locs : List Loc) (ls : Array Slot) (I_p0 : Nat → Int32) (f_p0_dirs : Nat → Int32) (x3 : Int64), va_P (dC, dI) vwCl [oM a_p0 A_p0 I_p0, gz cI (A_p0 13) 8 f_p0_dirs, gz cI (A_p0 0) 2000 f_p0_file] H → va_D A [oM a_p0 A_p0 I_p0, gz cI (A_p0 13) 8 f_p0_dirs, gz cI (A_p0 0) 2000 f_p0_file] → va_S A s.heap H locs → lv_has ls 6 [(0, .ref a_p0), (3, .long x3)] → wp_M_walk_b130 post k73 f_p0_file I_p0 f_p0_dirs x3 → W p l e ({ frames := 2, cells := 0, slots := 0, locals := 49 } : Room) s m args below meth c H locs 0 0 Q (F0 m 130 ls []) := by
    intro k73 hk73 H locs ls I_p0 f_p0_dirs x3 hP hD hS hl hw
    unfold wp_M_walk_b130 at hw
    refine lv_iconst (v := 0) hx hb d_M_walk_130 (by decide) ?_
    exact b131 _ hk73 _ _ _ I_p0 f_p0_dirs x3 0 hP hD hS (lv_sub hl [0, 1] rfl) hw
  have b99 : ∀ (k73 : (Nat → Int32) → (Nat → Int32) → Int32 → Prop), (∀ (H : Heap) (locs : List Loc) (ls : Array Slot) (I_p0 : Nat → Int32) (f_p0_dirs : Nat → Int32) (x2 : Int32), va_P (dC, dI) vwCl [oM a_p0 A_p0 I_p0, gz cI (A_p0 13) 8 f_p0_dirs, gz cI (A_p0 0) 2000 f_p0_file] H → va_D A [oM a_p0 A_p0 I_p0, gz cI (A_p0 13) 8 f_p0_dirs, gz cI (A_p0 0) 2000 f_p0_file] → va_S A s.heap H locs → lv_has ls 6 [(0, .ref a_p0), (2, .int x2)] → k73 I_p0 f_p0_dirs x2 → W p l e ({ frames := 2, cells := 0, slots := 0, locals := 49 } : Room) s m args below meth c H locs 0 0 Q (F0 m 73 ls [])) → ∀ (H : Heap) (locs : List Loc) (ls : Array Slot) (I_p0 : Nat → Int32) (f_p0_dirs : Nat → Int32) (x3 : Int64) (s0 : Int32), va_P (dC, dI) vwCl [oM a_p0 A_p0 I_p0, gz cI (A_p0 13) 8 f_p0_dirs, gz cI (A_p0 0) 2000 f_p0_file] H → va_D A [oM a_p0 A_p0 I_p0, gz cI (A_p0 13) 8 f_p0_dirs, gz cI (A_p0 0) 2000 f_p0_file] → va_S A s.heap H locs → lv_has ls 6 [(0, .ref a_p0), (3, .long x3)] → wp_M_walk_b99 post k73 f_p0_file I_p0 f_p0_dirs x3 s0 → W p l e ({ frames := 2, cells := 0, slots := 0, locals := 49 } : Room) s m args below meth c H locs 0 0 Q (F0 m 99 ls [.int s0, .ref a_p0]) := by
    intro k73 hk73 H locs ls I_p0 f_p0_dirs x3 s0 hP hD hS hl hw
    unfold wp_M_walk_b99 at hw
    obtain ⟨hz, hw⟩ := hw
    refine va_put (D := (dC, dI)) (ci := 10) (v := .int s0) (ty := .boolean) (C := R_M) (T := T_M) (N := 30) hx hb hg in_M t_M tok_M nok_M hown hK hP hD hS 0 rfl rfl 12 (by decide) (hg _ t_770) (fun _ h9 => h9) rfl (by decide +kernel) (gz_nar hz) (gz_fit hz) (Nat.le_of_ble_eq_true rfl) d_M_walk_99 (fun H locs hP hD hS => ?_)
    have hP : va_P (dC, dI) vwCl [oM a_p0 A_p0 (upd I_p0 12 s0), gz cI (A_p0 13) 8 f_p0_dirs, gz cI (A_p0 0) 2000 f_p0_file] H := hP
    have hD : va_D A [oM a_p0 A_p0 (upd I_p0 12 s0), gz cI (A_p0 13) 8 f_p0_dirs, gz cI (A_p0 0) 2000 f_p0_file] := hD
    refine lv_aload_n hx hb d_M_walk_102 rfl (lv_at hl 0 rfl) ?_
    refine va_get (D := (dC, dI)) (ci := 10) (v := .int s0) (C := R_M) (T := T_M) (N := 30) hx hb hg in_M hown hK hP 0 rfl rfl 12 (by decide) (hg _ t_770) (fun _ h9 => h9) rfl d_M_walk_103 ?_
    refine lv_if_ne hx hb d_M_walk_106 rfl (fun hc => ?_) (fun hc => ?_)
    · have hw := hw.2 hc
      exact b130 _ hk73 _ _ _ (upd I_p0 12 s0) f_p0_dirs x3 hP hD hS (lv_sub hl [0, 1] rfl) hw
    · have hw := hw.1 hc
      refine lv_aload_n hx hb d_M_walk_109 rfl (lv_at hl 0 rfl) ?_
      refine va_get (D := (dC, dI)) (ci := 10) (v := .int (I_p0 11)) (C := R_M) (T := T_M) (N := 30) hx hb hg in_M hown hK hP 0 rfl rfl 11 (by decide) (hg _ t_769) (fun _ h9 => h9) rfl d_M_walk_110 ?_
      refine lv_bipush (v := 8) hx hb d_M_walk_113 (by decide) ?_
      refine lv_icmp_ge hx hb d_M_walk_115 rfl (fun hc => ?_) (fun hc => ?_)
      · have hw := hw.1 hc
        exact b130 _ hk73 _ _ _ (upd I_p0 12 s0) f_p0_dirs x3 hP hD hS (lv_sub hl [0, 1] rfl) hw
      · have hw := hw.2 hc
        refine lv_aload_n hx hb d_M_walk_118 rfl (lv_at hl 0 rfl) ?_
        refine lv_lload_n hx hb d_M_walk_119 rfl (lv_at hl 1 rfl) ?_
        refine gc_i (wn := fun (_ : Unit) => [oM a_p0 A_p0 (upd I_p0 12 s0), gz cI (A_p0 13) 8 f_p0_dirs, gz cI (A_p0 0) 2000 f_p0_file]) (wr := [gz cI (A_p0 13) 8 f_p0_dirs]) (gr_V (As := [.long x3]) (rest := []) ⟨hx, hb, hml, hown, hg⟩ (c_M_stands l dC dI cI a_p0 A_p0 (upd I_p0 12 s0) f_p0_file x3 hw _) (cwV 1 hg (gg_V t_907 t_909 t_29 t_71 t_910) rfl rfl rfl (by decide +kernel) ⟨Nat.le_of_ble_eq_true rfl, Nat.le_of_ble_eq_true rfl⟩) hK hN hP hD [0, 2] (by decide) rfl 0 10 rfl rfl rfl rfl hl.1 rfl (Nat.le_of_ble_eq_true rfl) d_M_walk_120 ⟨Nat.le_of_ble_eq_true rfl, Nat.le_of_ble_eq_true rfl⟩) rfl rfl hP hD hS hA [0, 2] [1] [1, 0, 2] rfl rfl (by decide) (by decide) (by decide) (fun _ => rfl) ?_
        intro r120 _ H locs hw hP hD hS
        try dsimp only at hw
        have hP : va_P (dC, dI) vwCl [oM a_p0 A_p0 (upd I_p0 12 s0), gz cI (A_p0 13) 8 f_p0_dirs, gz cI (A_p0 0) 2000 f_p0_file] H := hP
        have hD : va_D A [oM a_p0 A_p0 (upd I_p0 12 s0), gz cI (A_p0 13) 8 f_p0_dirs, gz cI (A_p0 0) 2000 f_p0_file] := hD
        refine lv_if_eq hx hb d_M_walk_123 rfl (fun hc => ?_) (fun hc => ?_)
        · have hw := hw.1 hc
          exact b130 _ hk73 _ _ _ (upd I_p0 12 s0) f_p0_dirs x3 hP hD hS (lv_sub hl [0, 1] rfl) hw
        · have hw := hw.2 hc
          refine lv_iconst (v := 1) hx hb d_M_walk_126 (by decide) ?_
          refine lv_goto hx hb d_M_walk_127 rfl ?_
          exact b131 _ hk73 _ _ _ (upd I_p0 12 s0) f_p0_dirs x3 1 hP hD hS (lv_sub hl [0, 1] rfl) hw
  have l73 : ∀ n : Nat, ∀ (H : Heap) (locs : List Loc) (ls : Array Slot) (I_p0 : Nat → Int32) (f_p0_dirs : Nat → Int32) (x2 : Int32), va_P (dC, dI) vwCl [oM a_p0 A_p0 I_p0, gz cI (A_p0 13) 8 f_p0_dirs, gz cI (A_p0 0) 2000 f_p0_file] H → va_D A [oM a_p0 A_p0 I_p0, gz cI (A_p0 13) 8 f_p0_dirs, gz cI (A_p0 0) 2000 f_p0_file] → va_S A s.heap H locs → lv_has ls 6 [(0, .ref a_p0), (2, .int x2)] → wp_M_walk_l73 post f_p0_file n I_p0 f_p0_dirs x2 → W p l e ({ frames := 2, cells := 0, slots := 0, locals := 49 } : Room) s m args below meth c H locs 0 0 Q (F0 m 73 ls []) := by
    intro n
    induction n with
    | zero => intro H locs ls I_p0 f_p0_dirs x2 hP hD hS hl hw; exact hw.elim
    | succ n ih =>
      intro H locs ls I_p0 f_p0_dirs x2 hP hD hS hl hw
      unfold wp_M_walk_l73 at hw
      refine lv_iload_n hx hb d_M_walk_73 rfl (lv_at hl 1 rfl) ?_
      refine lv_if_eq hx hb d_M_walk_74 rfl (fun hc => ?_) (fun hc => ?_)
      · have hw := hw.1 hc
        exact hret _ _ _ _ (I_p0, f_p0_dirs) d_M_walk_221 hP hD hS hw
      · have hw := hw.2 hc
        refine lv_aload_n hx hb d_M_walk_77 rfl (lv_at hl 0 rfl) ?_
        refine lv_aload_n hx hb d_M_walk_78 rfl (lv_at hl 0 rfl) ?_
        refine va_get (D := (dC, dI)) (ci := 10) (v := .int (I_p0 14)) (C := R_M) (T := T_M) (N := 30) hx hb hg in_M hown hK hP 0 rfl rfl 14 (by decide) (hg _ t_772) (fun _ h9 => h9) rfl d_M_walk_79 ?_
        refine lv_iconst (v := 4) hx hb d_M_walk_82 (by decide) ?_
        refine gc_l (wn := fun (_ : Unit) => [oM a_p0 A_p0 I_p0, gz cI (A_p0 13) 8 f_p0_dirs, gz cI (A_p0 0) 2000 f_p0_file]) (wr := [gz cI (A_p0 13) 8 f_p0_dirs]) (gr_V (As := [.int (I_p0 14), .int 4]) (rest := []) ⟨hx, hb, hml, hown, hg⟩ (c_M_read l dC dI cI a_p0 A_p0 I_p0 f_p0_file (I_p0 14) 4 hw _) (cwV 2 hg (gg_V t_901 t_903 t_28 t_71 t_904) rfl rfl rfl (by decide +kernel) ⟨Nat.le_of_ble_eq_true rfl, Nat.le_of_ble_eq_true rfl⟩) hK hN hP hD [0, 2] (by decide) rfl 0 10 rfl rfl rfl rfl hl.1 rfl (Nat.le_of_ble_eq_true rfl) d_M_walk_83 ⟨Nat.le_of_ble_eq_true rfl, Nat.le_of_ble_eq_true rfl⟩) rfl rfl hP hD hS hA [0, 2] [1] [1, 0, 2] rfl rfl (by decide) (by decide) (by decide) (fun _ => rfl) ?_
        intro r83 _ H locs hw hP hD hS
        try dsimp only at hw
        have hP : va_P (dC, dI) vwCl [oM a_p0 A_p0 I_p0, gz cI (A_p0 13) 8 f_p0_dirs, gz cI (A_p0 0) 2000 f_p0_file] H := hP
        have hD : va_D A [oM a_p0 A_p0 I_p0, gz cI (A_p0 13) 8 f_p0_dirs, gz cI (A_p0 0) 2000 f_p0_file] := hD
        refine lv_lstore_n (lv' := [(3, .long r83), (0, .ref a_p0), (2, .int x2)]) hx hb d_M_walk_86 rfl hl (by decide) rfl (fun ls hl => ?_)
        refine lv_aload_n hx hb d_M_walk_87 rfl (lv_at hl 1 rfl) ?_
        refine lv_lload_n hx hb d_M_walk_88 rfl (lv_at hl 0 rfl) ?_
        refine lv_lconst (v := 0) hx hb d_M_walk_89 (by decide) ?_
        refine W.lcmp hx hb d_M_walk_90 ?_
        refine lv_if_ne hx hb d_M_walk_91 rfl (fun hc => ?_) (fun hc => ?_)
        · have hw := hw.2 (fun h9 => hc ((lg_cmp_eq _ _).mpr h9))
          refine lv_iconst (v := 0) hx hb d_M_walk_98 (by decide) ?_
          exact b99 _ ih _ _ _ I_p0 f_p0_dirs r83 0 hP hD hS (lv_sub hl [1, 0] rfl) hw
        · have hw := hw.1 ((lg_cmp_eq _ _).mp hc)
          refine lv_iconst (v := 1) hx hb d_M_walk_94 (by decide) ?_
          refine lv_goto hx hb d_M_walk_95 rfl ?_
          exact b99 _ ih _ _ _ I_p0 f_p0_dirs r83 1 hP hD hS (lv_sub hl [1, 0] rfl) hw
  have b70 : ∀ (H : Heap) (locs : List Loc) (ls : Array Slot) (I_p0 : Nat → Int32) (f_p0_dirs : Nat → Int32) (s0 : Int32), va_P (dC, dI) vwCl [oM a_p0 A_p0 I_p0, gz cI (A_p0 13) 8 f_p0_dirs, gz cI (A_p0 0) 2000 f_p0_file] H → va_D A [oM a_p0 A_p0 I_p0, gz cI (A_p0 13) 8 f_p0_dirs, gz cI (A_p0 0) 2000 f_p0_file] → va_S A s.heap H locs → lv_has ls 6 [(0, .ref a_p0)] → wp_M_walk_b70 post f_p0_file I_p0 f_p0_dirs s0 → W p l e ({ frames := 2, cells := 0, slots := 0, locals := 49 } : Room) s m args below meth c H locs 0 0 Q (F0 m 70 ls [.int s0]) := by
    intro H locs ls I_p0 f_p0_dirs s0 hP hD hS hl hw
    unfold wp_M_walk_b70 at hw
    refine lv_istore_n (lv' := [(1, .int s0), (0, .ref a_p0)]) hx hb d_M_walk_70 rfl hl (by decide) rfl (fun ls hl => ?_)
    refine lv_iload_n hx hb d_M_walk_71 rfl (lv_at hl 0 rfl) ?_
    refine lv_istore_n (lv' := [(2, .int s0), (1, .int s0), (0, .ref a_p0)]) hx hb d_M_walk_72 rfl hl (by decide) rfl (fun ls hl => ?_)
    obtain ⟨n1, hw⟩ := hw
    exact l73 n1 _ _ _ I_p0 f_p0_dirs s0 hP hD hS (lv_sub hl [2, 0] rfl) hw
  have b69 : ∀ (H : Heap) (locs : List Loc) (ls : Array Slot) (I_p0 : Nat → Int32) (f_p0_dirs : Nat → Int32), va_P (dC, dI) vwCl [oM a_p0 A_p0 I_p0, gz cI (A_p0 13) 8 f_p0_dirs, gz cI (A_p0 0) 2000 f_p0_file] H → va_D A [oM a_p0 A_p0 I_p0, gz cI (A_p0 13) 8 f_p0_dirs, gz cI (A_p0 0) 2000 f_p0_file] → va_S A s.heap H locs → lv_has ls 6 [(0, .ref a_p0)] → wp_M_walk_b69 post f_p0_file I_p0 f_p0_dirs → W p l e ({ frames := 2, cells := 0, slots := 0, locals := 49 } : Room) s m args below meth c H locs 0 0 Q (F0 m 69 ls []) := by
    intro H locs ls I_p0 f_p0_dirs hP hD hS hl hw
    unfold wp_M_walk_b69 at hw
    refine lv_iconst (v := 0) hx hb d_M_walk_69 (by decide) ?_
    exact b70 _ _ _ I_p0 f_p0_dirs 0 hP hD hS (lv_sub hl [0] rfl) hw
  have b52 : ∀ (H : Heap) (locs : List Loc) (ls : Array Slot) (I_p0 : Nat → Int32) (f_p0_dirs : Nat → Int32), va_P (dC, dI) vwCl [oM a_p0 A_p0 I_p0, gz cI (A_p0 13) 8 f_p0_dirs, gz cI (A_p0 0) 2000 f_p0_file] H → va_D A [oM a_p0 A_p0 I_p0, gz cI (A_p0 13) 8 f_p0_dirs, gz cI (A_p0 0) 2000 f_p0_file] → va_S A s.heap H locs → lv_has ls 6 [(0, .ref a_p0)] → wp_M_walk_b52 post f_p0_file I_p0 f_p0_dirs → W p l e ({ frames := 2, cells := 0, slots := 0, locals := 49 } : Room) s m args below meth c H locs 0 0 Q (F0 m 52 ls []) := by
    intro H locs ls I_p0 f_p0_dirs hP hD hS hl hw
    unfold wp_M_walk_b52 at hw
    refine lv_aload_n hx hb d_M_walk_52 rfl (lv_at hl 0 rfl) ?_
    refine lv_iconst (v := 2) hx hb d_M_walk_53 (by decide) ?_
    refine lv_iconst (v := 2) hx hb d_M_walk_54 (by decide) ?_
    refine gc_l (wn := fun (_ : Unit) => [oM a_p0 A_p0 I_p0, gz cI (A_p0 13) 8 f_p0_dirs, gz cI (A_p0 0) 2000 f_p0_file]) (wr := [gz cI (A_p0 13) 8 f_p0_dirs]) (gr_V (As := [.int 2, .int 2]) (rest := []) ⟨hx, hb, hml, hown, hg⟩ (c_M_read l dC dI cI a_p0 A_p0 I_p0 f_p0_file 2 2 hw _) (cwV 2 hg (gg_V t_901 t_903 t_28 t_71 t_904) rfl rfl rfl (by decide +kernel) ⟨Nat.le_of_ble_eq_true rfl, Nat.le_of_ble_eq_true rfl⟩) hK hN hP hD [0, 2] (by decide) rfl 0 10 rfl rfl rfl rfl hl.1 rfl (Nat.le_of_ble_eq_true rfl) d_M_walk_55 ⟨Nat.le_of_ble_eq_true rfl, Nat.le_of_ble_eq_true rfl⟩) rfl rfl hP hD hS hA [0, 2] [1] [1, 0, 2] rfl rfl (by decide) (by decide) (by decide) (fun _ => rfl) ?_
    intro r55 _ H locs hw hP hD hS
    try dsimp only at hw
    have hP : va_P (dC, dI) vwCl [oM a_p0 A_p0 I_p0, gz cI (A_p0 13) 8 f_p0_dirs, gz cI (A_p0 0) 2000 f_p0_file] H := hP
    have hD : va_D A [oM a_p0 A_p0 I_p0, gz cI (A_p0 13) 8 f_p0_dirs, gz cI (A_p0 0) 2000 f_p0_file] := hD
    refine lv_ldc2 (v := 42) hx hb hown (hg _ t_906) d_M_walk_58 ?_
    refine W.lcmp hx hb d_M_walk_61 ?_
    refine lv_if_ne hx hb d_M_walk_62 rfl (fun hc => ?_) (fun hc => ?_)
    · have hw := hw.2 (fun h9 => hc ((lg_cmp_eq _ _).mpr h9))
      exact b69 _ _ _ I_p0 f_p0_dirs hP hD hS (lv_sub hl [0] rfl) hw
    · have hw := hw.1 ((lg_cmp_eq _ _).mp hc)
      refine lv_iconst (v := 1) hx hb d_M_walk_65 (by decide) ?_
      refine lv_goto hx hb d_M_walk_66 rfl ?_
      exact b70 _ _ _ I_p0 f_p0_dirs 1 hP hD hS (lv_sub hl [0] rfl) hw
  intro ls hl hP hD hS
  have hl : lv_has ls 6 [(0, .ref a_p0)] := hl
  unfold wp_M_walk at hw
  refine lv_aload_n hx hb d_M_walk_0 rfl (lv_at hl 0 rfl) ?_
  refine lv_iconst (v := 0) hx hb d_M_walk_1 (by decide) ?_
  refine va_put (D := (dC, dI)) (ci := 10) (v := .int 0) (ty := .int) (C := R_M) (T := T_M) (N := 30) hx hb hg in_M t_M tok_M nok_M hown hK hP hD hS 0 rfl rfl 11 (by decide) (hg _ t_769) (fun _ h9 => h9) rfl (by decide +kernel) rfl rfl (Nat.le_of_ble_eq_true rfl) d_M_walk_2 (fun H locs hP hD hS => ?_)
  have hP : va_P (dC, dI) vwCl [oM a_p0 A_p0 (upd I_p0 11 0), gz cI (A_p0 13) 8 f_p0_dirs, gz cI (A_p0 0) 2000 f_p0_file] H := hP
  have hD : va_D A [oM a_p0 A_p0 (upd I_p0 11 0), gz cI (A_p0 13) 8 f_p0_dirs, gz cI (A_p0 0) 2000 f_p0_file] := hD
  refine lv_aload_n hx hb d_M_walk_5 rfl (lv_at hl 0 rfl) ?_
  refine lv_iconst (v := 0) hx hb d_M_walk_6 (by decide) ?_
  refine va_put (D := (dC, dI)) (ci := 10) (v := .int 0) (ty := .boolean) (C := R_M) (T := T_M) (N := 30) hx hb hg in_M t_M tok_M nok_M hown hK hP hD hS 0 rfl rfl 12 (by decide) (hg _ t_770) (fun _ h9 => h9) rfl (by decide +kernel) rfl rfl (Nat.le_of_ble_eq_true rfl) d_M_walk_7 (fun H locs hP hD hS => ?_)
  have hP : va_P (dC, dI) vwCl [oM a_p0 A_p0 (upd (upd I_p0 11 0) 12 0), gz cI (A_p0 13) 8 f_p0_dirs, gz cI (A_p0 0) 2000 f_p0_file] H := hP
  have hD : va_D A [oM a_p0 A_p0 (upd (upd I_p0 11 0) 12 0), gz cI (A_p0 13) 8 f_p0_dirs, gz cI (A_p0 0) 2000 f_p0_file] := hD
  refine lv_aload_n hx hb d_M_walk_10 rfl (lv_at hl 0 rfl) ?_
  refine lv_iconst (v := 4) hx hb d_M_walk_11 (by decide) ?_
  refine va_put (D := (dC, dI)) (ci := 10) (v := .int 4) (ty := .int) (C := R_M) (T := T_M) (N := 30) hx hb hg in_M t_M tok_M nok_M hown hK hP hD hS 0 rfl rfl 14 (by decide) (hg _ t_772) (fun _ h9 => h9) rfl (by decide +kernel) rfl rfl (Nat.le_of_ble_eq_true rfl) d_M_walk_12 (fun H locs hP hD hS => ?_)
  have hP : va_P (dC, dI) vwCl [oM a_p0 A_p0 (upd (upd (upd I_p0 11 0) 12 0) 14 4), gz cI (A_p0 13) 8 f_p0_dirs, gz cI (A_p0 0) 2000 f_p0_file] H := hP
  have hD : va_D A [oM a_p0 A_p0 (upd (upd (upd I_p0 11 0) 12 0) 14 4), gz cI (A_p0 13) 8 f_p0_dirs, gz cI (A_p0 0) 2000 f_p0_file] := hD
  refine lv_aload_n hx hb d_M_walk_15 rfl (lv_at hl 0 rfl) ?_
  refine va_get (D := (dC, dI)) (ci := 10) (v := .ref (A_p0 0)) (C := R_M) (T := T_M) (N := 30) hx hb hg in_M hown hK hP 0 rfl rfl 0 (by decide) (hg _ t_758) (fun _ h9 => h9) rfl d_M_walk_16 ?_
  refine lv_iconst (v := 0) hx hb d_M_walk_19 (by decide) ?_
  obtain ⟨hin, hw⟩ := hw
  refine va_iald hx hb hK hP 2 0 rfl rfl hin d_M_walk_20 ?_
  refine lv_aload_n hx hb d_M_walk_21 rfl (lv_at hl 0 rfl) ?_
  refine va_get (D := (dC, dI)) (ci := 10) (v := .ref (A_p0 0)) (C := R_M) (T := T_M) (N := 30) hx hb hg in_M hown hK hP 0 rfl rfl 0 (by decide) (hg _ t_758) (fun _ h9 => h9) rfl d_M_walk_22 ?_
  refine lv_iconst (v := 1) hx hb d_M_walk_25 (by decide) ?_
  obtain ⟨hin, hw⟩ := hw
  refine va_iald hx hb hK hP 2 0 rfl rfl hin d_M_walk_26 ?_
  refine lv_icmp_ne hx hb d_M_walk_27 rfl (fun hc => ?_) (fun hc => ?_)
  · have hw := hw.2 hc
    exact b69 _ _ _ (upd (upd (upd I_p0 11 0) 12 0) 14 4) f_p0_dirs hP hD hS (lv_sub hl [0] rfl) hw
  · have hw := hw.1 hc
    refine lv_aload_n hx hb d_M_walk_30 rfl (lv_at hl 0 rfl) ?_
    refine va_get (D := (dC, dI)) (ci := 10) (v := .ref (A_p0 0)) (C := R_M) (T := T_M) (N := 30) hx hb hg in_M hown hK hP 0 rfl rfl 0 (by decide) (hg _ t_758) (fun _ h9 => h9) rfl d_M_walk_31 ?_
    refine lv_iconst (v := 0) hx hb d_M_walk_34 (by decide) ?_
    obtain ⟨hin, hw⟩ := hw
    refine va_iald hx hb hK hP 2 0 rfl rfl hin d_M_walk_35 ?_
    refine lv_bipush (v := 73) hx hb d_M_walk_36 (by decide) ?_
    refine lv_icmp_eq hx hb d_M_walk_38 rfl (fun hc => ?_) (fun hc => ?_)
    · have hw := hw.1 hc
      exact b52 _ _ _ (upd (upd (upd I_p0 11 0) 12 0) 14 4) f_p0_dirs hP hD hS (lv_sub hl [0] rfl) hw
    · have hw := hw.2 hc
      refine lv_aload_n hx hb d_M_walk_41 rfl (lv_at hl 0 rfl) ?_
      refine va_get (D := (dC, dI)) (ci := 10) (v := .ref (A_p0 0)) (C := R_M) (T := T_M) (N := 30) hx hb hg in_M hown hK hP 0 rfl rfl 0 (by decide) (hg _ t_758) (fun _ h9 => h9) rfl d_M_walk_42 ?_
      refine lv_iconst (v := 0) hx hb d_M_walk_45 (by decide) ?_
      obtain ⟨hin, hw⟩ := hw
      refine va_iald hx hb hK hP 2 0 rfl rfl hin d_M_walk_46 ?_
      refine lv_bipush (v := 77) hx hb d_M_walk_47 (by decide) ?_
      refine lv_icmp_ne hx hb d_M_walk_49 rfl (fun hc => ?_) (fun hc => ?_)
      · have hw := hw.2 hc
        exact b69 _ _ _ (upd (upd (upd I_p0 11 0) 12 0) 14 4) f_p0_dirs hP hD hS (lv_sub hl [0] rfl) hw
      · have hw := hw.1 hc
        exact b52 _ _ _ (upd (upd (upd I_p0 11 0) 12 0) 14 4) f_p0_dirs hP hD hS (lv_sub hl [0] rfl) hw
theorem d_M_entry_0 : decode b_M_entry 0 = .ok (.aload_n 0, 1) := by decide +kernel
theorem d_M_entry_1 : decode b_M_entry 1 = .ok (.invokevirtual 102, 3) := by decide +kernel
theorem d_M_entry_4 : decode b_M_entry 4 = .ok (.iload_n 1, 1) := by decide +kernel
theorem d_M_entry_5 : decode b_M_entry 5 = .ok (.ifCond .lt 11, 3) := by decide +kernel
theorem d_M_entry_8 : decode b_M_entry 8 = .ok (.iload_n 1, 1) := by decide +kernel
theorem d_M_entry_9 : decode b_M_entry 9 = .ok (.aload_n 0, 1) := by decide +kernel
theorem d_M_entry_10 : decode b_M_entry 10 = .ok (.getfield 86, 3) := by decide +kernel
theorem d_M_entry_13 : decode b_M_entry 13 = .ok (.if_icmp .lt 5, 3) := by decide +kernel
theorem d_M_entry_16 : decode b_M_entry 16 = .ok (.iconst (-1), 1) := by decide +kernel
theorem d_M_entry_17 : decode b_M_entry 17 = .ok (.ireturn, 1) := by decide +kernel
theorem d_M_entry_18 : decode b_M_entry 18 = .ok (.aload_n 0, 1) := by decide +kernel
theorem d_M_entry_19 : decode b_M_entry 19 = .ok (.aload_n 0, 1) := by decide +kernel
theorem d_M_entry_20 : decode b_M_entry 20 = .ok (.getfield 35, 3) := by decide +kernel
theorem d_M_entry_23 : decode b_M_entry 23 = .ok (.iload_n 1, 1) := by decide +kernel
theorem d_M_entry_24 : decode b_M_entry 24 = .ok (.iaload, 1) := by decide +kernel
theorem d_M_entry_25 : decode b_M_entry 25 = .ok (.iconst 2, 1) := by decide +kernel
theorem d_M_entry_26 : decode b_M_entry 26 = .ok (.invokevirtual 78, 3) := by decide +kernel
theorem d_M_entry_29 : decode b_M_entry 29 = .ok (.l2i, 1) := by decide +kernel
theorem d_M_entry_30 : decode b_M_entry 30 = .ok (.istore_n 3, 1) := by decide +kernel
theorem d_M_entry_31 : decode b_M_entry 31 = .ok (.iconst 0, 1) := by decide +kernel
theorem d_M_entry_32 : decode b_M_entry 32 = .ok (.istore 4, 2) := by decide +kernel
theorem d_M_entry_34 : decode b_M_entry 34 = .ok (.iload 4, 2) := by decide +kernel
theorem d_M_entry_36 : decode b_M_entry 36 = .ok (.iload_n 3, 1) := by decide +kernel
theorem d_M_entry_37 : decode b_M_entry 37 = .ok (.if_icmp .ge 41, 3) := by decide +kernel
theorem d_M_entry_40 : decode b_M_entry 40 = .ok (.aload_n 0, 1) := by decide +kernel
theorem d_M_entry_41 : decode b_M_entry 41 = .ok (.getfield 35, 3) := by decide +kernel
theorem d_M_entry_44 : decode b_M_entry 44 = .ok (.iload_n 1, 1) := by decide +kernel
theorem d_M_entry_45 : decode b_M_entry 45 = .ok (.iaload, 1) := by decide +kernel
theorem d_M_entry_46 : decode b_M_entry 46 = .ok (.iconst 2, 1) := by decide +kernel
theorem d_M_entry_47 : decode b_M_entry 47 = .ok (.iadd, 1) := by decide +kernel
theorem d_M_entry_48 : decode b_M_entry 48 = .ok (.bipush 12, 2) := by decide +kernel
theorem d_M_entry_50 : decode b_M_entry 50 = .ok (.iload 4, 2) := by decide +kernel
theorem d_M_entry_52 : decode b_M_entry 52 = .ok (.imul, 1) := by decide +kernel
theorem d_M_entry_53 : decode b_M_entry 53 = .ok (.iadd, 1) := by decide +kernel
theorem d_M_entry_54 : decode b_M_entry 54 = .ok (.istore 5, 2) := by decide +kernel
theorem d_M_entry_56 : decode b_M_entry 56 = .ok (.aload_n 0, 1) := by decide +kernel
theorem d_M_entry_57 : decode b_M_entry 57 = .ok (.iload 5, 2) := by decide +kernel
theorem d_M_entry_59 : decode b_M_entry 59 = .ok (.iconst 2, 1) := by decide +kernel
theorem d_M_entry_60 : decode b_M_entry 60 = .ok (.invokevirtual 78, 3) := by decide +kernel
theorem d_M_entry_63 : decode b_M_entry 63 = .ok (.iload_n 2, 1) := by decide +kernel
theorem d_M_entry_64 : decode b_M_entry 64 = .ok (.i2l, 1) := by decide +kernel
theorem d_M_entry_65 : decode b_M_entry 65 = .ok (.lcmp, 1) := by decide +kernel
theorem d_M_entry_66 : decode b_M_entry 66 = .ok (.ifCond .ne 6, 3) := by decide +kernel
theorem d_M_entry_69 : decode b_M_entry 69 = .ok (.iload 5, 2) := by decide +kernel
theorem d_M_entry_71 : decode b_M_entry 71 = .ok (.ireturn, 1) := by decide +kernel
theorem d_M_entry_72 : decode b_M_entry 72 = .ok (.iinc 4 1, 3) := by decide +kernel
theorem d_M_entry_75 : decode b_M_entry 75 = .ok (.goto (-41), 3) := by decide +kernel
theorem d_M_entry_78 : decode b_M_entry 78 = .ok (.iconst (-1), 1) := by decide +kernel
theorem d_M_entry_79 : decode b_M_entry 79 = .ok (.ireturn, 1) := by decide +kernel
def wp_M_entry_l34 (post : Int32 → (Nat → Int32) → (Nat → Int32) → Prop) (f_p0_file : Nat → Int32) : Nat → (Nat → Int32) → (Nat → Int32) → Int32 → Int32 → Int32 → Int32 → Prop
  | 0, _, _, _, _, _, _ => False
  | n + 1, I_p0, f_p0_dirs, x1, x2, x3, x4 =>
    ((x3 ≤ x4 →
      post (-1) I_p0 f_p0_dirs) ∧
     (¬ x3 ≤ x4 →
      vp_in x1 8 ∧
      wp_M_read (fun (r60 : Int64) =>
        ((r60 = x2.toInt64 →
          post (((f_p0_dirs (x1).toNatClampNeg) + 2) + (12 * x4)) I_p0 f_p0_dirs) ∧
         (¬ r60 = x2.toInt64 →
          wp_M_entry_l34 post f_p0_file n I_p0 f_p0_dirs x1 x2 x3 (x4 + 1)))) I_p0 f_p0_file (((f_p0_dirs (x1).toNatClampNeg) + 2) + (12 * x4)) 2))
def wp_M_entry (post : Int32 → (Nat → Int32) → (Nat → Int32) → Prop) (f_p0_file : Nat → Int32) (I_p0 : Nat → Int32) (f_p0_dirs : Nat → Int32) (x1 : Int32) (x2 : Int32) : Prop :=
  wp_M_walk (fun (I_p0_1 : Nat → Int32) (f_p0_dirs_1 : Nat → Int32) =>
    ((x1 < 0 →
      post (-1) I_p0_1 f_p0_dirs_1) ∧
     (¬ x1 < 0 →
      ((x1 < (I_p0_1 11) →
        vp_in x1 8 ∧
        wp_M_read (fun (r26 : Int64) =>
          (∃ n1 : Nat, wp_M_entry_l34 post f_p0_file n1 I_p0_1 f_p0_dirs_1 x1 x2 r26.toInt32 0)) I_p0_1 f_p0_file (f_p0_dirs_1 (x1).toNatClampNeg) 2) ∧
       (¬ x1 < (I_p0_1 11) →
        post (-1) I_p0_1 f_p0_dirs_1))))) f_p0_file I_p0 f_p0_dirs
set_option maxRecDepth 100000 in
set_option maxHeartbeats 4000000 in
theorem c_M_entry (l : Launch) (dC : Nat → ClassId) (dI : Nat → Nat → Nat) (cI : ClassId) (a_p0 : Nat) (A_p0 : Nat → Nat) (f_p0_file : Nat → Int32) (I_p0 : Nat → Int32) (f_p0_dirs : Nat → Int32) (x1 : Int32) (x2 : Int32) {post : Int32 → (Nat → Int32) → (Nat → Int32) → Prop} (hw : wp_M_entry post f_p0_file I_p0 f_p0_dirs x1 x2) : gm_i l y_M_entry ws_M_entry ({ frames := 3, cells := 0, slots := 0, locals := 74 } : Room) (dC, dI) vwCl [(cI, .int)] [.ref a_p0, .int x1, .int x2] [oM a_p0 A_p0 I_p0, gz cI (A_p0 13) 8 f_p0_dirs, gz cI (A_p0 0) 2000 f_p0_file] (fun (u : (Nat → Int32) × (Nat → Int32)) => [oM a_p0 A_p0 u.1, gz cI (A_p0 13) 8 u.2, gz cI (A_p0 0) 2000 f_p0_file]) (fun (r : Int32) (u : (Nat → Int32) × (Nat → Int32)) => post r u.1 u.2) := by
  refine gm_iof (cc := b_M_entry) (maxL := 6) (ty := .int) (by decide) rfl (Nat.le_of_ble_eq_true rfl) ?_
  intro p e s m args below meth c A Q hx hb hml hown hg hK hN hA hret
  have hown : s.vm.findClass R_M = some m.cls := hown
  have l34 : ∀ n : Nat, ∀ (H : Heap) (locs : List Loc) (ls : Array Slot) (I_p0 : Nat → Int32) (f_p0_dirs : Nat → Int32) (x1 : Int32) (x2 : Int32) (x3 : Int32) (x4 : Int32), va_P (dC, dI) vwCl [oM a_p0 A_p0 I_p0, gz cI (A_p0 13) 8 f_p0_dirs, gz cI (A_p0 0) 2000 f_p0_file] H → va_D A [oM a_p0 A_p0 I_p0, gz cI (A_p0 13) 8 f_p0_dirs, gz cI (A_p0 0) 2000 f_p0_file] → va_S A s.heap H locs → lv_has ls 6 [(0, .ref a_p0), (1, .int x1), (2, .int x2), (3, .int x3), (4, .int x4)] → wp_M_entry_l34 post f_p0_file n I_p0 f_p0_dirs x1 x2 x3 x4 → W p l e ({ frames := 3, cells := 0, slots := 0, locals := 74 } : Room) s m args below meth c H locs 0 0 Q (F0 m 34 ls []) := by
    intro n
    induction n with
    | zero => intro H locs ls I_p0 f_p0_dirs x1 x2 x3 x4 hP hD hS hl hw; exact hw.elim
    | succ n ih =>
      intro H locs ls I_p0 f_p0_dirs x1 x2 x3 x4 hP hD hS hl hw
      unfold wp_M_entry_l34 at hw
      refine lv_iload hx hb d_M_entry_34 (lv_at hl 4 rfl) ?_
      refine lv_iload_n hx hb d_M_entry_36 rfl (lv_at hl 3 rfl) ?_
      refine lv_icmp_ge hx hb d_M_entry_37 rfl (fun hc => ?_) (fun hc => ?_)
      · have hw := hw.1 hc
        refine lv_iconst (v := (-1)) hx hb d_M_entry_78 (by decide) ?_
        exact hret _ _ _ _ _ (I_p0, f_p0_dirs) d_M_entry_79 rfl hP hD hS hw
      · have hw := hw.2 hc
        refine lv_aload_n hx hb d_M_entry_40 rfl (lv_at hl 0 rfl) ?_
        refine va_get (D := (dC, dI)) (ci := 10) (v := .ref (A_p0 13)) (C := R_M) (T := T_M) (N := 30) hx hb hg in_M hown hK hP 0 rfl rfl 13 (by decide) (hg _ t_771) (fun _ h9 => h9) rfl d_M_entry_41 ?_
        refine lv_iload_n hx hb d_M_entry_44 rfl (lv_at hl 1 rfl) ?_
        obtain ⟨hin, hw⟩ := hw
        refine va_iald hx hb hK hP 1 0 rfl rfl hin d_M_entry_45 ?_
        refine lv_iconst (v := 2) hx hb d_M_entry_46 (by decide) ?_
        refine lv_iadd hx hb d_M_entry_47 ?_
        refine lv_bipush (v := 12) hx hb d_M_entry_48 (by decide) ?_
        refine lv_iload hx hb d_M_entry_50 (lv_at hl 4 rfl) ?_
        refine lv_imul hx hb d_M_entry_52 ?_
        refine lv_iadd hx hb d_M_entry_53 ?_
        refine lv_istore (lv' := [(5, .int (((f_p0_dirs (x1).toNatClampNeg) + 2) + (12 * x4))), (0, .ref a_p0), (1, .int x1), (2, .int x2), (3, .int x3), (4, .int x4)]) hx hb d_M_entry_54 hl (by decide) rfl (fun ls hl => ?_)
        refine lv_aload_n hx hb d_M_entry_56 rfl (lv_at hl 1 rfl) ?_
        refine lv_iload hx hb d_M_entry_57 (lv_at hl 0 rfl) ?_
        refine lv_iconst (v := 2) hx hb d_M_entry_59 (by decide) ?_
        refine gc_l (wn := fun (_ : Unit) => [oM a_p0 A_p0 I_p0, gz cI (A_p0 13) 8 f_p0_dirs, gz cI (A_p0 0) 2000 f_p0_file]) (wr := [gz cI (A_p0 13) 8 f_p0_dirs]) (gr_V (As := [.int (((f_p0_dirs (x1).toNatClampNeg) + 2) + (12 * x4)), .int 2]) (rest := []) ⟨hx, hb, hml, hown, hg⟩ (c_M_read l dC dI cI a_p0 A_p0 I_p0 f_p0_file (((f_p0_dirs (x1).toNatClampNeg) + 2) + (12 * x4)) 2 hw _) (cwV 2 hg (gg_V t_901 t_903 t_28 t_71 t_904) rfl rfl rfl (by decide +kernel) ⟨Nat.le_of_ble_eq_true rfl, Nat.le_of_ble_eq_true rfl⟩) hK hN hP hD [0, 2] (by decide) rfl 0 10 rfl rfl rfl rfl hl.1 rfl (Nat.le_of_ble_eq_true rfl) d_M_entry_60 ⟨Nat.le_of_ble_eq_true rfl, Nat.le_of_ble_eq_true rfl⟩) rfl rfl hP hD hS hA [0, 2] [1] [1, 0, 2] rfl rfl (by decide) (by decide) (by decide) (fun _ => rfl) ?_
        intro r60 _ H locs hw hP hD hS
        try dsimp only at hw
        have hP : va_P (dC, dI) vwCl [oM a_p0 A_p0 I_p0, gz cI (A_p0 13) 8 f_p0_dirs, gz cI (A_p0 0) 2000 f_p0_file] H := hP
        have hD : va_D A [oM a_p0 A_p0 I_p0, gz cI (A_p0 13) 8 f_p0_dirs, gz cI (A_p0 0) 2000 f_p0_file] := hD
        refine lv_iload_n hx hb d_M_entry_63 rfl (lv_at hl 3 rfl) ?_
        refine lv_i2l hx hb d_M_entry_64 rfl ?_
        refine W.lcmp hx hb d_M_entry_65 ?_
        refine lv_if_ne hx hb d_M_entry_66 rfl (fun hc => ?_) (fun hc => ?_)
        · have hw := hw.2 (fun h9 => hc ((lg_cmp_eq _ _).mpr h9))
          refine lv_iinc (k := 5) (v := (x4 + 1)) (lv' := [(4, .int (x4 + 1)), (5, .int (((f_p0_dirs (x1).toNatClampNeg) + 2) + (12 * x4))), (0, .ref a_p0), (1, .int x1), (2, .int x2), (3, .int x3)]) hx hb d_M_entry_72 hl rfl (congrArg (fun z => x4 + z) (by decide : Int32.ofInt 1 = 1)) (by decide) rfl (fun ls hl => ?_)
          refine lv_goto hx hb d_M_entry_75 rfl ?_
          exact ih _ _ _ I_p0 f_p0_dirs x1 x2 x3 (x4 + 1) hP hD hS (lv_sub hl [2, 3, 4, 5, 0] rfl) hw
        · have hw := hw.1 ((lg_cmp_eq _ _).mp hc)
          refine lv_iload hx hb d_M_entry_69 (lv_at hl 0 rfl) ?_
          exact hret _ _ _ _ _ (I_p0, f_p0_dirs) d_M_entry_71 rfl hP hD hS hw
  intro ls hl hP hD hS
  have hl : lv_has ls 6 [(0, .ref a_p0), (1, .int x1), (2, .int x2)] := hl
  unfold wp_M_entry at hw
  refine lv_aload_n hx hb d_M_entry_0 rfl (lv_at hl 0 rfl) ?_
  refine gc_v (wn := fun u => [oM a_p0 A_p0 u.1, gz cI (A_p0 13) 8 u.2, gz cI (A_p0 0) 2000 f_p0_file]) (wr := []) (gr_V (As := []) (rest := []) ⟨hx, hb, hml, hown, hg⟩ (c_M_walk l dC dI cI a_p0 A_p0 f_p0_file I_p0 f_p0_dirs hw _) (cwV 0 hg (gg_V t_897 t_899 t_27 t_71 t_900) rfl rfl rfl (by decide +kernel) ⟨Nat.le_of_ble_eq_true rfl, Nat.le_of_ble_eq_true rfl⟩) hK hN hP hD [0, 1, 2] (by decide) rfl 0 10 rfl rfl rfl rfl hl.1 rfl (Nat.le_of_ble_eq_true rfl) d_M_entry_1 ⟨Nat.le_of_ble_eq_true rfl, Nat.le_of_ble_eq_true rfl⟩) rfl rfl hP hD hS hA [0, 1, 2] [] [0, 1, 2] rfl rfl (by decide) (by decide) (by decide) (fun _ => rfl) ?_
  intro u9 H locs hw hP hD hS
  obtain ⟨I_p0_1, f_p0_dirs_1⟩ := u9
  try dsimp only at hw
  have hP : va_P (dC, dI) vwCl [oM a_p0 A_p0 I_p0_1, gz cI (A_p0 13) 8 f_p0_dirs_1, gz cI (A_p0 0) 2000 f_p0_file] H := hP
  have hD : va_D A [oM a_p0 A_p0 I_p0_1, gz cI (A_p0 13) 8 f_p0_dirs_1, gz cI (A_p0 0) 2000 f_p0_file] := hD
  refine lv_iload_n hx hb d_M_entry_4 rfl (lv_at hl 1 rfl) ?_
  refine lv_if_lt hx hb d_M_entry_5 rfl (fun hc => ?_) (fun hc => ?_)
  · have hw := hw.1 hc
    refine lv_iconst (v := (-1)) hx hb d_M_entry_16 (by decide) ?_
    exact hret _ _ _ _ _ (I_p0_1, f_p0_dirs_1) d_M_entry_17 rfl hP hD hS hw
  · have hw := hw.2 hc
    refine lv_iload_n hx hb d_M_entry_8 rfl (lv_at hl 1 rfl) ?_
    refine lv_aload_n hx hb d_M_entry_9 rfl (lv_at hl 0 rfl) ?_
    refine va_get (D := (dC, dI)) (ci := 10) (v := .int (I_p0_1 11)) (C := R_M) (T := T_M) (N := 30) hx hb hg in_M hown hK hP 0 rfl rfl 11 (by decide) (hg _ t_769) (fun _ h9 => h9) rfl d_M_entry_10 ?_
    refine lv_icmp_lt hx hb d_M_entry_13 rfl (fun hc => ?_) (fun hc => ?_)
    · have hw := hw.1 hc
      refine lv_aload_n hx hb d_M_entry_18 rfl (lv_at hl 0 rfl) ?_
      refine lv_aload_n hx hb d_M_entry_19 rfl (lv_at hl 0 rfl) ?_
      refine va_get (D := (dC, dI)) (ci := 10) (v := .ref (A_p0 13)) (C := R_M) (T := T_M) (N := 30) hx hb hg in_M hown hK hP 0 rfl rfl 13 (by decide) (hg _ t_771) (fun _ h9 => h9) rfl d_M_entry_20 ?_
      refine lv_iload_n hx hb d_M_entry_23 rfl (lv_at hl 1 rfl) ?_
      obtain ⟨hin, hw⟩ := hw
      refine va_iald hx hb hK hP 1 0 rfl rfl hin d_M_entry_24 ?_
      refine lv_iconst (v := 2) hx hb d_M_entry_25 (by decide) ?_
      refine gc_l (wn := fun (_ : Unit) => [oM a_p0 A_p0 I_p0_1, gz cI (A_p0 13) 8 f_p0_dirs_1, gz cI (A_p0 0) 2000 f_p0_file]) (wr := [gz cI (A_p0 13) 8 f_p0_dirs_1]) (gr_V (As := [.int (f_p0_dirs_1 (x1).toNatClampNeg), .int 2]) (rest := []) ⟨hx, hb, hml, hown, hg⟩ (c_M_read l dC dI cI a_p0 A_p0 I_p0_1 f_p0_file (f_p0_dirs_1 (x1).toNatClampNeg) 2 hw _) (cwV 2 hg (gg_V t_901 t_903 t_28 t_71 t_904) rfl rfl rfl (by decide +kernel) ⟨Nat.le_of_ble_eq_true rfl, Nat.le_of_ble_eq_true rfl⟩) hK hN hP hD [0, 2] (by decide) rfl 0 10 rfl rfl rfl rfl hl.1 rfl (Nat.le_of_ble_eq_true rfl) d_M_entry_26 ⟨Nat.le_of_ble_eq_true rfl, Nat.le_of_ble_eq_true rfl⟩) rfl rfl hP hD hS hA [0, 2] [1] [1, 0, 2] rfl rfl (by decide) (by decide) (by decide) (fun _ => rfl) ?_
      intro r26 _ H locs hw hP hD hS
      try dsimp only at hw
      have hP : va_P (dC, dI) vwCl [oM a_p0 A_p0 I_p0_1, gz cI (A_p0 13) 8 f_p0_dirs_1, gz cI (A_p0 0) 2000 f_p0_file] H := hP
      have hD : va_D A [oM a_p0 A_p0 I_p0_1, gz cI (A_p0 13) 8 f_p0_dirs_1, gz cI (A_p0 0) 2000 f_p0_file] := hD
      refine lv_l2i hx hb d_M_entry_29 rfl ?_
      refine lv_istore_n (lv' := [(3, .int r26.toInt32), (0, .ref a_p0), (1, .int x1), (2, .int x2)]) hx hb d_M_entry_30 rfl hl (by decide) rfl (fun ls hl => ?_)
      refine lv_iconst (v := 0) hx hb d_M_entry_31 (by decide) ?_
      refine lv_istore (lv' := [(4, .int 0), (3, .int r26.toInt32), (0, .ref a_p0), (1, .int x1), (2, .int x2)]) hx hb d_M_entry_32 hl (by decide) rfl (fun ls hl => ?_)
      obtain ⟨n1, hw⟩ := hw
      exact l34 n1 _ _ _ I_p0_1 f_p0_dirs_1 x1 x2 r26.toInt32 0 hP hD hS (lv_sub hl [2, 3, 4, 1, 0] rfl) hw
    · have hw := hw.2 hc
      refine lv_iconst (v := (-1)) hx hb d_M_entry_16 (by decide) ?_
      exact hret _ _ _ _ _ (I_p0_1, f_p0_dirs_1) d_M_entry_17 rfl hP hD hS hw
theorem d_M_even_0 : decode b_M_even 0 = .ok (.aload_n 0, 1) := by decide +kernel
theorem d_M_even_1 : decode b_M_even 1 = .ok (.getfield 121, 3) := by decide +kernel
theorem d_M_even_4 : decode b_M_even 4 = .ok (.iconst 2, 1) := by decide +kernel
theorem d_M_even_5 : decode b_M_even 5 = .ok (.irem, 1) := by decide +kernel
theorem d_M_even_6 : decode b_M_even 6 = .ok (.iconst 1, 1) := by decide +kernel
theorem d_M_even_7 : decode b_M_even 7 = .ok (.if_icmp .ne 8, 3) := by decide +kernel
theorem d_M_even_10 : decode b_M_even 10 = .ok (.aload_n 0, 1) := by decide +kernel
theorem d_M_even_11 : decode b_M_even 11 = .ok (.iconst 0, 1) := by decide +kernel
theorem d_M_even_12 : decode b_M_even 12 = .ok (.invokevirtual 128, 3) := by decide +kernel
theorem d_M_even_15 : decode b_M_even 15 = .ok (.return_, 1) := by decide +kernel
def wp_M_even (post : (Nat → Int32) → (Nat → Int32) → Prop) (I_p0 : Nat → Int32) (f_p0_file : Nat → Int32) : Prop :=
  ((((I_p0 2) - (I_p0 2) / 2 * 2) = 1 →
    wp_M_put (fun (I_p0_12 : Nat → Int32) (f_p0_file_12 : Nat → Int32) =>
      post I_p0_12 f_p0_file_12) I_p0 f_p0_file 0) ∧
   (¬ ((I_p0 2) - (I_p0 2) / 2 * 2) = 1 →
    post I_p0 f_p0_file))
set_option maxRecDepth 100000 in
set_option maxHeartbeats 4000000 in
theorem c_M_even (l : Launch) (dC : Nat → ClassId) (dI : Nat → Nat → Nat) (cI : ClassId) (a_p0 : Nat) (A_p0 : Nat → Nat) (I_p0 : Nat → Int32) (f_p0_file : Nat → Int32) {post : (Nat → Int32) → (Nat → Int32) → Prop} (hw : wp_M_even post I_p0 f_p0_file) : gm_v l y_M_even ws_M_even ({ frames := 1, cells := 0, slots := 0, locals := 21 } : Room) (dC, dI) vwCl [(cI, .int)] [.ref a_p0] [oM a_p0 A_p0 I_p0, gz cI (A_p0 0) 2000 f_p0_file] (fun (u : (Nat → Int32) × (Nat → Int32)) => [oM a_p0 A_p0 u.1, gz cI (A_p0 0) 2000 u.2]) (fun (u : (Nat → Int32) × (Nat → Int32)) => post  u.1 u.2) := by
  refine gm_vof (cc := b_M_even) (maxL := 1) (by decide) rfl (Nat.le_of_ble_eq_true rfl) ?_
  intro p e s m args below meth c A Q hx hb hml hown hg hK hN hA hnm hret
  have hown : s.vm.findClass R_M = some m.cls := hown
  intro ls hl hP hD hS
  have hl : lv_has ls 1 [(0, .ref a_p0)] := hl
  unfold wp_M_even at hw
  refine lv_aload_n hx hb d_M_even_0 rfl (lv_at hl 0 rfl) ?_
  refine va_get (D := (dC, dI)) (ci := 10) (v := .int (I_p0 2)) (C := R_M) (T := T_M) (N := 30) hx hb hg in_M hown hK hP 0 rfl rfl 2 (by decide) (hg _ t_760) (fun _ h9 => h9) rfl d_M_even_1 ?_
  refine lv_iconst (v := 2) hx hb d_M_even_4 (by decide) ?_
  refine lv_irem hx hb d_M_even_5 (by decide) ?_
  refine lv_iconst (v := 1) hx hb d_M_even_6 (by decide) ?_
  refine lv_icmp_ne hx hb d_M_even_7 rfl (fun hc => ?_) (fun hc => ?_)
  · have hw := hw.2 hc
    exact hret _ _ _ _ (I_p0, f_p0_file) d_M_even_15 hP hD hS hw
  · have hw := hw.1 hc
    refine lv_aload_n hx hb d_M_even_10 rfl (lv_at hl 0 rfl) ?_
    refine lv_iconst (v := 0) hx hb d_M_even_11 (by decide) ?_
    refine gc_v (wn := fun u => [oM a_p0 A_p0 u.1, gz cI (A_p0 0) 2000 u.2]) (wr := []) (gr_V (As := [.int 0]) (rest := []) ⟨hx, hb, hml, hown, hg⟩ (c_M_put l dC dI cI a_p0 A_p0 I_p0 f_p0_file 0 hw _) (cwV 1 hg (gg_V t_954 t_956 t_35 t_71 t_957) rfl rfl rfl (by decide +kernel) ⟨Nat.le_of_ble_eq_true rfl, Nat.le_of_ble_eq_true rfl⟩) hK hN hP hD [0, 1] (by decide) rfl 0 10 rfl rfl rfl rfl hl.1 rfl (Nat.le_of_ble_eq_true rfl) d_M_even_12 ⟨Nat.le_of_ble_eq_true rfl, Nat.le_of_ble_eq_true rfl⟩) rfl rfl hP hD hS hA [0, 1] [] [0, 1] rfl rfl (by decide) (by decide) (by decide) (fun _ => rfl) ?_
    intro u9 H locs hw hP hD hS
    obtain ⟨I_p0_12, f_p0_file_12⟩ := u9
    try dsimp only at hw
    have hP : va_P (dC, dI) vwCl [oM a_p0 A_p0 I_p0_12, gz cI (A_p0 0) 2000 f_p0_file_12] H := hP
    have hD : va_D A [oM a_p0 A_p0 I_p0_12, gz cI (A_p0 0) 2000 f_p0_file_12] := hD
    exact hret _ _ _ _ (I_p0_12, f_p0_file_12) d_M_even_15 hP hD hS hw
theorem d_M_unit_0 : decode b_M_unit 0 = .ok (.aload_n 0, 1) := by decide +kernel
theorem d_M_unit_1 : decode b_M_unit 1 = .ok (.iload_n 1, 1) := by decide +kernel
theorem d_M_unit_2 : decode b_M_unit 2 = .ok (.iconst 2, 1) := by decide +kernel
theorem d_M_unit_3 : decode b_M_unit 3 = .ok (.iadd, 1) := by decide +kernel
theorem d_M_unit_4 : decode b_M_unit 4 = .ok (.iconst 2, 1) := by decide +kernel
theorem d_M_unit_5 : decode b_M_unit 5 = .ok (.invokevirtual 78, 3) := by decide +kernel
theorem d_M_unit_8 : decode b_M_unit 8 = .ok (.l2i, 1) := by decide +kernel
theorem d_M_unit_9 : decode b_M_unit 9 = .ok (.istore_n 2, 1) := by decide +kernel
theorem d_M_unit_10 : decode b_M_unit 10 = .ok (.iload_n 2, 1) := by decide +kernel
theorem d_M_unit_11 : decode b_M_unit 11 = .ok (.iconst 1, 1) := by decide +kernel
theorem d_M_unit_12 : decode b_M_unit 12 = .ok (.if_icmp .eq 8, 3) := by decide +kernel
theorem d_M_unit_15 : decode b_M_unit 15 = .ok (.iload_n 2, 1) := by decide +kernel
theorem d_M_unit_16 : decode b_M_unit 16 = .ok (.iconst 2, 1) := by decide +kernel
theorem d_M_unit_17 : decode b_M_unit 17 = .ok (.if_icmp .ne 7, 3) := by decide +kernel
theorem d_M_unit_20 : decode b_M_unit 20 = .ok (.iconst 1, 1) := by decide +kernel
theorem d_M_unit_21 : decode b_M_unit 21 = .ok (.goto 22, 3) := by decide +kernel
theorem d_M_unit_24 : decode b_M_unit 24 = .ok (.iload_n 2, 1) := by decide +kernel
theorem d_M_unit_25 : decode b_M_unit 25 = .ok (.iconst 3, 1) := by decide +kernel
theorem d_M_unit_26 : decode b_M_unit 26 = .ok (.if_icmp .ne 7, 3) := by decide +kernel
theorem d_M_unit_29 : decode b_M_unit 29 = .ok (.iconst 2, 1) := by decide +kernel
theorem d_M_unit_30 : decode b_M_unit 30 = .ok (.goto 13, 3) := by decide +kernel
theorem d_M_unit_33 : decode b_M_unit 33 = .ok (.iload_n 2, 1) := by decide +kernel
theorem d_M_unit_34 : decode b_M_unit 34 = .ok (.iconst 4, 1) := by decide +kernel
theorem d_M_unit_35 : decode b_M_unit 35 = .ok (.if_icmp .ne 7, 3) := by decide +kernel
theorem d_M_unit_38 : decode b_M_unit 38 = .ok (.iconst 4, 1) := by decide +kernel
theorem d_M_unit_39 : decode b_M_unit 39 = .ok (.goto 4, 3) := by decide +kernel
theorem d_M_unit_42 : decode b_M_unit 42 = .ok (.iconst 0, 1) := by decide +kernel
theorem d_M_unit_43 : decode b_M_unit 43 = .ok (.ireturn, 1) := by decide +kernel
def wp_M_unit_b20 (post : Int32 → Prop) (I_p0 : Nat → Int32) (f_p0_file : Nat → Int32) : Prop :=
  post 1
def wp_M_unit (post : Int32 → Prop) (I_p0 : Nat → Int32) (f_p0_file : Nat → Int32) (x1 : Int32) : Prop :=
  wp_M_read (fun (r5 : Int64) =>
    ((r5.toInt32 = 1 →
      wp_M_unit_b20 post I_p0 f_p0_file) ∧
     (¬ r5.toInt32 = 1 →
      ((r5.toInt32 = 2 →
        wp_M_unit_b20 post I_p0 f_p0_file) ∧
       (¬ r5.toInt32 = 2 →
        ((r5.toInt32 = 3 →
          post 2) ∧
         (¬ r5.toInt32 = 3 →
          ((r5.toInt32 = 4 →
            post 4) ∧
           (¬ r5.toInt32 = 4 →
            post 0))))))))) I_p0 f_p0_file (x1 + 2) 2
set_option maxRecDepth 100000 in
set_option maxHeartbeats 4000000 in
theorem c_M_unit (l : Launch) (dC : Nat → ClassId) (dI : Nat → Nat → Nat) (cI : ClassId) (a_p0 : Nat) (A_p0 : Nat → Nat) (I_p0 : Nat → Int32) (f_p0_file : Nat → Int32) (x1 : Int32) {post : Int32 → Prop} (hw : wp_M_unit post I_p0 f_p0_file x1) : gm_i l y_M_unit ws_M_unit ({ frames := 1, cells := 0, slots := 0, locals := 25 } : Room) (dC, dI) vwCl [(cI, .int)] [.ref a_p0, .int x1] [oM a_p0 A_p0 I_p0, gz cI (A_p0 0) 2000 f_p0_file] (fun (_ : Unit) => [oM a_p0 A_p0 I_p0, gz cI (A_p0 0) 2000 f_p0_file]) (fun (r : Int32) (_ : Unit) => post r) := by
  refine gm_iof (cc := b_M_unit) (maxL := 3) (ty := .int) (by decide) rfl (Nat.le_of_ble_eq_true rfl) ?_
  intro p e s m args below meth c A Q hx hb hml hown hg hK hN hA hret
  have hown : s.vm.findClass R_M = some m.cls := hown
  have b20 : ∀ (H : Heap) (locs : List Loc) (ls : Array Slot), va_P (dC, dI) vwCl [oM a_p0 A_p0 I_p0, gz cI (A_p0 0) 2000 f_p0_file] H → va_D A [oM a_p0 A_p0 I_p0, gz cI (A_p0 0) 2000 f_p0_file] → va_S A s.heap H locs → lv_has ls 3 [] → wp_M_unit_b20 post I_p0 f_p0_file → W p l e ({ frames := 1, cells := 0, slots := 0, locals := 25 } : Room) s m args below meth c H locs 0 0 Q (F0 m 20 ls []) := by
    intro H locs ls hP hD hS hl hw
    unfold wp_M_unit_b20 at hw
    refine lv_iconst (v := 1) hx hb d_M_unit_20 (by decide) ?_
    refine lv_goto hx hb d_M_unit_21 rfl ?_
    exact hret _ _ _ _ _ () d_M_unit_43 rfl hP hD hS hw
  intro ls hl hP hD hS
  have hl : lv_has ls 3 [(0, .ref a_p0), (1, .int x1)] := hl
  unfold wp_M_unit at hw
  refine lv_aload_n hx hb d_M_unit_0 rfl (lv_at hl 0 rfl) ?_
  refine lv_iload_n hx hb d_M_unit_1 rfl (lv_at hl 1 rfl) ?_
  refine lv_iconst (v := 2) hx hb d_M_unit_2 (by decide) ?_
  refine lv_iadd hx hb d_M_unit_3 ?_
  refine lv_iconst (v := 2) hx hb d_M_unit_4 (by decide) ?_
  refine gc_l (wn := fun (_ : Unit) => [oM a_p0 A_p0 I_p0, gz cI (A_p0 0) 2000 f_p0_file]) (wr := []) (gr_V (As := [.int (x1 + 2), .int 2]) (rest := []) ⟨hx, hb, hml, hown, hg⟩ (c_M_read l dC dI cI a_p0 A_p0 I_p0 f_p0_file (x1 + 2) 2 hw _) (cwV 2 hg (gg_V t_901 t_903 t_28 t_71 t_904) rfl rfl rfl (by decide +kernel) ⟨Nat.le_of_ble_eq_true rfl, Nat.le_of_ble_eq_true rfl⟩) hK hN hP hD [0, 1] (by decide) rfl 0 10 rfl rfl rfl rfl hl.1 rfl (Nat.le_of_ble_eq_true rfl) d_M_unit_5 ⟨Nat.le_of_ble_eq_true rfl, Nat.le_of_ble_eq_true rfl⟩) rfl rfl hP hD hS hA [0, 1] [] [0, 1] rfl rfl (by decide) (by decide) (by decide) (fun _ => rfl) ?_
  intro r5 _ H locs hw hP hD hS
  try dsimp only at hw
  have hP : va_P (dC, dI) vwCl [oM a_p0 A_p0 I_p0, gz cI (A_p0 0) 2000 f_p0_file] H := hP
  have hD : va_D A [oM a_p0 A_p0 I_p0, gz cI (A_p0 0) 2000 f_p0_file] := hD
  refine lv_l2i hx hb d_M_unit_8 rfl ?_
  refine lv_istore_n (lv' := [(2, .int r5.toInt32), (0, .ref a_p0), (1, .int x1)]) hx hb d_M_unit_9 rfl hl (by decide) rfl (fun ls hl => ?_)
  refine lv_iload_n hx hb d_M_unit_10 rfl (lv_at hl 0 rfl) ?_
  refine lv_iconst (v := 1) hx hb d_M_unit_11 (by decide) ?_
  refine lv_icmp_eq hx hb d_M_unit_12 rfl (fun hc => ?_) (fun hc => ?_)
  · have hw := hw.1 hc
    exact b20 _ _ _ hP hD hS (lv_sub hl [] rfl) hw
  · have hw := hw.2 hc
    refine lv_iload_n hx hb d_M_unit_15 rfl (lv_at hl 0 rfl) ?_
    refine lv_iconst (v := 2) hx hb d_M_unit_16 (by decide) ?_
    refine lv_icmp_ne hx hb d_M_unit_17 rfl (fun hc => ?_) (fun hc => ?_)
    · have hw := hw.2 hc
      refine lv_iload_n hx hb d_M_unit_24 rfl (lv_at hl 0 rfl) ?_
      refine lv_iconst (v := 3) hx hb d_M_unit_25 (by decide) ?_
      refine lv_icmp_ne hx hb d_M_unit_26 rfl (fun hc => ?_) (fun hc => ?_)
      · have hw := hw.2 hc
        refine lv_iload_n hx hb d_M_unit_33 rfl (lv_at hl 0 rfl) ?_
        refine lv_iconst (v := 4) hx hb d_M_unit_34 (by decide) ?_
        refine lv_icmp_ne hx hb d_M_unit_35 rfl (fun hc => ?_) (fun hc => ?_)
        · have hw := hw.2 hc
          refine lv_iconst (v := 0) hx hb d_M_unit_42 (by decide) ?_
          exact hret _ _ _ _ _ () d_M_unit_43 rfl hP hD hS hw
        · have hw := hw.1 hc
          refine lv_iconst (v := 4) hx hb d_M_unit_38 (by decide) ?_
          refine lv_goto hx hb d_M_unit_39 rfl ?_
          exact hret _ _ _ _ _ () d_M_unit_43 rfl hP hD hS hw
      · have hw := hw.1 hc
        refine lv_iconst (v := 2) hx hb d_M_unit_29 (by decide) ?_
        refine lv_goto hx hb d_M_unit_30 rfl ?_
        exact hret _ _ _ _ _ () d_M_unit_43 rfl hP hD hS hw
    · have hw := hw.1 hc
      exact b20 _ _ _ hP hD hS (lv_sub hl [] rfl) hw
