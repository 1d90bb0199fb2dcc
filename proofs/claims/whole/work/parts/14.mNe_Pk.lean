theorem d_Ne_encode_0 : decode b_Ne_encode 0 = .ok (.iconst 2, 1) := by decide +kernel
theorem d_Ne_encode_1 : decode b_Ne_encode 1 = .ok (.iload_n 3, 1) := by decide +kernel
theorem d_Ne_encode_2 : decode b_Ne_encode 2 = .ok (.imul, 1) := by decide +kernel
theorem d_Ne_encode_3 : decode b_Ne_encode 3 = .ok (.istore 5, 2) := by decide +kernel
theorem d_Ne_encode_5 : decode b_Ne_encode 5 = .ok (.iconst 2, 1) := by decide +kernel
theorem d_Ne_encode_6 : decode b_Ne_encode 6 = .ok (.iload_n 2, 1) := by decide +kernel
theorem d_Ne_encode_7 : decode b_Ne_encode 7 = .ok (.imul, 1) := by decide +kernel
theorem d_Ne_encode_8 : decode b_Ne_encode 8 = .ok (.istore 6, 2) := by decide +kernel
theorem d_Ne_encode_10 : decode b_Ne_encode 10 = .ok (.aload_n 0, 1) := by decide +kernel
theorem d_Ne_encode_11 : decode b_Ne_encode 11 = .ok (.iconst 0, 1) := by decide +kernel
theorem d_Ne_encode_12 : decode b_Ne_encode 12 = .ok (.putfield 21, 3) := by decide +kernel
theorem d_Ne_encode_15 : decode b_Ne_encode 15 = .ok (.aload_n 0, 1) := by decide +kernel
theorem d_Ne_encode_16 : decode b_Ne_encode 16 = .ok (.iconst 0, 1) := by decide +kernel
theorem d_Ne_encode_17 : decode b_Ne_encode 17 = .ok (.putfield 25, 3) := by decide +kernel
theorem d_Ne_encode_20 : decode b_Ne_encode 20 = .ok (.aload_n 0, 1) := by decide +kernel
theorem d_Ne_encode_21 : decode b_Ne_encode 21 = .ok (.iconst 0, 1) := by decide +kernel
theorem d_Ne_encode_22 : decode b_Ne_encode 22 = .ok (.putfield 28, 3) := by decide +kernel
theorem d_Ne_encode_25 : decode b_Ne_encode 25 = .ok (.aload_n 0, 1) := by decide +kernel
theorem d_Ne_encode_26 : decode b_Ne_encode 26 = .ok (.aload 4, 2) := by decide +kernel
theorem d_Ne_encode_28 : decode b_Ne_encode 28 = .ok (.invokevirtual 31, 3) := by decide +kernel
theorem d_Ne_encode_31 : decode b_Ne_encode 31 = .ok (.iload 6, 2) := by decide +kernel
theorem d_Ne_encode_33 : decode b_Ne_encode 33 = .ok (.iload 5, 2) := by decide +kernel
theorem d_Ne_encode_35 : decode b_Ne_encode 35 = .ok (.if_icmp .ge 151, 3) := by decide +kernel
theorem d_Ne_encode_38 : decode b_Ne_encode 38 = .ok (.aload_n 1, 1) := by decide +kernel
theorem d_Ne_encode_39 : decode b_Ne_encode 39 = .ok (.iload 6, 2) := by decide +kernel
theorem d_Ne_encode_41 : decode b_Ne_encode 41 = .ok (.invokevirtual 35, 3) := by decide +kernel
theorem d_Ne_encode_44 : decode b_Ne_encode 44 = .ok (.istore 7, 2) := by decide +kernel
theorem d_Ne_encode_46 : decode b_Ne_encode 46 = .ok (.iinc 6 1, 3) := by decide +kernel
theorem d_Ne_encode_49 : decode b_Ne_encode 49 = .ok (.iload 6, 2) := by decide +kernel
theorem d_Ne_encode_51 : decode b_Ne_encode 51 = .ok (.iload 5, 2) := by decide +kernel
theorem d_Ne_encode_53 : decode b_Ne_encode 53 = .ok (.if_icmp .ge 18, 3) := by decide +kernel
theorem d_Ne_encode_56 : decode b_Ne_encode 56 = .ok (.aload_n 0, 1) := by decide +kernel
theorem d_Ne_encode_57 : decode b_Ne_encode 57 = .ok (.iload 7, 2) := by decide +kernel
theorem d_Ne_encode_59 : decode b_Ne_encode 59 = .ok (.aload_n 1, 1) := by decide +kernel
theorem d_Ne_encode_60 : decode b_Ne_encode 60 = .ok (.iload 6, 2) := by decide +kernel
theorem d_Ne_encode_62 : decode b_Ne_encode 62 = .ok (.invokevirtual 35, 3) := by decide +kernel
theorem d_Ne_encode_65 : decode b_Ne_encode 65 = .ok (.invokevirtual 41, 3) := by decide +kernel
theorem d_Ne_encode_68 : decode b_Ne_encode 68 = .ok (.goto 4, 3) := by decide +kernel
theorem d_Ne_encode_71 : decode b_Ne_encode 71 = .ok (.iconst 0, 1) := by decide +kernel
theorem d_Ne_encode_72 : decode b_Ne_encode 72 = .ok (.istore 8, 2) := by decide +kernel
theorem d_Ne_encode_74 : decode b_Ne_encode 74 = .ok (.iload 8, 2) := by decide +kernel
theorem d_Ne_encode_76 : decode b_Ne_encode 76 = .ok (.ifCond .eq 45, 3) := by decide +kernel
theorem d_Ne_encode_79 : decode b_Ne_encode 79 = .ok (.iload 6, 2) := by decide +kernel
theorem d_Ne_encode_81 : decode b_Ne_encode 81 = .ok (.iload 5, 2) := by decide +kernel
theorem d_Ne_encode_83 : decode b_Ne_encode 83 = .ok (.if_icmp .ge 38, 3) := by decide +kernel
theorem d_Ne_encode_86 : decode b_Ne_encode 86 = .ok (.iload 8, 2) := by decide +kernel
theorem d_Ne_encode_88 : decode b_Ne_encode 88 = .ok (.istore 7, 2) := by decide +kernel
theorem d_Ne_encode_90 : decode b_Ne_encode 90 = .ok (.iinc 6 1, 3) := by decide +kernel
theorem d_Ne_encode_93 : decode b_Ne_encode 93 = .ok (.iload 6, 2) := by decide +kernel
theorem d_Ne_encode_95 : decode b_Ne_encode 95 = .ok (.iload 5, 2) := by decide +kernel
theorem d_Ne_encode_97 : decode b_Ne_encode 97 = .ok (.if_icmp .ge 18, 3) := by decide +kernel
theorem d_Ne_encode_100 : decode b_Ne_encode 100 = .ok (.aload_n 0, 1) := by decide +kernel
theorem d_Ne_encode_101 : decode b_Ne_encode 101 = .ok (.iload 7, 2) := by decide +kernel
theorem d_Ne_encode_103 : decode b_Ne_encode 103 = .ok (.aload_n 1, 1) := by decide +kernel
theorem d_Ne_encode_104 : decode b_Ne_encode 104 = .ok (.iload 6, 2) := by decide +kernel
theorem d_Ne_encode_106 : decode b_Ne_encode 106 = .ok (.invokevirtual 35, 3) := by decide +kernel
theorem d_Ne_encode_109 : decode b_Ne_encode 109 = .ok (.invokevirtual 41, 3) := by decide +kernel
theorem d_Ne_encode_112 : decode b_Ne_encode 112 = .ok (.goto 4, 3) := by decide +kernel
theorem d_Ne_encode_115 : decode b_Ne_encode 115 = .ok (.iconst 0, 1) := by decide +kernel
theorem d_Ne_encode_116 : decode b_Ne_encode 116 = .ok (.istore 8, 2) := by decide +kernel
theorem d_Ne_encode_118 : decode b_Ne_encode 118 = .ok (.goto (-44), 3) := by decide +kernel
theorem d_Ne_encode_121 : decode b_Ne_encode 121 = .ok (.aload_n 0, 1) := by decide +kernel
theorem d_Ne_encode_122 : decode b_Ne_encode 122 = .ok (.iload 7, 2) := by decide +kernel
theorem d_Ne_encode_124 : decode b_Ne_encode 124 = .ok (.aload 4, 2) := by decide +kernel
theorem d_Ne_encode_126 : decode b_Ne_encode 126 = .ok (.invokevirtual 45, 3) := by decide +kernel
theorem d_Ne_encode_129 : decode b_Ne_encode 129 = .ok (.aload_n 0, 1) := by decide +kernel
theorem d_Ne_encode_130 : decode b_Ne_encode 130 = .ok (.dup, 1) := by decide +kernel
theorem d_Ne_encode_131 : decode b_Ne_encode 131 = .ok (.getfield 28, 3) := by decide +kernel
theorem d_Ne_encode_134 : decode b_Ne_encode 134 = .ok (.iconst 1, 1) := by decide +kernel
theorem d_Ne_encode_135 : decode b_Ne_encode 135 = .ok (.iadd, 1) := by decide +kernel
theorem d_Ne_encode_136 : decode b_Ne_encode 136 = .ok (.putfield 28, 3) := by decide +kernel
theorem d_Ne_encode_139 : decode b_Ne_encode 139 = .ok (.iload 6, 2) := by decide +kernel
theorem d_Ne_encode_141 : decode b_Ne_encode 141 = .ok (.iload 5, 2) := by decide +kernel
theorem d_Ne_encode_143 : decode b_Ne_encode 143 = .ok (.if_icmp .ge 21, 3) := by decide +kernel
theorem d_Ne_encode_146 : decode b_Ne_encode 146 = .ok (.aload_n 0, 1) := by decide +kernel
theorem d_Ne_encode_147 : decode b_Ne_encode 147 = .ok (.getfield 28, 3) := by decide +kernel
theorem d_Ne_encode_150 : decode b_Ne_encode 150 = .ok (.bipush 109, 2) := by decide +kernel
theorem d_Ne_encode_152 : decode b_Ne_encode 152 = .ok (.if_icmp .ne 12, 3) := by decide +kernel
theorem d_Ne_encode_155 : decode b_Ne_encode 155 = .ok (.aload_n 0, 1) := by decide +kernel
theorem d_Ne_encode_156 : decode b_Ne_encode 156 = .ok (.aload 4, 2) := by decide +kernel
theorem d_Ne_encode_158 : decode b_Ne_encode 158 = .ok (.invokevirtual 31, 3) := by decide +kernel
theorem d_Ne_encode_161 : decode b_Ne_encode 161 = .ok (.goto 22, 3) := by decide +kernel
theorem d_Ne_encode_164 : decode b_Ne_encode 164 = .ok (.iload 6, 2) := by decide +kernel
theorem d_Ne_encode_166 : decode b_Ne_encode 166 = .ok (.iload 5, 2) := by decide +kernel
theorem d_Ne_encode_168 : decode b_Ne_encode 168 = .ok (.if_icmp .ge 15, 3) := by decide +kernel
theorem d_Ne_encode_171 : decode b_Ne_encode 171 = .ok (.aload_n 0, 1) := by decide +kernel
theorem d_Ne_encode_172 : decode b_Ne_encode 172 = .ok (.iload 7, 2) := by decide +kernel
theorem d_Ne_encode_174 : decode b_Ne_encode 174 = .ok (.aload_n 1, 1) := by decide +kernel
theorem d_Ne_encode_175 : decode b_Ne_encode 175 = .ok (.iload 6, 2) := by decide +kernel
theorem d_Ne_encode_177 : decode b_Ne_encode 177 = .ok (.invokevirtual 35, 3) := by decide +kernel
theorem d_Ne_encode_180 : decode b_Ne_encode 180 = .ok (.invokevirtual 49, 3) := by decide +kernel
theorem d_Ne_encode_183 : decode b_Ne_encode 183 = .ok (.goto (-152), 3) := by decide +kernel
theorem d_Ne_encode_186 : decode b_Ne_encode 186 = .ok (.aload_n 0, 1) := by decide +kernel
theorem d_Ne_encode_187 : decode b_Ne_encode 187 = .ok (.bipush 17, 2) := by decide +kernel
theorem d_Ne_encode_189 : decode b_Ne_encode 189 = .ok (.aload 4, 2) := by decide +kernel
theorem d_Ne_encode_191 : decode b_Ne_encode 191 = .ok (.invokevirtual 45, 3) := by decide +kernel
theorem d_Ne_encode_194 : decode b_Ne_encode 194 = .ok (.aload_n 0, 1) := by decide +kernel
theorem d_Ne_encode_195 : decode b_Ne_encode 195 = .ok (.getfield 25, 3) := by decide +kernel
theorem d_Ne_encode_198 : decode b_Ne_encode 198 = .ok (.ifCond .le 24, 3) := by decide +kernel
theorem d_Ne_encode_201 : decode b_Ne_encode 201 = .ok (.aload 4, 2) := by decide +kernel
theorem d_Ne_encode_203 : decode b_Ne_encode 203 = .ok (.aload_n 0, 1) := by decide +kernel
theorem d_Ne_encode_204 : decode b_Ne_encode 204 = .ok (.getfield 21, 3) := by decide +kernel
theorem d_Ne_encode_207 : decode b_Ne_encode 207 = .ok (.bipush 8, 2) := by decide +kernel
theorem d_Ne_encode_209 : decode b_Ne_encode 209 = .ok (.aload_n 0, 1) := by decide +kernel
theorem d_Ne_encode_210 : decode b_Ne_encode 210 = .ok (.getfield 25, 3) := by decide +kernel
theorem d_Ne_encode_213 : decode b_Ne_encode 213 = .ok (.isub, 1) := by decide +kernel
theorem d_Ne_encode_214 : decode b_Ne_encode 214 = .ok (.ishl, 1) := by decide +kernel
theorem d_Ne_encode_215 : decode b_Ne_encode 215 = .ok (.sipush 255, 3) := by decide +kernel
theorem d_Ne_encode_218 : decode b_Ne_encode 218 = .ok (.iand, 1) := by decide +kernel
theorem d_Ne_encode_219 : decode b_Ne_encode 219 = .ok (.invokevirtual 53, 3) := by decide +kernel
theorem d_Ne_encode_222 : decode b_Ne_encode 222 = .ok (.return_, 1) := by decide +kernel
def wp_Ne_encode_b183 (post : (Nat → Int32) → (Nat → Int32) → (Nat → Int32) → (Nat → Int32) → (Nat → Int32) → (Nat → Int32) → Prop) (k31 : (Nat → Int32) → (Nat → Int32) → (Nat → Int32) → (Nat → Int32) → (Nat → Int32) → (Nat → Int32) → Int32 → Int32 → Prop) (f_p1_bytes : Nat → Int32) (I_p0 : Nat → Int32) (f_p0_firstChild : Nat → Int32) (f_p0_lastNibble : Nat → Int32) (f_p0_nextSibling : Nat → Int32) (I_p4 : Nat → Int32) (f_p4_bytes : Nat → Int32) (x5 : Int32) (x6 : Int32) : Prop :=
  k31 I_p0 f_p0_firstChild f_p0_lastNibble f_p0_nextSibling I_p4 f_p4_bytes x5 x6
def wp_Ne_encode_b164 (post : (Nat → Int32) → (Nat → Int32) → (Nat → Int32) → (Nat → Int32) → (Nat → Int32) → (Nat → Int32) → Prop) (k31 : (Nat → Int32) → (Nat → Int32) → (Nat → Int32) → (Nat → Int32) → (Nat → Int32) → (Nat → Int32) → Int32 → Int32 → Prop) (f_p1_bytes : Nat → Int32) (I_p0 : Nat → Int32) (f_p0_firstChild : Nat → Int32) (f_p0_lastNibble : Nat → Int32) (f_p0_nextSibling : Nat → Int32) (I_p4 : Nat → Int32) (f_p4_bytes : Nat → Int32) (x5 : Int32) (x6 : Int32) (x7 : Int32) : Prop :=
  ((x5 ≤ x6 →
    wp_Ne_encode_b183 post k31 f_p1_bytes I_p0 f_p0_firstChild f_p0_lastNibble f_p0_nextSibling I_p4 f_p4_bytes x5 x6) ∧
   (¬ x5 ≤ x6 →
    wp_Da_nibble (fun (r177 : Int32) =>
      wp_Ne_addRow (fun (f_p0_firstChild_180 : Nat → Int32) (f_p0_lastNibble_180 : Nat → Int32) (f_p0_nextSibling_180 : Nat → Int32) =>
        wp_Ne_encode_b183 post k31 f_p1_bytes I_p0 f_p0_firstChild_180 f_p0_lastNibble_180 f_p0_nextSibling_180 I_p4 f_p4_bytes x5 x6) I_p0 f_p0_firstChild f_p0_lastNibble f_p0_nextSibling x7 r177) f_p1_bytes x6))
def wp_Ne_encode_b121 (post : (Nat → Int32) → (Nat → Int32) → (Nat → Int32) → (Nat → Int32) → (Nat → Int32) → (Nat → Int32) → Prop) (k31 : (Nat → Int32) → (Nat → Int32) → (Nat → Int32) → (Nat → Int32) → (Nat → Int32) → (Nat → Int32) → Int32 → Int32 → Prop) (f_p1_bytes : Nat → Int32) (I_p0 : Nat → Int32) (f_p0_firstChild : Nat → Int32) (f_p0_lastNibble : Nat → Int32) (f_p0_nextSibling : Nat → Int32) (I_p4 : Nat → Int32) (f_p4_bytes : Nat → Int32) (x5 : Int32) (x6 : Int32) (x7 : Int32) : Prop :=
  wp_Ne_emit (fun (I_p0_126 : Nat → Int32) (I_p4_126 : Nat → Int32) (f_p4_bytes_126 : Nat → Int32) =>
    ((x5 ≤ x6 →
      wp_Ne_encode_b164 post k31 f_p1_bytes (upd I_p0_126 3 ((I_p0_126 3) + 1)) f_p0_firstChild f_p0_lastNibble f_p0_nextSibling I_p4_126 f_p4_bytes_126 x5 x6 x7) ∧
     (¬ x5 ≤ x6 →
      ((((I_p0_126 3) + 1) = 109 →
        wp_Ne_restartTable (fun (I_p0_158 : Nat → Int32) (f_p0_firstChild_158 : Nat → Int32) (I_p4_158 : Nat → Int32) (f_p4_bytes_158 : Nat → Int32) =>
          wp_Ne_encode_b183 post k31 f_p1_bytes I_p0_158 f_p0_firstChild_158 f_p0_lastNibble f_p0_nextSibling I_p4_158 f_p4_bytes_158 x5 x6) (upd I_p0_126 3 ((I_p0_126 3) + 1)) f_p0_firstChild I_p4_126 f_p4_bytes_126) ∧
       (¬ ((I_p0_126 3) + 1) = 109 →
        wp_Ne_encode_b164 post k31 f_p1_bytes (upd I_p0_126 3 ((I_p0_126 3) + 1)) f_p0_firstChild f_p0_lastNibble f_p0_nextSibling I_p4_126 f_p4_bytes_126 x5 x6 x7))))) I_p0 I_p4 f_p4_bytes x7
def wp_Ne_encode_b116 (post : (Nat → Int32) → (Nat → Int32) → (Nat → Int32) → (Nat → Int32) → (Nat → Int32) → (Nat → Int32) → Prop) (k31 : (Nat → Int32) → (Nat → Int32) → (Nat → Int32) → (Nat → Int32) → (Nat → Int32) → (Nat → Int32) → Int32 → Int32 → Prop) (k74 : (Nat → Int32) → (Nat → Int32) → (Nat → Int32) → (Nat → Int32) → (Nat → Int32) → (Nat → Int32) → Int32 → Int32 → Int32 → Int32 → Prop) (f_p1_bytes : Nat → Int32) (I_p0 : Nat → Int32) (f_p0_firstChild : Nat → Int32) (f_p0_lastNibble : Nat → Int32) (f_p0_nextSibling : Nat → Int32) (I_p4 : Nat → Int32) (f_p4_bytes : Nat → Int32) (x5 : Int32) (x6 : Int32) (x7 : Int32) (s0 : Int32) : Prop :=
  k74 I_p0 f_p0_firstChild f_p0_lastNibble f_p0_nextSibling I_p4 f_p4_bytes x5 x6 x7 s0
def wp_Ne_encode_l74 (post : (Nat → Int32) → (Nat → Int32) → (Nat → Int32) → (Nat → Int32) → (Nat → Int32) → (Nat → Int32) → Prop) (k31 : (Nat → Int32) → (Nat → Int32) → (Nat → Int32) → (Nat → Int32) → (Nat → Int32) → (Nat → Int32) → Int32 → Int32 → Prop) (f_p1_bytes : Nat → Int32) : Nat → (Nat → Int32) → (Nat → Int32) → (Nat → Int32) → (Nat → Int32) → (Nat → Int32) → (Nat → Int32) → Int32 → Int32 → Int32 → Int32 → Prop
  | 0, _, _, _, _, _, _, _, _, _, _ => False
  | n + 1, I_p0, f_p0_firstChild, f_p0_lastNibble, f_p0_nextSibling, I_p4, f_p4_bytes, x5, x6, x7, x8 =>
    ((x8 = 0 →
      wp_Ne_encode_b121 post k31 f_p1_bytes I_p0 f_p0_firstChild f_p0_lastNibble f_p0_nextSibling I_p4 f_p4_bytes x5 x6 x7) ∧
     (¬ x8 = 0 →
      ((x5 ≤ x6 →
        wp_Ne_encode_b121 post k31 f_p1_bytes I_p0 f_p0_firstChild f_p0_lastNibble f_p0_nextSibling I_p4 f_p4_bytes x5 x6 x7) ∧
       (¬ x5 ≤ x6 →
        ((x5 ≤ (x6 + 1) →
          wp_Ne_encode_b116 post k31 (wp_Ne_encode_l74 post k31 f_p1_bytes n) f_p1_bytes I_p0 f_p0_firstChild f_p0_lastNibble f_p0_nextSibling I_p4 f_p4_bytes x5 (x6 + 1) x8 0) ∧
         (¬ x5 ≤ (x6 + 1) →
          wp_Da_nibble (fun (r106 : Int32) =>
            wp_Ne_child (fun (r109 : Int32) =>
              wp_Ne_encode_b116 post k31 (wp_Ne_encode_l74 post k31 f_p1_bytes n) f_p1_bytes I_p0 f_p0_firstChild f_p0_lastNibble f_p0_nextSibling I_p4 f_p4_bytes x5 (x6 + 1) x8 r109) I_p0 f_p0_firstChild f_p0_lastNibble f_p0_nextSibling x8 r106) f_p1_bytes (x6 + 1)))))))
def wp_Ne_encode_b72 (post : (Nat → Int32) → (Nat → Int32) → (Nat → Int32) → (Nat → Int32) → (Nat → Int32) → (Nat → Int32) → Prop) (k31 : (Nat → Int32) → (Nat → Int32) → (Nat → Int32) → (Nat → Int32) → (Nat → Int32) → (Nat → Int32) → Int32 → Int32 → Prop) (f_p1_bytes : Nat → Int32) (I_p0 : Nat → Int32) (f_p0_firstChild : Nat → Int32) (f_p0_lastNibble : Nat → Int32) (f_p0_nextSibling : Nat → Int32) (I_p4 : Nat → Int32) (f_p4_bytes : Nat → Int32) (x5 : Int32) (x6 : Int32) (x7 : Int32) (s0 : Int32) : Prop :=
  (∃ n1 : Nat, wp_Ne_encode_l74 post k31 f_p1_bytes n1 I_p0 f_p0_firstChild f_p0_lastNibble f_p0_nextSibling I_p4 f_p4_bytes x5 x6 x7 s0)
def wp_Ne_encode_l31 (post : (Nat → Int32) → (Nat → Int32) → (Nat → Int32) → (Nat → Int32) → (Nat → Int32) → (Nat → Int32) → Prop) (f_p1_bytes : Nat → Int32) : Nat → (Nat → Int32) → (Nat → Int32) → (Nat → Int32) → (Nat → Int32) → (Nat → Int32) → (Nat → Int32) → Int32 → Int32 → Prop
  | 0, _, _, _, _, _, _, _, _ => False
  | n + 1, I_p0, f_p0_firstChild, f_p0_lastNibble, f_p0_nextSibling, I_p4, f_p4_bytes, x5, x6 =>
    ((x5 ≤ x6 →
      wp_Ne_emit (fun (I_p0_191 : Nat → Int32) (I_p4_191 : Nat → Int32) (f_p4_bytes_191 : Nat → Int32) =>
        (((I_p0_191 5) ≤ 0 →
          post I_p0_191 f_p0_firstChild f_p0_lastNibble f_p0_nextSibling I_p4_191 f_p4_bytes_191) ∧
         (¬ (I_p0_191 5) ≤ 0 →
          wp_St_append (fun (I_p4_219 : Nat → Int32) (f_p4_bytes_219 : Nat → Int32) =>
            post I_p0_191 f_p0_firstChild f_p0_lastNibble f_p0_nextSibling I_p4_219 f_p4_bytes_219) I_p4_191 f_p4_bytes_191 (((I_p0_191 4) <<< ((8 - (I_p0_191 5)) &&& 31)) &&& 255)))) I_p0 I_p4 f_p4_bytes 17) ∧
     (¬ x5 ≤ x6 →
      wp_Da_nibble (fun (r41 : Int32) =>
        ((x5 ≤ (x6 + 1) →
          wp_Ne_encode_b72 post (wp_Ne_encode_l31 post f_p1_bytes n) f_p1_bytes I_p0 f_p0_firstChild f_p0_lastNibble f_p0_nextSibling I_p4 f_p4_bytes x5 (x6 + 1) r41 0) ∧
         (¬ x5 ≤ (x6 + 1) →
          wp_Da_nibble (fun (r62 : Int32) =>
            wp_Ne_child (fun (r65 : Int32) =>
              wp_Ne_encode_b72 post (wp_Ne_encode_l31 post f_p1_bytes n) f_p1_bytes I_p0 f_p0_firstChild f_p0_lastNibble f_p0_nextSibling I_p4 f_p4_bytes x5 (x6 + 1) r41 r65) I_p0 f_p0_firstChild f_p0_lastNibble f_p0_nextSibling r41 r62) f_p1_bytes (x6 + 1)))) f_p1_bytes x6))
def wp_Ne_encode (post : (Nat → Int32) → (Nat → Int32) → (Nat → Int32) → (Nat → Int32) → (Nat → Int32) → (Nat → Int32) → Prop) (f_p1_bytes : Nat → Int32) (I_p0 : Nat → Int32) (f_p0_firstChild : Nat → Int32) (f_p0_lastNibble : Nat → Int32) (f_p0_nextSibling : Nat → Int32) (I_p4 : Nat → Int32) (f_p4_bytes : Nat → Int32) (x2 : Int32) (x3 : Int32) : Prop :=
  wp_Ne_restartTable (fun (I_p0_28 : Nat → Int32) (f_p0_firstChild_28 : Nat → Int32) (I_p4_28 : Nat → Int32) (f_p4_bytes_28 : Nat → Int32) =>
    (∃ n1 : Nat, wp_Ne_encode_l31 post f_p1_bytes n1 I_p0_28 f_p0_firstChild_28 f_p0_lastNibble f_p0_nextSibling I_p4_28 f_p4_bytes_28 (2 * x3) (2 * x2))) (upd (upd (upd I_p0 4 0) 5 0) 3 0) f_p0_firstChild I_p4 f_p4_bytes
set_option maxRecDepth 100000 in
set_option maxHeartbeats 4000000 in
theorem c_Ne_encode (l : Launch) (dC : Nat → ClassId) (dI : Nat → Nat → Nat) (cI : ClassId) (a_p0 : Nat) (a_p1 : Nat) (a_p4 : Nat) (A_p0 : Nat → Nat) (A_p1 : Nat → Nat) (A_p4 : Nat → Nat) (f_p1_bytes : Nat → Int32) (I_p0 : Nat → Int32) (f_p0_firstChild : Nat → Int32) (f_p0_lastNibble : Nat → Int32) (f_p0_nextSibling : Nat → Int32) (I_p4 : Nat → Int32) (f_p4_bytes : Nat → Int32) (x2 : Int32) (x3 : Int32) {post : (Nat → Int32) → (Nat → Int32) → (Nat → Int32) → (Nat → Int32) → (Nat → Int32) → (Nat → Int32) → Prop} (hw : wp_Ne_encode post f_p1_bytes I_p0 f_p0_firstChild f_p0_lastNibble f_p0_nextSibling I_p4 f_p4_bytes x2 x3) : gm_v l y_Ne_encode ws_Ne_encode ({ frames := 3, cells := 0, slots := 0, locals := 66 } : Room) (dC, dI) vwCl [(cI, .int)] [.ref a_p0, .ref a_p1, .int x2, .int x3, .ref a_p4] [oNe a_p0 A_p0 I_p0, gz cI (A_p0 0) 127 f_p0_firstChild, gz cI (A_p0 2) 127 f_p0_lastNibble, gz cI (A_p0 1) 127 f_p0_nextSibling, oDa a_p1 A_p1, gz cI (A_p1 0) 256 f_p1_bytes, oSt a_p4 A_p4 I_p4, gz cI (A_p4 0) 900 f_p4_bytes] (fun (u : (Nat → Int32) × (Nat → Int32) × (Nat → Int32) × (Nat → Int32) × (Nat → Int32) × (Nat → Int32)) => [oNe a_p0 A_p0 u.1, gz cI (A_p0 0) 127 u.2.1, gz cI (A_p0 2) 127 u.2.2.1, gz cI (A_p0 1) 127 u.2.2.2.1, oDa a_p1 A_p1, gz cI (A_p1 0) 256 f_p1_bytes, oSt a_p4 A_p4 u.2.2.2.2.1, gz cI (A_p4 0) 900 u.2.2.2.2.2]) (fun (u : (Nat → Int32) × (Nat → Int32) × (Nat → Int32) × (Nat → Int32) × (Nat → Int32) × (Nat → Int32)) => post  u.1 u.2.1 u.2.2.1 u.2.2.2.1 u.2.2.2.2.1 u.2.2.2.2.2) := by
  refine gm_vof (cc := b_Ne_encode) (maxL := 9) (by decide) rfl (Nat.le_of_ble_eq_true rfl) ?_
  intro p e s m args below meth c A Q hx hb hml hown hg hK hN hA hnm hret
  have hown : s.vm.findClass R_Ne = some m.cls := hown
  have b183 : ∀ (k31 : (Nat → Int32) → (Nat → Int32) → (Nat → Int32) → (Nat → Int32) → (Nat → Int32) → (Nat → Int32) → Int32 → Int32 → Prop), (∀ (H : Heap) (locs : List Loc) (ls : Array Slot) (I_p0 : Nat → Int32) (f_p0_firstChild : Nat → Int32) (f_p0_lastNibble : Nat → Int32) (f_p0_nextSibling : Nat → Int32) (I_p4 : Nat → Int32) (f_p4_bytes : Nat → Int32) (x5 : Int32) (x6 : Int32), va_P (dC, dI) vwCl [oNe a_p0 A_p0 I_p0, gz cI (A_p0 0) 127 f_p0_firstChild, gz cI (A_p0 2) 127 f_p0_lastNibble, gz cI (A_p0 1) 127 f_p0_nextSibling, oDa a_p1 A_p1, gz cI (A_p1 0) 256 f_p1_bytes, oSt a_p4 A_p4 I_p4, gz cI (A_p4 0) 900 f_p4_bytes] H → va_D A [oNe a_p0 A_p0 I_p0, gz cI (A_p0 0) 127 f_p0_firstChild, gz cI (A_p0 2) 127 f_p0_lastNibble, gz cI (A_p0 1) 127 f_p0_nextSibling, oDa a_p1 A_p1, gz cI (A_p1 0) 256 f_p1_bytes, oSt a_p4 A_p4 I_p4, gz cI (A_p4 0) 900 f_p4_bytes] → va_S A s.heap H locs → lv_has ls 9 [(0, .ref a_p0), (1, .ref a_p1), (4, .ref a_p4), (5, .int x5), (6, .int x6)] → k31 I_p0 f_p0_firstChild f_p0_lastNibble f_p0_nextSibling I_p4 f_p4_bytes x5 x6 → W p l e ({ frames := 3, cells := 0, slots := 0, locals := 66 } : Room) s m args below meth c H locs 0 0 Q (F0 m 31 ls [])) → ∀ (H : Heap) (locs : List Loc) (ls : Array Slot) (I_p0 : Nat → Int32) (f_p0_firstChild : Nat → Int32) (f_p0_lastNibble : Nat → Int32) (f_p0_nextSibling : Nat → Int32) (I_p4 : Nat → Int32) (f_p4_bytes : Nat → Int32) (x5 : Int32) (x6 : Int32), va_P (dC, dI) vwCl [oNe a_p0 A_p0 I_p0, gz cI (A_p0 0) 127 f_p0_firstChild, gz cI (A_p0 2) 127 f_p0_lastNibble, gz cI (A_p0 1) 127 f_p0_nextSibling, oDa a_p1 A_p1, gz cI (A_p1 0) 256 f_p1_bytes, oSt a_p4 A_p4 I_p4, gz cI (A_p4 0) 900 f_p4_bytes] H → va_D A [oNe a_p0 A_p0 I_p0, gz cI (A_p0 0) 127 f_p0_firstChild, gz cI (A_p0 2) 127 f_p0_lastNibble, gz cI (A_p0 1) 127 f_p0_nextSibling, oDa a_p1 A_p1, gz cI (A_p1 0) 256 f_p1_bytes, oSt a_p4 A_p4 I_p4, gz cI (A_p4 0) 900 f_p4_bytes] → va_S A s.heap H locs → lv_has ls 9 [(0, .ref a_p0), (1, .ref a_p1), (4, .ref a_p4), (5, .int x5), (6, .int x6)] → wp_Ne_encode_b183 post k31 f_p1_bytes I_p0 f_p0_firstChild f_p0_lastNibble f_p0_nextSibling I_p4 f_p4_bytes x5 x6 → W p l e ({ frames := 3, cells := 0, slots := 0, locals := 66 } : Room) s m args below meth c H locs 0 0 Q (F0 m 183 ls []) := by
    intro k31 hk31 H locs ls I_p0 f_p0_firstChild f_p0_lastNibble f_p0_nextSibling I_p4 f_p4_bytes x5 x6 hP hD hS hl hw
    unfold wp_Ne_encode_b183 at hw
    refine lv_goto hx hb d_Ne_encode_183 rfl ?_
    exact hk31 _ _ _ I_p0 f_p0_firstChild f_p0_lastNibble f_p0_nextSibling I_p4 f_p4_bytes x5 x6 hP hD hS (lv_sub hl [0, 1, 2, 3, 4] rfl) hw
  have b164 : ∀ (k31 : (Nat → Int32) → (Nat → Int32) → (Nat → Int32) → (Nat → Int32) → (Nat → Int32) → (Nat → Int32) → Int32 → Int32 → Prop), (∀ (H : Heap) (locs : List Loc) (ls : Array Slot) (I_p0 : Nat → Int32) (f_p0_firstChild : Nat → Int32) (f_p0_lastNibble : Nat → Int32) (f_p0_nextSibling : Nat → Int32) (I_p4 : Nat → Int32) (f_p4_bytes : Nat → Int32) (x5 : Int32) (x6 : Int32), va_P (dC, dI) vwCl [oNe a_p0 A_p0 I_p0, gz cI (A_p0 0) 127 f_p0_firstChild, gz cI (A_p0 2) 127 f_p0_lastNibble, gz cI (A_p0 1) 127 f_p0_nextSibling, oDa a_p1 A_p1, gz cI (A_p1 0) 256 f_p1_bytes, oSt a_p4 A_p4 I_p4, gz cI (A_p4 0) 900 f_p4_bytes] H → va_D A [oNe a_p0 A_p0 I_p0, gz cI (A_p0 0) 127 f_p0_firstChild, gz cI (A_p0 2) 127 f_p0_lastNibble, gz cI (A_p0 1) 127 f_p0_nextSibling, oDa a_p1 A_p1, gz cI (A_p1 0) 256 f_p1_bytes, oSt a_p4 A_p4 I_p4, gz cI (A_p4 0) 900 f_p4_bytes] → va_S A s.heap H locs → lv_has ls 9 [(0, .ref a_p0), (1, .ref a_p1), (4, .ref a_p4), (5, .int x5), (6, .int x6)] → k31 I_p0 f_p0_firstChild f_p0_lastNibble f_p0_nextSibling I_p4 f_p4_bytes x5 x6 → W p l e ({ frames := 3, cells := 0, slots := 0, locals := 66 } : Room) s m args below meth c H locs 0 0 Q (F0 m 31 ls [])) → ∀ (H : Heap) (locs : List Loc) (ls : Array Slot) (I_p0 : Nat → Int32) (f_p0_firstChild : Nat → Int32) (f_p0_lastNibble : Nat → Int32) (f_p0_nextSibling : Nat → Int32) (I_p4 : Nat → Int32) (f_p4_bytes : Nat → Int32) (x5 : Int32) (x6 : Int32) (x7 : Int32), va_P (dC, dI) vwCl [oNe a_p0 A_p0 I_p0, gz cI (A_p0 0) 127 f_p0_firstChild, gz cI (A_p0 2) 127 f_p0_lastNibble, gz cI (A_p0 1) 127 f_p0_nextSibling, oDa a_p1 A_p1, gz cI (A_p1 0) 256 f_p1_bytes, oSt a_p4 A_p4 I_p4, gz cI (A_p4 0) 900 f_p4_bytes] H → va_D A [oNe a_p0 A_p0 I_p0, gz cI (A_p0 0) 127 f_p0_firstChild, gz cI (A_p0 2) 127 f_p0_lastNibble, gz cI (A_p0 1) 127 f_p0_nextSibling, oDa a_p1 A_p1, gz cI (A_p1 0) 256 f_p1_bytes, oSt a_p4 A_p4 I_p4, gz cI (A_p4 0) 900 f_p4_bytes] → va_S A s.heap H locs → lv_has ls 9 [(0, .ref a_p0), (1, .ref a_p1), (4, .ref a_p4), (5, .int x5), (6, .int x6), (7, .int x7)] → wp_Ne_encode_b164 post k31 f_p1_bytes I_p0 f_p0_firstChild f_p0_lastNibble f_p0_nextSibling I_p4 f_p4_bytes x5 x6 x7 → W p l e ({ frames := 3, cells := 0, slots := 0, locals := 66 } : Room) s m args below meth c H locs 0 0 Q (F0 m 164 ls []) := by
    intro k31 hk31 H locs ls I_p0 f_p0_firstChild f_p0_lastNibble f_p0_nextSibling I_p4 f_p4_bytes x5 x6 x7 hP hD hS hl hw
    unfold wp_Ne_encode_b164 at hw
    refine lv_iload hx hb d_Ne_encode_164 (lv_at hl 4 rfl) ?_
    refine lv_iload hx hb d_Ne_encode_166 (lv_at hl 3 rfl) ?_
    refine lv_icmp_ge hx hb d_Ne_encode_168 rfl (fun hc => ?_) (fun hc => ?_)
    · have hw := hw.1 hc
      exact b183 _ hk31 _ _ _ I_p0 f_p0_firstChild f_p0_lastNibble f_p0_nextSibling I_p4 f_p4_bytes x5 x6 hP hD hS (lv_sub hl [0, 1, 2, 3, 4] rfl) hw
    · have hw := hw.2 hc
      refine lv_aload_n hx hb d_Ne_encode_171 rfl (lv_at hl 0 rfl) ?_
      refine lv_iload hx hb d_Ne_encode_172 (lv_at hl 5 rfl) ?_
      refine lv_aload_n hx hb d_Ne_encode_174 rfl (lv_at hl 1 rfl) ?_
      refine lv_iload hx hb d_Ne_encode_175 (lv_at hl 4 rfl) ?_
      refine gc_i (wn := fun (_ : Unit) => [oNe a_p0 A_p0 I_p0, gz cI (A_p0 0) 127 f_p0_firstChild, gz cI (A_p0 2) 127 f_p0_lastNibble, gz cI (A_p0 1) 127 f_p0_nextSibling, oDa a_p1 A_p1, gz cI (A_p1 0) 256 f_p1_bytes, oSt a_p4 A_p4 I_p4, gz cI (A_p4 0) 900 f_p4_bytes]) (wr := [oNe a_p0 A_p0 I_p0, gz cI (A_p0 0) 127 f_p0_firstChild, gz cI (A_p0 2) 127 f_p0_lastNibble, gz cI (A_p0 1) 127 f_p0_nextSibling, oSt a_p4 A_p4 I_p4, gz cI (A_p4 0) 900 f_p4_bytes]) (gr_V (As := [.int x6]) (rest := [.int x7, .ref a_p0]) ⟨hx, hb, hml, hown, hg⟩ (c_Da_nibble l dC dI cI a_p1 A_p1 f_p1_bytes x6 hw _) (cwV 1 hg (gg_V t_572 t_573 t_574 t_66 t_575) rfl rfl rfl (by decide +kernel) ⟨Nat.le_of_ble_eq_true rfl, Nat.le_of_ble_eq_true rfl⟩) hK hN hP hD [4, 5] (by decide) rfl 4 0 rfl rfl rfl rfl hl.1 rfl (Nat.le_of_ble_eq_true rfl) d_Ne_encode_177 ⟨Nat.le_of_ble_eq_true rfl, Nat.le_of_ble_eq_true rfl⟩) rfl rfl hP hD hS hA [4, 5] [0, 1, 2, 3, 6, 7] [0, 1, 2, 3, 6, 7, 4, 5] rfl rfl (by decide) (by decide) (by decide) (fun _ => rfl) ?_
      intro r177 _ H locs hw hP hD hS
      try dsimp only at hw
      have hP : va_P (dC, dI) vwCl [oNe a_p0 A_p0 I_p0, gz cI (A_p0 0) 127 f_p0_firstChild, gz cI (A_p0 2) 127 f_p0_lastNibble, gz cI (A_p0 1) 127 f_p0_nextSibling, oDa a_p1 A_p1, gz cI (A_p1 0) 256 f_p1_bytes, oSt a_p4 A_p4 I_p4, gz cI (A_p4 0) 900 f_p4_bytes] H := hP
      have hD : va_D A [oNe a_p0 A_p0 I_p0, gz cI (A_p0 0) 127 f_p0_firstChild, gz cI (A_p0 2) 127 f_p0_lastNibble, gz cI (A_p0 1) 127 f_p0_nextSibling, oDa a_p1 A_p1, gz cI (A_p1 0) 256 f_p1_bytes, oSt a_p4 A_p4 I_p4, gz cI (A_p4 0) 900 f_p4_bytes] := hD
      refine gc_v (wn := fun u => [oNe a_p0 A_p0 I_p0, gz cI (A_p0 0) 127 u.1, gz cI (A_p0 2) 127 u.2.1, gz cI (A_p0 1) 127 u.2.2, oDa a_p1 A_p1, gz cI (A_p1 0) 256 f_p1_bytes, oSt a_p4 A_p4 I_p4, gz cI (A_p4 0) 900 f_p4_bytes]) (wr := [oDa a_p1 A_p1, gz cI (A_p1 0) 256 f_p1_bytes, oSt a_p4 A_p4 I_p4, gz cI (A_p4 0) 900 f_p4_bytes]) (gr_V (As := [.int x7, .int r177]) (rest := []) ⟨hx, hb, hml, hown, hg⟩ (c_Ne_addRow l dC dI cI a_p0 A_p0 I_p0 f_p0_firstChild f_p0_lastNibble f_p0_nextSibling x7 r177 hw _) (cwV 2 hg (gg_V t_580 t_582 t_9 t_67 t_583) rfl rfl rfl (by decide +kernel) ⟨Nat.le_of_ble_eq_true rfl, Nat.le_of_ble_eq_true rfl⟩) hK hN hP hD [0, 1, 2, 3] (by decide) rfl 0 5 rfl rfl rfl rfl hl.1 rfl (Nat.le_of_ble_eq_true rfl) d_Ne_encode_180 ⟨Nat.le_of_ble_eq_true rfl, Nat.le_of_ble_eq_true rfl⟩) rfl rfl hP hD hS hA [0, 1, 2, 3] [4, 5, 6, 7] [4, 5, 6, 7, 0, 1, 2, 3] rfl rfl (by decide) (by decide) (by decide) (fun _ => rfl) ?_
      intro u9 H locs hw hP hD hS
      obtain ⟨f_p0_firstChild_180, f_p0_lastNibble_180, f_p0_nextSibling_180⟩ := u9
      try dsimp only at hw
      have hP : va_P (dC, dI) vwCl [oNe a_p0 A_p0 I_p0, gz cI (A_p0 0) 127 f_p0_firstChild_180, gz cI (A_p0 2) 127 f_p0_lastNibble_180, gz cI (A_p0 1) 127 f_p0_nextSibling_180, oDa a_p1 A_p1, gz cI (A_p1 0) 256 f_p1_bytes, oSt a_p4 A_p4 I_p4, gz cI (A_p4 0) 900 f_p4_bytes] H := hP
      have hD : va_D A [oNe a_p0 A_p0 I_p0, gz cI (A_p0 0) 127 f_p0_firstChild_180, gz cI (A_p0 2) 127 f_p0_lastNibble_180, gz cI (A_p0 1) 127 f_p0_nextSibling_180, oDa a_p1 A_p1, gz cI (A_p1 0) 256 f_p1_bytes, oSt a_p4 A_p4 I_p4, gz cI (A_p4 0) 900 f_p4_bytes] := hD
      exact b183 _ hk31 _ _ _ I_p0 f_p0_firstChild_180 f_p0_lastNibble_180 f_p0_nextSibling_180 I_p4 f_p4_bytes x5 x6 hP hD hS (lv_sub hl [0, 1, 2, 3, 4] rfl) hw
  have b121 : ∀ (k31 : (Nat → Int32) → (Nat → Int32) → (Nat → Int32) → (Nat → Int32) → (Nat → Int32) → (Nat → Int32) → Int32 → Int32 → Prop), (∀ (H : Heap) (locs : List Loc) (ls : Array Slot) (I_p0 : Nat → Int32) (f_p0_firstChild : Nat → Int32) (f_p0_lastNibble : Nat → Int32) (f_p0_nextSibling : Nat → Int32) (I_p4 : Nat → Int32) (f_p4_bytes : Nat → Int32) (x5 : Int32) (x6 : Int32), va_P (dC, dI) vwCl [oNe a_p0 A_p0 I_p0, gz cI (A_p0 0) 127 f_p0_firstChild, gz cI (A_p0 2) 127 f_p0_lastNibble, gz cI (A_p0 1) 127 f_p0_nextSibling, oDa a_p1 A_p1, gz cI (A_p1 0) 256 f_p1_bytes, oSt a_p4 A_p4 I_p4, gz cI (A_p4 0) 900 f_p4_bytes] H → va_D A [oNe a_p0 A_p0 I_p0, gz cI (A_p0 0) 127 f_p0_firstChild, gz cI (A_p0 2) 127 f_p0_lastNibble, gz cI (A_p0 1) 127 f_p0_nextSibling, oDa a_p1 A_p1, gz cI (A_p1 0) 256 f_p1_bytes, oSt a_p4 A_p4 I_p4, gz cI (A_p4 0) 900 f_p4_bytes] → va_S A s.heap H locs → lv_has ls 9 [(0, .ref a_p0), (1, .ref a_p1), (4, .ref a_p4), (5, .int x5), (6, .int x6)] → k31 I_p0 f_p0_firstChild f_p0_lastNibble f_p0_nextSibling I_p4 f_p4_bytes x5 x6 → W p l e ({ frames := 3, cells := 0, slots := 0, locals := 66 } : Room) s m args below meth c H locs 0 0 Q (F0 m 31 ls [])) → ∀ (H : Heap) (locs : List Loc) (ls : Array Slot) (I_p0 : Nat → Int32) (f_p0_firstChild : Nat → Int32) (f_p0_lastNibble : Nat → Int32) (f_p0_nextSibling : Nat → Int32) (I_p4 : Nat → Int32) (f_p4_bytes : Nat → Int32) (x5 : Int32) (x6 : Int32) (x7 : Int32), va_P (dC, dI) vwCl [oNe a_p0 A_p0 I_p0, gz cI (A_p0 0) 127 f_p0_firstChild, gz cI (A_p0 2) 127 f_p0_lastNibble, gz cI (A_p0 1) 127 f_p0_nextSibling, oDa a_p1 A_p1, gz cI (A_p1 0) 256 f_p1_bytes, oSt a_p4 A_p4 I_p4, gz cI (A_p4 0) 900 f_p4_bytes] H → va_D A [oNe a_p0 A_p0 I_p0, gz cI (A_p0 0) 127 f_p0_firstChild, gz cI (A_p0 2) 127 f_p0_lastNibble, gz cI (A_p0 1) 127 f_p0_nextSibling, oDa a_p1 A_p1, gz cI (A_p1 0) 256 f_p1_bytes, oSt a_p4 A_p4 I_p4, gz cI (A_p4 0) 900 f_p4_bytes] → va_S A s.heap H locs → lv_has ls 9 [(0, .ref a_p0), (1, .ref a_p1), (4, .ref a_p4), (5, .int x5), (6, .int x6), (7, .int x7)] → wp_Ne_encode_b121 post k31 f_p1_bytes I_p0 f_p0_firstChild f_p0_lastNibble f_p0_nextSibling I_p4 f_p4_bytes x5 x6 x7 → W p l e ({ frames := 3, cells := 0, slots := 0, locals := 66 } : Room) s m args below meth c H locs 0 0 Q (F0 m 121 ls []) := by
    intro k31 hk31 H locs ls I_p0 f_p0_firstChild f_p0_lastNibble f_p0_nextSibling I_p4 f_p4_bytes x5 x6 x7 hP hD hS hl hw
    unfold wp_Ne_encode_b121 at hw
    refine lv_aload_n hx hb d_Ne_encode_121 rfl (lv_at hl 0 rfl) ?_
    refine lv_iload hx hb d_Ne_encode_122 (lv_at hl 5 rfl) ?_
    refine lv_aload hx hb d_Ne_encode_124 (lv_at hl 2 rfl) ?_
    refine gc_v (wn := fun u => [oNe a_p0 A_p0 u.1, gz cI (A_p0 0) 127 f_p0_firstChild, gz cI (A_p0 2) 127 f_p0_lastNibble, gz cI (A_p0 1) 127 f_p0_nextSibling, oDa a_p1 A_p1, gz cI (A_p1 0) 256 f_p1_bytes, oSt a_p4 A_p4 u.2.1, gz cI (A_p4 0) 900 u.2.2]) (wr := [gz cI (A_p0 0) 127 f_p0_firstChild, gz cI (A_p0 2) 127 f_p0_lastNibble, gz cI (A_p0 1) 127 f_p0_nextSibling, oDa a_p1 A_p1, gz cI (A_p1 0) 256 f_p1_bytes]) (gr_V (As := [.int x7, .ref a_p4]) (rest := []) ⟨hx, hb, hml, hown, hg⟩ (c_Ne_emit l dC dI cI a_p0 a_p4 A_p0 A_p4 I_p0 I_p4 f_p4_bytes x7 hw _) (cwV 2 hg (gg_V t_564 t_566 t_7 t_67 t_567) rfl rfl rfl (by decide +kernel) ⟨Nat.le_of_ble_eq_true rfl, Nat.le_of_ble_eq_true rfl⟩) hK hN hP hD [0, 6, 7] (by decide) rfl 0 5 rfl rfl rfl rfl hl.1 rfl (Nat.le_of_ble_eq_true rfl) d_Ne_encode_126 ⟨Nat.le_of_ble_eq_true rfl, Nat.le_of_ble_eq_true rfl⟩) rfl rfl hP hD hS hA [0, 6, 7] [1, 2, 3, 4, 5] [5, 0, 1, 2, 3, 4, 6, 7] rfl rfl (by decide) (by decide) (by decide) (fun _ => rfl) ?_
    intro u9 H locs hw hP hD hS
    obtain ⟨I_p0_126, I_p4_126, f_p4_bytes_126⟩ := u9
    try dsimp only at hw
    have hP : va_P (dC, dI) vwCl [oNe a_p0 A_p0 I_p0_126, gz cI (A_p0 0) 127 f_p0_firstChild, gz cI (A_p0 2) 127 f_p0_lastNibble, gz cI (A_p0 1) 127 f_p0_nextSibling, oDa a_p1 A_p1, gz cI (A_p1 0) 256 f_p1_bytes, oSt a_p4 A_p4 I_p4_126, gz cI (A_p4 0) 900 f_p4_bytes_126] H := hP
    have hD : va_D A [oNe a_p0 A_p0 I_p0_126, gz cI (A_p0 0) 127 f_p0_firstChild, gz cI (A_p0 2) 127 f_p0_lastNibble, gz cI (A_p0 1) 127 f_p0_nextSibling, oDa a_p1 A_p1, gz cI (A_p1 0) 256 f_p1_bytes, oSt a_p4 A_p4 I_p4_126, gz cI (A_p4 0) 900 f_p4_bytes_126] := hD
    refine lv_aload_n hx hb d_Ne_encode_129 rfl (lv_at hl 0 rfl) ?_
    refine lv_dup hx hb d_Ne_encode_130 rfl ?_
    refine va_get (D := (dC, dI)) (ci := 5) (v := .int (I_p0_126 3)) (C := R_Ne) (T := T_Ne) (N := 6) hx hb hg in_Ne hown hK hP 0 rfl rfl 3 (by decide) (hg _ t_227) (fun _ h9 => h9) rfl d_Ne_encode_131 ?_
    refine lv_iconst (v := 1) hx hb d_Ne_encode_134 (by decide) ?_
    refine lv_iadd hx hb d_Ne_encode_135 ?_
    refine va_put (D := (dC, dI)) (ci := 5) (v := .int ((I_p0_126 3) + 1)) (ty := .int) (C := R_Ne) (T := T_Ne) (N := 6) hx hb hg in_Ne t_Ne tok_Ne nok_Ne hown hK hP hD hS 0 rfl rfl 3 (by decide) (hg _ t_227) (fun _ h9 => h9) rfl (by decide +kernel) rfl rfl (Nat.le_of_ble_eq_true rfl) d_Ne_encode_136 (fun H locs hP hD hS => ?_)
    have hP : va_P (dC, dI) vwCl [oNe a_p0 A_p0 (upd I_p0_126 3 ((I_p0_126 3) + 1)), gz cI (A_p0 0) 127 f_p0_firstChild, gz cI (A_p0 2) 127 f_p0_lastNibble, gz cI (A_p0 1) 127 f_p0_nextSibling, oDa a_p1 A_p1, gz cI (A_p1 0) 256 f_p1_bytes, oSt a_p4 A_p4 I_p4_126, gz cI (A_p4 0) 900 f_p4_bytes_126] H := hP
    have hD : va_D A [oNe a_p0 A_p0 (upd I_p0_126 3 ((I_p0_126 3) + 1)), gz cI (A_p0 0) 127 f_p0_firstChild, gz cI (A_p0 2) 127 f_p0_lastNibble, gz cI (A_p0 1) 127 f_p0_nextSibling, oDa a_p1 A_p1, gz cI (A_p1 0) 256 f_p1_bytes, oSt a_p4 A_p4 I_p4_126, gz cI (A_p4 0) 900 f_p4_bytes_126] := hD
    refine lv_iload hx hb d_Ne_encode_139 (lv_at hl 4 rfl) ?_
    refine lv_iload hx hb d_Ne_encode_141 (lv_at hl 3 rfl) ?_
    refine lv_icmp_ge hx hb d_Ne_encode_143 rfl (fun hc => ?_) (fun hc => ?_)
    · have hw := hw.1 hc
      exact b164 _ hk31 _ _ _ (upd I_p0_126 3 ((I_p0_126 3) + 1)) f_p0_firstChild f_p0_lastNibble f_p0_nextSibling I_p4_126 f_p4_bytes_126 x5 x6 x7 hP hD hS (lv_sub hl [0, 1, 2, 3, 4, 5] rfl) hw
    · have hw := hw.2 hc
      refine lv_aload_n hx hb d_Ne_encode_146 rfl (lv_at hl 0 rfl) ?_
      refine va_get (D := (dC, dI)) (ci := 5) (v := .int ((I_p0_126 3) + 1)) (C := R_Ne) (T := T_Ne) (N := 6) hx hb hg in_Ne hown hK hP 0 rfl rfl 3 (by decide) (hg _ t_227) (fun _ h9 => h9) rfl d_Ne_encode_147 ?_
      refine lv_bipush (v := 109) hx hb d_Ne_encode_150 (by decide) ?_
      refine lv_icmp_ne hx hb d_Ne_encode_152 rfl (fun hc => ?_) (fun hc => ?_)
      · have hw := hw.2 hc
        exact b164 _ hk31 _ _ _ (upd I_p0_126 3 ((I_p0_126 3) + 1)) f_p0_firstChild f_p0_lastNibble f_p0_nextSibling I_p4_126 f_p4_bytes_126 x5 x6 x7 hP hD hS (lv_sub hl [0, 1, 2, 3, 4, 5] rfl) hw
      · have hw := hw.1 hc
        refine lv_aload_n hx hb d_Ne_encode_155 rfl (lv_at hl 0 rfl) ?_
        refine lv_aload hx hb d_Ne_encode_156 (lv_at hl 2 rfl) ?_
        refine gc_v (wn := fun u => [oNe a_p0 A_p0 u.1, gz cI (A_p0 0) 127 u.2.1, gz cI (A_p0 2) 127 f_p0_lastNibble, gz cI (A_p0 1) 127 f_p0_nextSibling, oDa a_p1 A_p1, gz cI (A_p1 0) 256 f_p1_bytes, oSt a_p4 A_p4 u.2.2.1, gz cI (A_p4 0) 900 u.2.2.2]) (wr := [gz cI (A_p0 2) 127 f_p0_lastNibble, gz cI (A_p0 1) 127 f_p0_nextSibling, oDa a_p1 A_p1, gz cI (A_p1 0) 256 f_p1_bytes]) (gr_V (As := [.ref a_p4]) (rest := []) ⟨hx, hb, hml, hown, hg⟩ (c_Ne_restartTable l dC dI cI a_p0 a_p4 A_p0 A_p4 (upd I_p0_126 3 ((I_p0_126 3) + 1)) f_p0_firstChild I_p4_126 f_p4_bytes_126 hw _) (cwV 1 hg (gg_V t_560 t_562 t_6 t_67 t_563) rfl rfl rfl (by decide +kernel) ⟨Nat.le_of_ble_eq_true rfl, Nat.le_of_ble_eq_true rfl⟩) hK hN hP hD [0, 1, 6, 7] (by decide) rfl 0 5 rfl rfl rfl rfl hl.1 rfl (Nat.le_of_ble_eq_true rfl) d_Ne_encode_158 ⟨Nat.le_of_ble_eq_true rfl, Nat.le_of_ble_eq_true rfl⟩) rfl rfl hP hD hS hA [0, 1, 6, 7] [2, 3, 4, 5] [4, 5, 0, 1, 2, 3, 6, 7] rfl rfl (by decide) (by decide) (by decide) (fun _ => rfl) ?_
        intro u9 H locs hw hP hD hS
        obtain ⟨I_p0_158, f_p0_firstChild_158, I_p4_158, f_p4_bytes_158⟩ := u9
        try dsimp only at hw
        have hP : va_P (dC, dI) vwCl [oNe a_p0 A_p0 I_p0_158, gz cI (A_p0 0) 127 f_p0_firstChild_158, gz cI (A_p0 2) 127 f_p0_lastNibble, gz cI (A_p0 1) 127 f_p0_nextSibling, oDa a_p1 A_p1, gz cI (A_p1 0) 256 f_p1_bytes, oSt a_p4 A_p4 I_p4_158, gz cI (A_p4 0) 900 f_p4_bytes_158] H := hP
        have hD : va_D A [oNe a_p0 A_p0 I_p0_158, gz cI (A_p0 0) 127 f_p0_firstChild_158, gz cI (A_p0 2) 127 f_p0_lastNibble, gz cI (A_p0 1) 127 f_p0_nextSibling, oDa a_p1 A_p1, gz cI (A_p1 0) 256 f_p1_bytes, oSt a_p4 A_p4 I_p4_158, gz cI (A_p4 0) 900 f_p4_bytes_158] := hD
        refine lv_goto hx hb d_Ne_encode_161 rfl ?_
        exact b183 _ hk31 _ _ _ I_p0_158 f_p0_firstChild_158 f_p0_lastNibble f_p0_nextSibling I_p4_158 f_p4_bytes_158 x5 x6 hP hD hS (lv_sub hl [0, 1, 2, 3, 4] rfl) hw
  have b116 : ∀ (k31 : (Nat → Int32) → (Nat → Int32) → (Nat → Int32) → (Nat → Int32) → (Nat → Int32) → (Nat → Int32) → Int32 → Int32 → Prop), (∀ (H : Heap) (locs : List Loc) (ls : Array Slot) (I_p0 : Nat → Int32) (f_p0_firstChild : Nat → Int32) (f_p0_lastNibble : Nat → Int32) (f_p0_nextSibling : Nat → Int32) (I_p4 : Nat → Int32) (f_p4_bytes : Nat → Int32) (x5 : Int32) (x6 : Int32), va_P (dC, dI) vwCl [oNe a_p0 A_p0 I_p0, gz cI (A_p0 0) 127 f_p0_firstChild, gz cI (A_p0 2) 127 f_p0_lastNibble, gz cI (A_p0 1) 127 f_p0_nextSibling, oDa a_p1 A_p1, gz cI (A_p1 0) 256 f_p1_bytes, oSt a_p4 A_p4 I_p4, gz cI (A_p4 0) 900 f_p4_bytes] H → va_D A [oNe a_p0 A_p0 I_p0, gz cI (A_p0 0) 127 f_p0_firstChild, gz cI (A_p0 2) 127 f_p0_lastNibble, gz cI (A_p0 1) 127 f_p0_nextSibling, oDa a_p1 A_p1, gz cI (A_p1 0) 256 f_p1_bytes, oSt a_p4 A_p4 I_p4, gz cI (A_p4 0) 900 f_p4_bytes] → va_S A s.heap H locs → lv_has ls 9 [(0, .ref a_p0), (1, .ref a_p1), (4, .ref a_p4), (5, .int x5), (6, .int x6)] → k31 I_p0 f_p0_firstChild f_p0_lastNibble f_p0_nextSibling I_p4 f_p4_bytes x5 x6 → W p l e ({ frames := 3, cells := 0, slots := 0, locals := 66 } : Room) s m args below meth c H locs 0 0 Q (F0 m 31 ls [])) → ∀ (k74 : (Nat → Int32) → (Nat → Int32) → (Nat → Int32) → (Nat → Int32) → (Nat → Int32) → (Nat → Int32) → Int32 → Int32 → Int32 → Int32 → Prop), (∀ (H : Heap) (locs : List Loc) (ls : Array Slot) (I_p0 : Nat → Int32) (f_p0_firstChild : Nat → Int32) (f_p0_lastNibble : Nat → Int32) (f_p0_nextSibling : Nat → Int32) (I_p4 : Nat → Int32) (f_p4_bytes : Nat → Int32) (x5 : Int32) (x6 : Int32) (x7 : Int32) (x8 : Int32), va_P (dC, dI) vwCl [oNe a_p0 A_p0 I_p0, gz cI (A_p0 0) 127 f_p0_firstChild, gz cI (A_p0 2) 127 f_p0_lastNibble, gz cI (A_p0 1) 127 f_p0_nextSibling, oDa a_p1 A_p1, gz cI (A_p1 0) 256 f_p1_bytes, oSt a_p4 A_p4 I_p4, gz cI (A_p4 0) 900 f_p4_bytes] H → va_D A [oNe a_p0 A_p0 I_p0, gz cI (A_p0 0) 127 f_p0_firstChild, gz cI (A_p0 2) 127 f_p0_lastNibble, gz cI (A_p0 1) 127 f_p0_nextSibling, oDa a_p1 A_p1, gz cI (A_p1 0) 256 f_p1_bytes, oSt a_p4 A_p4 I_p4, gz cI (A_p4 0) 900 f_p4_bytes] → va_S A s.heap H locs → lv_has ls 9 [(0, .ref a_p0), (1, .ref a_p1), (4, .ref a_p4), (5, .int x5), (6, .int x6), (7, .int x7), (8, .int x8)] → k74 I_p0 f_p0_firstChild f_p0_lastNibble f_p0_nextSibling I_p4 f_p4_bytes x5 x6 x7 x8 → W p l e ({ frames := 3, cells := 0, slots := 0, locals := 66 } : Room) s m args below meth c H locs 0 0 Q (F0 m 74 ls [])) → ∀ (H : Heap) (locs : List Loc) (ls : Array Slot) (I_p0 : Nat → Int32) (f_p0_firstChild : Nat → Int32) (f_p0_lastNibble : Nat → Int32) (f_p0_nextSibling : Nat → Int32) (I_p4 : Nat → Int32) (f_p4_bytes : Nat → Int32) (x5 : Int32) (x6 : Int32) (x7 : Int32) (s0 : Int32), va_P (dC, dI) vwCl [oNe a_p0 A_p0 I_p0, gz cI (A_p0 0) 127 f_p0_firstChild, gz cI (A_p0 2) 127 f_p0_lastNibble, gz cI (A_p0 1) 127 f_p0_nextSibling, oDa a_p1 A_p1, gz cI (A_p1 0) 256 f_p1_bytes, oSt a_p4 A_p4 I_p4, gz cI (A_p4 0) 900 f_p4_bytes] H → va_D A [oNe a_p0 A_p0 I_p0, gz cI (A_p0 0) 127 f_p0_firstChild, gz cI (A_p0 2) 127 f_p0_lastNibble, gz cI (A_p0 1) 127 f_p0_nextSibling, oDa a_p1 A_p1, gz cI (A_p1 0) 256 f_p1_bytes, oSt a_p4 A_p4 I_p4, gz cI (A_p4 0) 900 f_p4_bytes] → va_S A s.heap H locs → lv_has ls 9 [(0, .ref a_p0), (1, .ref a_p1), (4, .ref a_p4), (5, .int x5), (6, .int x6), (7, .int x7)] → wp_Ne_encode_b116 post k31 k74 f_p1_bytes I_p0 f_p0_firstChild f_p0_lastNibble f_p0_nextSibling I_p4 f_p4_bytes x5 x6 x7 s0 → W p l e ({ frames := 3, cells := 0, slots := 0, locals := 66 } : Room) s m args below meth c H locs 0 0 Q (F0 m 116 ls [.int s0]) := by
    intro k31 hk31 k74 hk74 H locs ls I_p0 f_p0_firstChild f_p0_lastNibble f_p0_nextSibling I_p4 f_p4_bytes x5 x6 x7 s0 hP hD hS hl hw
    unfold wp_Ne_encode_b116 at hw
    refine lv_istore (lv' := [(8, .int s0), (0, .ref a_p0), (1, .ref a_p1), (4, .ref a_p4), (5, .int x5), (6, .int x6), (7, .int x7)]) hx hb d_Ne_encode_116 hl (by decide) rfl (fun ls hl => ?_)
    refine lv_goto hx hb d_Ne_encode_118 rfl ?_
    exact hk74 _ _ _ I_p0 f_p0_firstChild f_p0_lastNibble f_p0_nextSibling I_p4 f_p4_bytes x5 x6 x7 s0 hP hD hS (lv_sub hl [1, 2, 3, 4, 5, 6, 0] rfl) hw
  have l74 : ∀ (k31 : (Nat → Int32) → (Nat → Int32) → (Nat → Int32) → (Nat → Int32) → (Nat → Int32) → (Nat → Int32) → Int32 → Int32 → Prop), (∀ (H : Heap) (locs : List Loc) (ls : Array Slot) (I_p0 : Nat → Int32) (f_p0_firstChild : Nat → Int32) (f_p0_lastNibble : Nat → Int32) (f_p0_nextSibling : Nat → Int32) (I_p4 : Nat → Int32) (f_p4_bytes : Nat → Int32) (x5 : Int32) (x6 : Int32), va_P (dC, dI) vwCl [oNe a_p0 A_p0 I_p0, gz cI (A_p0 0) 127 f_p0_firstChild, gz cI (A_p0 2) 127 f_p0_lastNibble, gz cI (A_p0 1) 127 f_p0_nextSibling, oDa a_p1 A_p1, gz cI (A_p1 0) 256 f_p1_bytes, oSt a_p4 A_p4 I_p4, gz cI (A_p4 0) 900 f_p4_bytes] H → va_D A [oNe a_p0 A_p0 I_p0, gz cI (A_p0 0) 127 f_p0_firstChild, gz cI (A_p0 2) 127 f_p0_lastNibble, gz cI (A_p0 1) 127 f_p0_nextSibling, oDa a_p1 A_p1, gz cI (A_p1 0) 256 f_p1_bytes, oSt a_p4 A_p4 I_p4, gz cI (A_p4 0) 900 f_p4_bytes] → va_S A s.heap H locs → lv_has ls 9 [(0, .ref a_p0), (1, .ref a_p1), (4, .ref a_p4), (5, .int x5), (6, .int x6)] → k31 I_p0 f_p0_firstChild f_p0_lastNibble f_p0_nextSibling I_p4 f_p4_bytes x5 x6 → W p l e ({ frames := 3, cells := 0, slots := 0, locals := 66 } : Room) s m args below meth c H locs 0 0 Q (F0 m 31 ls [])) → ∀ n : Nat, ∀ (H : Heap) (locs : List Loc) (ls : Array Slot) (I_p0 : Nat → Int32) (f_p0_firstChild : Nat → Int32) (f_p0_lastNibble : Nat → Int32) (f_p0_nextSibling : Nat → Int32) (I_p4 : Nat → Int32) (f_p4_bytes : Nat → Int32) (x5 : Int32) (x6 : Int32) (x7 : Int32) (x8 : Int32), va_P (dC, dI) vwCl [oNe a_p0 A_p0 I_p0, gz cI (A_p0 0) 127 f_p0_firstChild, gz cI (A_p0 2) 127 f_p0_lastNibble, gz cI (A_p0 1) 127 f_p0_nextSibling, oDa a_p1 A_p1, gz cI (A_p1 0) 256 f_p1_bytes, oSt a_p4 A_p4 I_p4, gz cI (A_p4 0) 900 f_p4_bytes] H → va_D A [oNe a_p0 A_p0 I_p0, gz cI (A_p0 0) 127 f_p0_firstChild, gz cI (A_p0 2) 127 f_p0_lastNibble, gz cI (A_p0 1) 127 f_p0_nextSibling, oDa a_p1 A_p1, gz cI (A_p1 0) 256 f_p1_bytes, oSt a_p4 A_p4 I_p4, gz cI (A_p4 0) 900 f_p4_bytes] → va_S A s.heap H locs → lv_has ls 9 [(0, .ref a_p0), (1, .ref a_p1), (4, .ref a_p4), (5, .int x5), (6, .int x6), (7, .int x7), (8, .int x8)] → wp_Ne_encode_l74 post k31 f_p1_bytes n I_p0 f_p0_firstChild f_p0_lastNibble f_p0_nextSibling I_p4 f_p4_bytes x5 x6 x7 x8 → W p l e ({ frames := 3, cells := 0, slots := 0, locals := 66 } : Room) s m args below meth c H locs 0 0 Q (F0 m 74 ls []) := by
    intro k31 hk31 n
    induction n with
    | zero => intro H locs ls I_p0 f_p0_firstChild f_p0_lastNibble f_p0_nextSibling I_p4 f_p4_bytes x5 x6 x7 x8 hP hD hS hl hw; exact hw.elim
    | succ n ih =>
      intro H locs ls I_p0 f_p0_firstChild f_p0_lastNibble f_p0_nextSibling I_p4 f_p4_bytes x5 x6 x7 x8 hP hD hS hl hw
      unfold wp_Ne_encode_l74 at hw
      refine lv_iload hx hb d_Ne_encode_74 (lv_at hl 6 rfl) ?_
      refine lv_if_eq hx hb d_Ne_encode_76 rfl (fun hc => ?_) (fun hc => ?_)
      · have hw := hw.1 hc
        exact b121 _ hk31 _ _ _ I_p0 f_p0_firstChild f_p0_lastNibble f_p0_nextSibling I_p4 f_p4_bytes x5 x6 x7 hP hD hS (lv_sub hl [0, 1, 2, 3, 4, 5] rfl) hw
      · have hw := hw.2 hc
        refine lv_iload hx hb d_Ne_encode_79 (lv_at hl 4 rfl) ?_
        refine lv_iload hx hb d_Ne_encode_81 (lv_at hl 3 rfl) ?_
        refine lv_icmp_ge hx hb d_Ne_encode_83 rfl (fun hc => ?_) (fun hc => ?_)
        · have hw := hw.1 hc
          exact b121 _ hk31 _ _ _ I_p0 f_p0_firstChild f_p0_lastNibble f_p0_nextSibling I_p4 f_p4_bytes x5 x6 x7 hP hD hS (lv_sub hl [0, 1, 2, 3, 4, 5] rfl) hw
        · have hw := hw.2 hc
          refine lv_iload hx hb d_Ne_encode_86 (lv_at hl 6 rfl) ?_
          refine lv_istore (lv' := [(7, .int x8), (0, .ref a_p0), (1, .ref a_p1), (4, .ref a_p4), (5, .int x5), (6, .int x6), (8, .int x8)]) hx hb d_Ne_encode_88 hl (by decide) rfl (fun ls hl => ?_)
          refine lv_iinc (k := 5) (v := (x6 + 1)) (lv' := [(6, .int (x6 + 1)), (7, .int x8), (0, .ref a_p0), (1, .ref a_p1), (4, .ref a_p4), (5, .int x5), (8, .int x8)]) hx hb d_Ne_encode_90 hl rfl (congrArg (fun z => x6 + z) (by decide : Int32.ofInt 1 = 1)) (by decide) rfl (fun ls hl => ?_)
          refine lv_iload hx hb d_Ne_encode_93 (lv_at hl 0 rfl) ?_
          refine lv_iload hx hb d_Ne_encode_95 (lv_at hl 5 rfl) ?_
          refine lv_icmp_ge hx hb d_Ne_encode_97 rfl (fun hc => ?_) (fun hc => ?_)
          · have hw := hw.1 hc
            refine lv_iconst (v := 0) hx hb d_Ne_encode_115 (by decide) ?_
            exact b116 _ hk31 _ ih _ _ _ I_p0 f_p0_firstChild f_p0_lastNibble f_p0_nextSibling I_p4 f_p4_bytes x5 (x6 + 1) x8 0 hP hD hS (lv_sub hl [2, 3, 4, 5, 0, 1] rfl) hw
          · have hw := hw.2 hc
            refine lv_aload_n hx hb d_Ne_encode_100 rfl (lv_at hl 2 rfl) ?_
            refine lv_iload hx hb d_Ne_encode_101 (lv_at hl 1 rfl) ?_
            refine lv_aload_n hx hb d_Ne_encode_103 rfl (lv_at hl 3 rfl) ?_
            refine lv_iload hx hb d_Ne_encode_104 (lv_at hl 0 rfl) ?_
            refine gc_i (wn := fun (_ : Unit) => [oNe a_p0 A_p0 I_p0, gz cI (A_p0 0) 127 f_p0_firstChild, gz cI (A_p0 2) 127 f_p0_lastNibble, gz cI (A_p0 1) 127 f_p0_nextSibling, oDa a_p1 A_p1, gz cI (A_p1 0) 256 f_p1_bytes, oSt a_p4 A_p4 I_p4, gz cI (A_p4 0) 900 f_p4_bytes]) (wr := [oNe a_p0 A_p0 I_p0, gz cI (A_p0 0) 127 f_p0_firstChild, gz cI (A_p0 2) 127 f_p0_lastNibble, gz cI (A_p0 1) 127 f_p0_nextSibling, oSt a_p4 A_p4 I_p4, gz cI (A_p4 0) 900 f_p4_bytes]) (gr_V (As := [.int (x6 + 1)]) (rest := [.int x8, .ref a_p0]) ⟨hx, hb, hml, hown, hg⟩ (c_Da_nibble l dC dI cI a_p1 A_p1 f_p1_bytes (x6 + 1) hw _) (cwV 1 hg (gg_V t_572 t_573 t_574 t_66 t_575) rfl rfl rfl (by decide +kernel) ⟨Nat.le_of_ble_eq_true rfl, Nat.le_of_ble_eq_true rfl⟩) hK hN hP hD [4, 5] (by decide) rfl 4 0 rfl rfl rfl rfl hl.1 rfl (Nat.le_of_ble_eq_true rfl) d_Ne_encode_106 ⟨Nat.le_of_ble_eq_true rfl, Nat.le_of_ble_eq_true rfl⟩) rfl rfl hP hD hS hA [4, 5] [0, 1, 2, 3, 6, 7] [0, 1, 2, 3, 6, 7, 4, 5] rfl rfl (by decide) (by decide) (by decide) (fun _ => rfl) ?_
            intro r106 _ H locs hw hP hD hS
            try dsimp only at hw
            have hP : va_P (dC, dI) vwCl [oNe a_p0 A_p0 I_p0, gz cI (A_p0 0) 127 f_p0_firstChild, gz cI (A_p0 2) 127 f_p0_lastNibble, gz cI (A_p0 1) 127 f_p0_nextSibling, oDa a_p1 A_p1, gz cI (A_p1 0) 256 f_p1_bytes, oSt a_p4 A_p4 I_p4, gz cI (A_p4 0) 900 f_p4_bytes] H := hP
            have hD : va_D A [oNe a_p0 A_p0 I_p0, gz cI (A_p0 0) 127 f_p0_firstChild, gz cI (A_p0 2) 127 f_p0_lastNibble, gz cI (A_p0 1) 127 f_p0_nextSibling, oDa a_p1 A_p1, gz cI (A_p1 0) 256 f_p1_bytes, oSt a_p4 A_p4 I_p4, gz cI (A_p4 0) 900 f_p4_bytes] := hD
            refine gc_i (wn := fun (_ : Unit) => [oNe a_p0 A_p0 I_p0, gz cI (A_p0 0) 127 f_p0_firstChild, gz cI (A_p0 2) 127 f_p0_lastNibble, gz cI (A_p0 1) 127 f_p0_nextSibling, oDa a_p1 A_p1, gz cI (A_p1 0) 256 f_p1_bytes, oSt a_p4 A_p4 I_p4, gz cI (A_p4 0) 900 f_p4_bytes]) (wr := [oDa a_p1 A_p1, gz cI (A_p1 0) 256 f_p1_bytes, oSt a_p4 A_p4 I_p4, gz cI (A_p4 0) 900 f_p4_bytes]) (gr_V (As := [.int x8, .int r106]) (rest := []) ⟨hx, hb, hml, hown, hg⟩ (c_Ne_child l dC dI cI a_p0 A_p0 I_p0 f_p0_firstChild f_p0_lastNibble f_p0_nextSibling x8 r106 hw _) (cwV 2 hg (gg_V t_576 t_578 t_8 t_67 t_579) rfl rfl rfl (by decide +kernel) ⟨Nat.le_of_ble_eq_true rfl, Nat.le_of_ble_eq_true rfl⟩) hK hN hP hD [0, 1, 2, 3] (by decide) rfl 0 5 rfl rfl rfl rfl hl.1 rfl (Nat.le_of_ble_eq_true rfl) d_Ne_encode_109 ⟨Nat.le_of_ble_eq_true rfl, Nat.le_of_ble_eq_true rfl⟩) rfl rfl hP hD hS hA [0, 1, 2, 3] [4, 5, 6, 7] [4, 5, 6, 7, 0, 1, 2, 3] rfl rfl (by decide) (by decide) (by decide) (fun _ => rfl) ?_
            intro r109 _ H locs hw hP hD hS
            try dsimp only at hw
            have hP : va_P (dC, dI) vwCl [oNe a_p0 A_p0 I_p0, gz cI (A_p0 0) 127 f_p0_firstChild, gz cI (A_p0 2) 127 f_p0_lastNibble, gz cI (A_p0 1) 127 f_p0_nextSibling, oDa a_p1 A_p1, gz cI (A_p1 0) 256 f_p1_bytes, oSt a_p4 A_p4 I_p4, gz cI (A_p4 0) 900 f_p4_bytes] H := hP
            have hD : va_D A [oNe a_p0 A_p0 I_p0, gz cI (A_p0 0) 127 f_p0_firstChild, gz cI (A_p0 2) 127 f_p0_lastNibble, gz cI (A_p0 1) 127 f_p0_nextSibling, oDa a_p1 A_p1, gz cI (A_p1 0) 256 f_p1_bytes, oSt a_p4 A_p4 I_p4, gz cI (A_p4 0) 900 f_p4_bytes] := hD
            refine lv_goto hx hb d_Ne_encode_112 rfl ?_
            exact b116 _ hk31 _ ih _ _ _ I_p0 f_p0_firstChild f_p0_lastNibble f_p0_nextSibling I_p4 f_p4_bytes x5 (x6 + 1) x8 r109 hP hD hS (lv_sub hl [2, 3, 4, 5, 0, 1] rfl) hw
  have b72 : ∀ (k31 : (Nat → Int32) → (Nat → Int32) → (Nat → Int32) → (Nat → Int32) → (Nat → Int32) → (Nat → Int32) → Int32 → Int32 → Prop), (∀ (H : Heap) (locs : List Loc) (ls : Array Slot) (I_p0 : Nat → Int32) (f_p0_firstChild : Nat → Int32) (f_p0_lastNibble : Nat → Int32) (f_p0_nextSibling : Nat → Int32) (I_p4 : Nat → Int32) (f_p4_bytes : Nat → Int32) (x5 : Int32) (x6 : Int32), va_P (dC, dI) vwCl [oNe a_p0 A_p0 I_p0, gz cI (A_p0 0) 127 f_p0_firstChild, gz cI (A_p0 2) 127 f_p0_lastNibble, gz cI (A_p0 1) 127 f_p0_nextSibling, oDa a_p1 A_p1, gz cI (A_p1 0) 256 f_p1_bytes, oSt a_p4 A_p4 I_p4, gz cI (A_p4 0) 900 f_p4_bytes] H → va_D A [oNe a_p0 A_p0 I_p0, gz cI (A_p0 0) 127 f_p0_firstChild, gz cI (A_p0 2) 127 f_p0_lastNibble, gz cI (A_p0 1) 127 f_p0_nextSibling, oDa a_p1 A_p1, gz cI (A_p1 0) 256 f_p1_bytes, oSt a_p4 A_p4 I_p4, gz cI (A_p4 0) 900 f_p4_bytes] → va_S A s.heap H locs → lv_has ls 9 [(0, .ref a_p0), (1, .ref a_p1), (4, .ref a_p4), (5, .int x5), (6, .int x6)] → k31 I_p0 f_p0_firstChild f_p0_lastNibble f_p0_nextSibling I_p4 f_p4_bytes x5 x6 → W p l e ({ frames := 3, cells := 0, slots := 0, locals := 66 } : Room) s m args below meth c H locs 0 0 Q (F0 m 31 ls [])) → ∀ (H : Heap) (locs : List Loc) (ls : Array Slot) (I_p0 : Nat → Int32) (f_p0_firstChild : Nat → Int32) (f_p0_lastNibble : Nat → Int32) (f_p0_nextSibling : Nat → Int32) (I_p4 : Nat → Int32) (f_p4_bytes : Nat → Int32) (x5 : Int32) (x6 : Int32) (x7 : Int32) (s0 : Int32), va_P (dC, dI) vwCl [oNe a_p0 A_p0 I_p0, gz cI (A_p0 0) 127 f_p0_firstChild, gz cI (A_p0 2) 127 f_p0_lastNibble, gz cI (A_p0 1) 127 f_p0_nextSibling, oDa a_p1 A_p1, gz cI (A_p1 0) 256 f_p1_bytes, oSt a_p4 A_p4 I_p4, gz cI (A_p4 0) 900 f_p4_bytes] H → va_D A [oNe a_p0 A_p0 I_p0, gz cI (A_p0 0) 127 f_p0_firstChild, gz cI (A_p0 2) 127 f_p0_lastNibble, gz cI (A_p0 1) 127 f_p0_nextSibling, oDa a_p1 A_p1, gz cI (A_p1 0) 256 f_p1_bytes, oSt a_p4 A_p4 I_p4, gz cI (A_p4 0) 900 f_p4_bytes] → va_S A s.heap H locs → lv_has ls 9 [(0, .ref a_p0), (1, .ref a_p1), (4, .ref a_p4), (5, .int x5), (6, .int x6), (7, .int x7)] → wp_Ne_encode_b72 post k31 f_p1_bytes I_p0 f_p0_firstChild f_p0_lastNibble f_p0_nextSibling I_p4 f_p4_bytes x5 x6 x7 s0 → W p l e ({ frames := 3, cells := 0, slots := 0, locals := 66 } : Room) s m args below meth c H locs 0 0 Q (F0 m 72 ls [.int s0]) := by
    intro k31 hk31 H locs ls I_p0 f_p0_firstChild f_p0_lastNibble f_p0_nextSibling I_p4 f_p4_bytes x5 x6 x7 s0 hP hD hS hl hw
    unfold wp_Ne_encode_b72 at hw
    refine lv_istore (lv' := [(8, .int s0), (0, .ref a_p0), (1, .ref a_p1), (4, .ref a_p4), (5, .int x5), (6, .int x6), (7, .int x7)]) hx hb d_Ne_encode_72 hl (by decide) rfl (fun ls hl => ?_)
    obtain ⟨n1, hw⟩ := hw
    exact l74 _ hk31 n1 _ _ _ I_p0 f_p0_firstChild f_p0_lastNibble f_p0_nextSibling I_p4 f_p4_bytes x5 x6 x7 s0 hP hD hS (lv_sub hl [1, 2, 3, 4, 5, 6, 0] rfl) hw
  have l31 : ∀ n : Nat, ∀ (H : Heap) (locs : List Loc) (ls : Array Slot) (I_p0 : Nat → Int32) (f_p0_firstChild : Nat → Int32) (f_p0_lastNibble : Nat → Int32) (f_p0_nextSibling : Nat → Int32) (I_p4 : Nat → Int32) (f_p4_bytes : Nat → Int32) (x5 : Int32) (x6 : Int32), va_P (dC, dI) vwCl [oNe a_p0 A_p0 I_p0, gz cI (A_p0 0) 127 f_p0_firstChild, gz cI (A_p0 2) 127 f_p0_lastNibble, gz cI (A_p0 1) 127 f_p0_nextSibling, oDa a_p1 A_p1, gz cI (A_p1 0) 256 f_p1_bytes, oSt a_p4 A_p4 I_p4, gz cI (A_p4 0) 900 f_p4_bytes] H → va_D A [oNe a_p0 A_p0 I_p0, gz cI (A_p0 0) 127 f_p0_firstChild, gz cI (A_p0 2) 127 f_p0_lastNibble, gz cI (A_p0 1) 127 f_p0_nextSibling, oDa a_p1 A_p1, gz cI (A_p1 0) 256 f_p1_bytes, oSt a_p4 A_p4 I_p4, gz cI (A_p4 0) 900 f_p4_bytes] → va_S A s.heap H locs → lv_has ls 9 [(0, .ref a_p0), (1, .ref a_p1), (4, .ref a_p4), (5, .int x5), (6, .int x6)] → wp_Ne_encode_l31 post f_p1_bytes n I_p0 f_p0_firstChild f_p0_lastNibble f_p0_nextSibling I_p4 f_p4_bytes x5 x6 → W p l e ({ frames := 3, cells := 0, slots := 0, locals := 66 } : Room) s m args below meth c H locs 0 0 Q (F0 m 31 ls []) := by
    intro n
    induction n with
    | zero => intro H locs ls I_p0 f_p0_firstChild f_p0_lastNibble f_p0_nextSibling I_p4 f_p4_bytes x5 x6 hP hD hS hl hw; exact hw.elim
    | succ n ih =>
      intro H locs ls I_p0 f_p0_firstChild f_p0_lastNibble f_p0_nextSibling I_p4 f_p4_bytes x5 x6 hP hD hS hl hw
      unfold wp_Ne_encode_l31 at hw
      refine lv_iload hx hb d_Ne_encode_31 (lv_at hl 4 rfl) ?_
      refine lv_iload hx hb d_Ne_encode_33 (lv_at hl 3 rfl) ?_
      refine lv_icmp_ge hx hb d_Ne_encode_35 rfl (fun hc => ?_) (fun hc => ?_)
      · have hw := hw.1 hc
        refine lv_aload_n hx hb d_Ne_encode_186 rfl (lv_at hl 0 rfl) ?_
        refine lv_bipush (v := 17) hx hb d_Ne_encode_187 (by decide) ?_
        refine lv_aload hx hb d_Ne_encode_189 (lv_at hl 2 rfl) ?_
        refine gc_v (wn := fun u => [oNe a_p0 A_p0 u.1, gz cI (A_p0 0) 127 f_p0_firstChild, gz cI (A_p0 2) 127 f_p0_lastNibble, gz cI (A_p0 1) 127 f_p0_nextSibling, oDa a_p1 A_p1, gz cI (A_p1 0) 256 f_p1_bytes, oSt a_p4 A_p4 u.2.1, gz cI (A_p4 0) 900 u.2.2]) (wr := [gz cI (A_p0 0) 127 f_p0_firstChild, gz cI (A_p0 2) 127 f_p0_lastNibble, gz cI (A_p0 1) 127 f_p0_nextSibling, oDa a_p1 A_p1, gz cI (A_p1 0) 256 f_p1_bytes]) (gr_V (As := [.int 17, .ref a_p4]) (rest := []) ⟨hx, hb, hml, hown, hg⟩ (c_Ne_emit l dC dI cI a_p0 a_p4 A_p0 A_p4 I_p0 I_p4 f_p4_bytes 17 hw _) (cwV 2 hg (gg_V t_564 t_566 t_7 t_67 t_567) rfl rfl rfl (by decide +kernel) ⟨Nat.le_of_ble_eq_true rfl, Nat.le_of_ble_eq_true rfl⟩) hK hN hP hD [0, 6, 7] (by decide) rfl 0 5 rfl rfl rfl rfl hl.1 rfl (Nat.le_of_ble_eq_true rfl) d_Ne_encode_191 ⟨Nat.le_of_ble_eq_true rfl, Nat.le_of_ble_eq_true rfl⟩) rfl rfl hP hD hS hA [0, 6, 7] [1, 2, 3, 4, 5] [5, 0, 1, 2, 3, 4, 6, 7] rfl rfl (by decide) (by decide) (by decide) (fun _ => rfl) ?_
        intro u9 H locs hw hP hD hS
        obtain ⟨I_p0_191, I_p4_191, f_p4_bytes_191⟩ := u9
        try dsimp only at hw
        have hP : va_P (dC, dI) vwCl [oNe a_p0 A_p0 I_p0_191, gz cI (A_p0 0) 127 f_p0_firstChild, gz cI (A_p0 2) 127 f_p0_lastNibble, gz cI (A_p0 1) 127 f_p0_nextSibling, oDa a_p1 A_p1, gz cI (A_p1 0) 256 f_p1_bytes, oSt a_p4 A_p4 I_p4_191, gz cI (A_p4 0) 900 f_p4_bytes_191] H := hP
        have hD : va_D A [oNe a_p0 A_p0 I_p0_191, gz cI (A_p0 0) 127 f_p0_firstChild, gz cI (A_p0 2) 127 f_p0_lastNibble, gz cI (A_p0 1) 127 f_p0_nextSibling, oDa a_p1 A_p1, gz cI (A_p1 0) 256 f_p1_bytes, oSt a_p4 A_p4 I_p4_191, gz cI (A_p4 0) 900 f_p4_bytes_191] := hD
        refine lv_aload_n hx hb d_Ne_encode_194 rfl (lv_at hl 0 rfl) ?_
        refine va_get (D := (dC, dI)) (ci := 5) (v := .int (I_p0_191 5)) (C := R_Ne) (T := T_Ne) (N := 6) hx hb hg in_Ne hown hK hP 0 rfl rfl 5 (by decide) (hg _ t_229) (fun _ h9 => h9) rfl d_Ne_encode_195 ?_
        refine lv_if_le hx hb d_Ne_encode_198 rfl (fun hc => ?_) (fun hc => ?_)
        · have hw := hw.1 hc
          exact hret _ _ _ _ (I_p0_191, f_p0_firstChild, f_p0_lastNibble, f_p0_nextSibling, I_p4_191, f_p4_bytes_191) d_Ne_encode_222 hP hD hS hw
        · have hw := hw.2 hc
          refine lv_aload hx hb d_Ne_encode_201 (lv_at hl 2 rfl) ?_
          refine lv_aload_n hx hb d_Ne_encode_203 rfl (lv_at hl 0 rfl) ?_
          refine va_get (D := (dC, dI)) (ci := 5) (v := .int (I_p0_191 4)) (C := R_Ne) (T := T_Ne) (N := 6) hx hb hg in_Ne hown hK hP 0 rfl rfl 4 (by decide) (hg _ t_228) (fun _ h9 => h9) rfl d_Ne_encode_204 ?_
          refine lv_bipush (v := 8) hx hb d_Ne_encode_207 (by decide) ?_
          refine lv_aload_n hx hb d_Ne_encode_209 rfl (lv_at hl 0 rfl) ?_
          refine va_get (D := (dC, dI)) (ci := 5) (v := .int (I_p0_191 5)) (C := R_Ne) (T := T_Ne) (N := 6) hx hb hg in_Ne hown hK hP 0 rfl rfl 5 (by decide) (hg _ t_229) (fun _ h9 => h9) rfl d_Ne_encode_210 ?_
          refine lv_isub hx hb d_Ne_encode_213 ?_
          refine lv_ishl hx hb d_Ne_encode_214 ?_
          refine lv_sipush (v := 255) hx hb d_Ne_encode_215 (by decide) ?_
          refine lv_iand hx hb d_Ne_encode_218 ?_
          refine gc_v (wn := fun u => [oNe a_p0 A_p0 I_p0_191, gz cI (A_p0 0) 127 f_p0_firstChild, gz cI (A_p0 2) 127 f_p0_lastNibble, gz cI (A_p0 1) 127 f_p0_nextSibling, oDa a_p1 A_p1, gz cI (A_p1 0) 256 f_p1_bytes, oSt a_p4 A_p4 u.1, gz cI (A_p4 0) 900 u.2]) (wr := [oNe a_p0 A_p0 I_p0_191, gz cI (A_p0 0) 127 f_p0_firstChild, gz cI (A_p0 2) 127 f_p0_lastNibble, gz cI (A_p0 1) 127 f_p0_nextSibling, oDa a_p1 A_p1, gz cI (A_p1 0) 256 f_p1_bytes]) (gr_V (As := [.int (((I_p0_191 4) <<< ((8 - (I_p0_191 5)) &&& 31)) &&& 255)]) (rest := []) ⟨hx, hb, hml, hown, hg⟩ (c_St_append l dC dI cI a_p4 A_p4 I_p4_191 f_p4_bytes_191 (((I_p0_191 4) <<< ((8 - (I_p0_191 5)) &&& 31)) &&& 255) hw _) (cwV 1 hg (gg_V t_571 t_285 t_286 t_61 t_287) rfl rfl rfl (by decide +kernel) ⟨Nat.le_of_ble_eq_true rfl, Nat.le_of_ble_eq_true rfl⟩) hK hN hP hD [6, 7] (by decide) rfl 6 7 rfl rfl rfl rfl hl.1 rfl (Nat.le_of_ble_eq_true rfl) d_Ne_encode_219 ⟨Nat.le_of_ble_eq_true rfl, Nat.le_of_ble_eq_true rfl⟩) rfl rfl hP hD hS hA [6, 7] [0, 1, 2, 3, 4, 5] [0, 1, 2, 3, 4, 5, 6, 7] rfl rfl (by decide) (by decide) (by decide) (fun _ => rfl) ?_
          intro u9 H locs hw hP hD hS
          obtain ⟨I_p4_219, f_p4_bytes_219⟩ := u9
          try dsimp only at hw
          have hP : va_P (dC, dI) vwCl [oNe a_p0 A_p0 I_p0_191, gz cI (A_p0 0) 127 f_p0_firstChild, gz cI (A_p0 2) 127 f_p0_lastNibble, gz cI (A_p0 1) 127 f_p0_nextSibling, oDa a_p1 A_p1, gz cI (A_p1 0) 256 f_p1_bytes, oSt a_p4 A_p4 I_p4_219, gz cI (A_p4 0) 900 f_p4_bytes_219] H := hP
          have hD : va_D A [oNe a_p0 A_p0 I_p0_191, gz cI (A_p0 0) 127 f_p0_firstChild, gz cI (A_p0 2) 127 f_p0_lastNibble, gz cI (A_p0 1) 127 f_p0_nextSibling, oDa a_p1 A_p1, gz cI (A_p1 0) 256 f_p1_bytes, oSt a_p4 A_p4 I_p4_219, gz cI (A_p4 0) 900 f_p4_bytes_219] := hD
          exact hret _ _ _ _ (I_p0_191, f_p0_firstChild, f_p0_lastNibble, f_p0_nextSibling, I_p4_219, f_p4_bytes_219) d_Ne_encode_222 hP hD hS hw
      · have hw := hw.2 hc
        refine lv_aload_n hx hb d_Ne_encode_38 rfl (lv_at hl 1 rfl) ?_
        refine lv_iload hx hb d_Ne_encode_39 (lv_at hl 4 rfl) ?_
        refine gc_i (wn := fun (_ : Unit) => [oNe a_p0 A_p0 I_p0, gz cI (A_p0 0) 127 f_p0_firstChild, gz cI (A_p0 2) 127 f_p0_lastNibble, gz cI (A_p0 1) 127 f_p0_nextSibling, oDa a_p1 A_p1, gz cI (A_p1 0) 256 f_p1_bytes, oSt a_p4 A_p4 I_p4, gz cI (A_p4 0) 900 f_p4_bytes]) (wr := [oNe a_p0 A_p0 I_p0, gz cI (A_p0 0) 127 f_p0_firstChild, gz cI (A_p0 2) 127 f_p0_lastNibble, gz cI (A_p0 1) 127 f_p0_nextSibling, oSt a_p4 A_p4 I_p4, gz cI (A_p4 0) 900 f_p4_bytes]) (gr_V (As := [.int x6]) (rest := []) ⟨hx, hb, hml, hown, hg⟩ (c_Da_nibble l dC dI cI a_p1 A_p1 f_p1_bytes x6 hw _) (cwV 1 hg (gg_V t_572 t_573 t_574 t_66 t_575) rfl rfl rfl (by decide +kernel) ⟨Nat.le_of_ble_eq_true rfl, Nat.le_of_ble_eq_true rfl⟩) hK hN hP hD [4, 5] (by decide) rfl 4 0 rfl rfl rfl rfl hl.1 rfl (Nat.le_of_ble_eq_true rfl) d_Ne_encode_41 ⟨Nat.le_of_ble_eq_true rfl, Nat.le_of_ble_eq_true rfl⟩) rfl rfl hP hD hS hA [4, 5] [0, 1, 2, 3, 6, 7] [0, 1, 2, 3, 6, 7, 4, 5] rfl rfl (by decide) (by decide) (by decide) (fun _ => rfl) ?_
        intro r41 _ H locs hw hP hD hS
        try dsimp only at hw
        have hP : va_P (dC, dI) vwCl [oNe a_p0 A_p0 I_p0, gz cI (A_p0 0) 127 f_p0_firstChild, gz cI (A_p0 2) 127 f_p0_lastNibble, gz cI (A_p0 1) 127 f_p0_nextSibling, oDa a_p1 A_p1, gz cI (A_p1 0) 256 f_p1_bytes, oSt a_p4 A_p4 I_p4, gz cI (A_p4 0) 900 f_p4_bytes] H := hP
        have hD : va_D A [oNe a_p0 A_p0 I_p0, gz cI (A_p0 0) 127 f_p0_firstChild, gz cI (A_p0 2) 127 f_p0_lastNibble, gz cI (A_p0 1) 127 f_p0_nextSibling, oDa a_p1 A_p1, gz cI (A_p1 0) 256 f_p1_bytes, oSt a_p4 A_p4 I_p4, gz cI (A_p4 0) 900 f_p4_bytes] := hD
        refine lv_istore (lv' := [(7, .int r41), (0, .ref a_p0), (1, .ref a_p1), (4, .ref a_p4), (5, .int x5), (6, .int x6)]) hx hb d_Ne_encode_44 hl (by decide) rfl (fun ls hl => ?_)
        refine lv_iinc (k := 5) (v := (x6 + 1)) (lv' := [(6, .int (x6 + 1)), (7, .int r41), (0, .ref a_p0), (1, .ref a_p1), (4, .ref a_p4), (5, .int x5)]) hx hb d_Ne_encode_46 hl rfl (congrArg (fun z => x6 + z) (by decide : Int32.ofInt 1 = 1)) (by decide) rfl (fun ls hl => ?_)
        refine lv_iload hx hb d_Ne_encode_49 (lv_at hl 0 rfl) ?_
        refine lv_iload hx hb d_Ne_encode_51 (lv_at hl 5 rfl) ?_
        refine lv_icmp_ge hx hb d_Ne_encode_53 rfl (fun hc => ?_) (fun hc => ?_)
        · have hw := hw.1 hc
          refine lv_iconst (v := 0) hx hb d_Ne_encode_71 (by decide) ?_
          exact b72 _ ih _ _ _ I_p0 f_p0_firstChild f_p0_lastNibble f_p0_nextSibling I_p4 f_p4_bytes x5 (x6 + 1) r41 0 hP hD hS (lv_sub hl [2, 3, 4, 5, 0, 1] rfl) hw
        · have hw := hw.2 hc
          refine lv_aload_n hx hb d_Ne_encode_56 rfl (lv_at hl 2 rfl) ?_
          refine lv_iload hx hb d_Ne_encode_57 (lv_at hl 1 rfl) ?_
          refine lv_aload_n hx hb d_Ne_encode_59 rfl (lv_at hl 3 rfl) ?_
          refine lv_iload hx hb d_Ne_encode_60 (lv_at hl 0 rfl) ?_
          refine gc_i (wn := fun (_ : Unit) => [oNe a_p0 A_p0 I_p0, gz cI (A_p0 0) 127 f_p0_firstChild, gz cI (A_p0 2) 127 f_p0_lastNibble, gz cI (A_p0 1) 127 f_p0_nextSibling, oDa a_p1 A_p1, gz cI (A_p1 0) 256 f_p1_bytes, oSt a_p4 A_p4 I_p4, gz cI (A_p4 0) 900 f_p4_bytes]) (wr := [oNe a_p0 A_p0 I_p0, gz cI (A_p0 0) 127 f_p0_firstChild, gz cI (A_p0 2) 127 f_p0_lastNibble, gz cI (A_p0 1) 127 f_p0_nextSibling, oSt a_p4 A_p4 I_p4, gz cI (A_p4 0) 900 f_p4_bytes]) (gr_V (As := [.int (x6 + 1)]) (rest := [.int r41, .ref a_p0]) ⟨hx, hb, hml, hown, hg⟩ (c_Da_nibble l dC dI cI a_p1 A_p1 f_p1_bytes (x6 + 1) hw _) (cwV 1 hg (gg_V t_572 t_573 t_574 t_66 t_575) rfl rfl rfl (by decide +kernel) ⟨Nat.le_of_ble_eq_true rfl, Nat.le_of_ble_eq_true rfl⟩) hK hN hP hD [4, 5] (by decide) rfl 4 0 rfl rfl rfl rfl hl.1 rfl (Nat.le_of_ble_eq_true rfl) d_Ne_encode_62 ⟨Nat.le_of_ble_eq_true rfl, Nat.le_of_ble_eq_true rfl⟩) rfl rfl hP hD hS hA [4, 5] [0, 1, 2, 3, 6, 7] [0, 1, 2, 3, 6, 7, 4, 5] rfl rfl (by decide) (by decide) (by decide) (fun _ => rfl) ?_
          intro r62 _ H locs hw hP hD hS
          try dsimp only at hw
          have hP : va_P (dC, dI) vwCl [oNe a_p0 A_p0 I_p0, gz cI (A_p0 0) 127 f_p0_firstChild, gz cI (A_p0 2) 127 f_p0_lastNibble, gz cI (A_p0 1) 127 f_p0_nextSibling, oDa a_p1 A_p1, gz cI (A_p1 0) 256 f_p1_bytes, oSt a_p4 A_p4 I_p4, gz cI (A_p4 0) 900 f_p4_bytes] H := hP
          have hD : va_D A [oNe a_p0 A_p0 I_p0, gz cI (A_p0 0) 127 f_p0_firstChild, gz cI (A_p0 2) 127 f_p0_lastNibble, gz cI (A_p0 1) 127 f_p0_nextSibling, oDa a_p1 A_p1, gz cI (A_p1 0) 256 f_p1_bytes, oSt a_p4 A_p4 I_p4, gz cI (A_p4 0) 900 f_p4_bytes] := hD
          refine gc_i (wn := fun (_ : Unit) => [oNe a_p0 A_p0 I_p0, gz cI (A_p0 0) 127 f_p0_firstChild, gz cI (A_p0 2) 127 f_p0_lastNibble, gz cI (A_p0 1) 127 f_p0_nextSibling, oDa a_p1 A_p1, gz cI (A_p1 0) 256 f_p1_bytes, oSt a_p4 A_p4 I_p4, gz cI (A_p4 0) 900 f_p4_bytes]) (wr := [oDa a_p1 A_p1, gz cI (A_p1 0) 256 f_p1_bytes, oSt a_p4 A_p4 I_p4, gz cI (A_p4 0) 900 f_p4_bytes]) (gr_V (As := [.int r41, .int r62]) (rest := []) ⟨hx, hb, hml, hown, hg⟩ (c_Ne_child l dC dI cI a_p0 A_p0 I_p0 f_p0_firstChild f_p0_lastNibble f_p0_nextSibling r41 r62 hw _) (cwV 2 hg (gg_V t_576 t_578 t_8 t_67 t_579) rfl rfl rfl (by decide +kernel) ⟨Nat.le_of_ble_eq_true rfl, Nat.le_of_ble_eq_true rfl⟩) hK hN hP hD [0, 1, 2, 3] (by decide) rfl 0 5 rfl rfl rfl rfl hl.1 rfl (Nat.le_of_ble_eq_true rfl) d_Ne_encode_65 ⟨Nat.le_of_ble_eq_true rfl, Nat.le_of_ble_eq_true rfl⟩) rfl rfl hP hD hS hA [0, 1, 2, 3] [4, 5, 6, 7] [4, 5, 6, 7, 0, 1, 2, 3] rfl rfl (by decide) (by decide) (by decide) (fun _ => rfl) ?_
          intro r65 _ H locs hw hP hD hS
          try dsimp only at hw
          have hP : va_P (dC, dI) vwCl [oNe a_p0 A_p0 I_p0, gz cI (A_p0 0) 127 f_p0_firstChild, gz cI (A_p0 2) 127 f_p0_lastNibble, gz cI (A_p0 1) 127 f_p0_nextSibling, oDa a_p1 A_p1, gz cI (A_p1 0) 256 f_p1_bytes, oSt a_p4 A_p4 I_p4, gz cI (A_p4 0) 900 f_p4_bytes] H := hP
          have hD : va_D A [oNe a_p0 A_p0 I_p0, gz cI (A_p0 0) 127 f_p0_firstChild, gz cI (A_p0 2) 127 f_p0_lastNibble, gz cI (A_p0 1) 127 f_p0_nextSibling, oDa a_p1 A_p1, gz cI (A_p1 0) 256 f_p1_bytes, oSt a_p4 A_p4 I_p4, gz cI (A_p4 0) 900 f_p4_bytes] := hD
          refine lv_goto hx hb d_Ne_encode_68 rfl ?_
          exact b72 _ ih _ _ _ I_p0 f_p0_firstChild f_p0_lastNibble f_p0_nextSibling I_p4 f_p4_bytes x5 (x6 + 1) r41 r65 hP hD hS (lv_sub hl [2, 3, 4, 5, 0, 1] rfl) hw
  intro ls hl hP hD hS
  have hl : lv_has ls 9 [(0, .ref a_p0), (1, .ref a_p1), (2, .int x2), (3, .int x3), (4, .ref a_p4)] := hl
  unfold wp_Ne_encode at hw
  refine lv_iconst (v := 2) hx hb d_Ne_encode_0 (by decide) ?_
  refine lv_iload_n hx hb d_Ne_encode_1 rfl (lv_at hl 3 rfl) ?_
  refine lv_imul hx hb d_Ne_encode_2 ?_
  refine lv_istore (lv' := [(5, .int (2 * x3)), (0, .ref a_p0), (1, .ref a_p1), (2, .int x2), (3, .int x3), (4, .ref a_p4)]) hx hb d_Ne_encode_3 hl (by decide) rfl (fun ls hl => ?_)
  refine lv_iconst (v := 2) hx hb d_Ne_encode_5 (by decide) ?_
  refine lv_iload_n hx hb d_Ne_encode_6 rfl (lv_at hl 3 rfl) ?_
  refine lv_imul hx hb d_Ne_encode_7 ?_
  refine lv_istore (lv' := [(6, .int (2 * x2)), (5, .int (2 * x3)), (0, .ref a_p0), (1, .ref a_p1), (2, .int x2), (3, .int x3), (4, .ref a_p4)]) hx hb d_Ne_encode_8 hl (by decide) rfl (fun ls hl => ?_)
  refine lv_aload_n hx hb d_Ne_encode_10 rfl (lv_at hl 2 rfl) ?_
  refine lv_iconst (v := 0) hx hb d_Ne_encode_11 (by decide) ?_
  refine va_put (D := (dC, dI)) (ci := 5) (v := .int 0) (ty := .int) (C := R_Ne) (T := T_Ne) (N := 6) hx hb hg in_Ne t_Ne tok_Ne nok_Ne hown hK hP hD hS 0 rfl rfl 4 (by decide) (hg _ t_228) (fun _ h9 => h9) rfl (by decide +kernel) rfl rfl (Nat.le_of_ble_eq_true rfl) d_Ne_encode_12 (fun H locs hP hD hS => ?_)
  have hP : va_P (dC, dI) vwCl [oNe a_p0 A_p0 (upd I_p0 4 0), gz cI (A_p0 0) 127 f_p0_firstChild, gz cI (A_p0 2) 127 f_p0_lastNibble, gz cI (A_p0 1) 127 f_p0_nextSibling, oDa a_p1 A_p1, gz cI (A_p1 0) 256 f_p1_bytes, oSt a_p4 A_p4 I_p4, gz cI (A_p4 0) 900 f_p4_bytes] H := hP
  have hD : va_D A [oNe a_p0 A_p0 (upd I_p0 4 0), gz cI (A_p0 0) 127 f_p0_firstChild, gz cI (A_p0 2) 127 f_p0_lastNibble, gz cI (A_p0 1) 127 f_p0_nextSibling, oDa a_p1 A_p1, gz cI (A_p1 0) 256 f_p1_bytes, oSt a_p4 A_p4 I_p4, gz cI (A_p4 0) 900 f_p4_bytes] := hD
  refine lv_aload_n hx hb d_Ne_encode_15 rfl (lv_at hl 2 rfl) ?_
  refine lv_iconst (v := 0) hx hb d_Ne_encode_16 (by decide) ?_
  refine va_put (D := (dC, dI)) (ci := 5) (v := .int 0) (ty := .int) (C := R_Ne) (T := T_Ne) (N := 6) hx hb hg in_Ne t_Ne tok_Ne nok_Ne hown hK hP hD hS 0 rfl rfl 5 (by decide) (hg _ t_229) (fun _ h9 => h9) rfl (by decide +kernel) rfl rfl (Nat.le_of_ble_eq_true rfl) d_Ne_encode_17 (fun H locs hP hD hS => ?_)
  have hP : va_P (dC, dI) vwCl [oNe a_p0 A_p0 (upd (upd I_p0 4 0) 5 0), gz cI (A_p0 0) 127 f_p0_firstChild, gz cI (A_p0 2) 127 f_p0_lastNibble, gz cI (A_p0 1) 127 f_p0_nextSibling, oDa a_p1 A_p1, gz cI (A_p1 0) 256 f_p1_bytes, oSt a_p4 A_p4 I_p4, gz cI (A_p4 0) 900 f_p4_bytes] H := hP
  have hD : va_D A [oNe a_p0 A_p0 (upd (upd I_p0 4 0) 5 0), gz cI (A_p0 0) 127 f_p0_firstChild, gz cI (A_p0 2) 127 f_p0_lastNibble, gz cI (A_p0 1) 127 f_p0_nextSibling, oDa a_p1 A_p1, gz cI (A_p1 0) 256 f_p1_bytes, oSt a_p4 A_p4 I_p4, gz cI (A_p4 0) 900 f_p4_bytes] := hD
  refine lv_aload_n hx hb d_Ne_encode_20 rfl (lv_at hl 2 rfl) ?_
  refine lv_iconst (v := 0) hx hb d_Ne_encode_21 (by decide) ?_
  refine va_put (D := (dC, dI)) (ci := 5) (v := .int 0) (ty := .int) (C := R_Ne) (T := T_Ne) (N := 6) hx hb hg in_Ne t_Ne tok_Ne nok_Ne hown hK hP hD hS 0 rfl rfl 3 (by decide) (hg _ t_227) (fun _ h9 => h9) rfl (by decide +kernel) rfl rfl (Nat.le_of_ble_eq_true rfl) d_Ne_encode_22 (fun H locs hP hD hS => ?_)
  have hP : va_P (dC, dI) vwCl [oNe a_p0 A_p0 (upd (upd (upd I_p0 4 0) 5 0) 3 0), gz cI (A_p0 0) 127 f_p0_firstChild, gz cI (A_p0 2) 127 f_p0_lastNibble, gz cI (A_p0 1) 127 f_p0_nextSibling, oDa a_p1 A_p1, gz cI (A_p1 0) 256 f_p1_bytes, oSt a_p4 A_p4 I_p4, gz cI (A_p4 0) 900 f_p4_bytes] H := hP
  have hD : va_D A [oNe a_p0 A_p0 (upd (upd (upd I_p0 4 0) 5 0) 3 0), gz cI (A_p0 0) 127 f_p0_firstChild, gz cI (A_p0 2) 127 f_p0_lastNibble, gz cI (A_p0 1) 127 f_p0_nextSibling, oDa a_p1 A_p1, gz cI (A_p1 0) 256 f_p1_bytes, oSt a_p4 A_p4 I_p4, gz cI (A_p4 0) 900 f_p4_bytes] := hD
  refine lv_aload_n hx hb d_Ne_encode_25 rfl (lv_at hl 2 rfl) ?_
  refine lv_aload hx hb d_Ne_encode_26 (lv_at hl 6 rfl) ?_
  refine gc_v (wn := fun u => [oNe a_p0 A_p0 u.1, gz cI (A_p0 0) 127 u.2.1, gz cI (A_p0 2) 127 f_p0_lastNibble, gz cI (A_p0 1) 127 f_p0_nextSibling, oDa a_p1 A_p1, gz cI (A_p1 0) 256 f_p1_bytes, oSt a_p4 A_p4 u.2.2.1, gz cI (A_p4 0) 900 u.2.2.2]) (wr := [gz cI (A_p0 2) 127 f_p0_lastNibble, gz cI (A_p0 1) 127 f_p0_nextSibling, oDa a_p1 A_p1, gz cI (A_p1 0) 256 f_p1_bytes]) (gr_V (As := [.ref a_p4]) (rest := []) ⟨hx, hb, hml, hown, hg⟩ (c_Ne_restartTable l dC dI cI a_p0 a_p4 A_p0 A_p4 (upd (upd (upd I_p0 4 0) 5 0) 3 0) f_p0_firstChild I_p4 f_p4_bytes hw _) (cwV 1 hg (gg_V t_560 t_562 t_6 t_67 t_563) rfl rfl rfl (by decide +kernel) ⟨Nat.le_of_ble_eq_true rfl, Nat.le_of_ble_eq_true rfl⟩) hK hN hP hD [0, 1, 6, 7] (by decide) rfl 0 5 rfl rfl rfl rfl hl.1 rfl (Nat.le_of_ble_eq_true rfl) d_Ne_encode_28 ⟨Nat.le_of_ble_eq_true rfl, Nat.le_of_ble_eq_true rfl⟩) rfl rfl hP hD hS hA [0, 1, 6, 7] [2, 3, 4, 5] [4, 5, 0, 1, 2, 3, 6, 7] rfl rfl (by decide) (by decide) (by decide) (fun _ => rfl) ?_
  intro u9 H locs hw hP hD hS
  obtain ⟨I_p0_28, f_p0_firstChild_28, I_p4_28, f_p4_bytes_28⟩ := u9
  try dsimp only at hw
  have hP : va_P (dC, dI) vwCl [oNe a_p0 A_p0 I_p0_28, gz cI (A_p0 0) 127 f_p0_firstChild_28, gz cI (A_p0 2) 127 f_p0_lastNibble, gz cI (A_p0 1) 127 f_p0_nextSibling, oDa a_p1 A_p1, gz cI (A_p1 0) 256 f_p1_bytes, oSt a_p4 A_p4 I_p4_28, gz cI (A_p4 0) 900 f_p4_bytes_28] H := hP
  have hD : va_D A [oNe a_p0 A_p0 I_p0_28, gz cI (A_p0 0) 127 f_p0_firstChild_28, gz cI (A_p0 2) 127 f_p0_lastNibble, gz cI (A_p0 1) 127 f_p0_nextSibling, oDa a_p1 A_p1, gz cI (A_p1 0) 256 f_p1_bytes, oSt a_p4 A_p4 I_p4_28, gz cI (A_p4 0) 900 f_p4_bytes_28] := hD
  obtain ⟨n1, hw⟩ := hw
  exact l31 n1 _ _ _ I_p0_28 f_p0_firstChild_28 f_p0_lastNibble f_p0_nextSibling I_p4_28 f_p4_bytes_28 (2 * x3) (2 * x2) hP hD hS (lv_sub hl [2, 3, 6, 1, 0] rfl) hw
theorem d_Pk_threeEqualBegin_0 : decode b_Pk_threeEqualBegin 0 = .ok (.iload_n 1, 1) := by decide +kernel
theorem d_Pk_threeEqualBegin_1 : decode b_Pk_threeEqualBegin 1 = .ok (.iconst 2, 1) := by decide +kernel
theorem d_Pk_threeEqualBegin_2 : decode b_Pk_threeEqualBegin 2 = .ok (.iadd, 1) := by decide +kernel
theorem d_Pk_threeEqualBegin_3 : decode b_Pk_threeEqualBegin 3 = .ok (.iload_n 2, 1) := by decide +kernel
theorem d_Pk_threeEqualBegin_4 : decode b_Pk_threeEqualBegin 4 = .ok (.if_icmp .ge 29, 3) := by decide +kernel
theorem d_Pk_threeEqualBegin_7 : decode b_Pk_threeEqualBegin 7 = .ok (.aload_n 0, 1) := by decide +kernel
theorem d_Pk_threeEqualBegin_8 : decode b_Pk_threeEqualBegin 8 = .ok (.iload_n 1, 1) := by decide +kernel
theorem d_Pk_threeEqualBegin_9 : decode b_Pk_threeEqualBegin 9 = .ok (.iaload, 1) := by decide +kernel
theorem d_Pk_threeEqualBegin_10 : decode b_Pk_threeEqualBegin 10 = .ok (.aload_n 0, 1) := by decide +kernel
theorem d_Pk_threeEqualBegin_11 : decode b_Pk_threeEqualBegin 11 = .ok (.iload_n 1, 1) := by decide +kernel
theorem d_Pk_threeEqualBegin_12 : decode b_Pk_threeEqualBegin 12 = .ok (.iconst 1, 1) := by decide +kernel
theorem d_Pk_threeEqualBegin_13 : decode b_Pk_threeEqualBegin 13 = .ok (.iadd, 1) := by decide +kernel
theorem d_Pk_threeEqualBegin_14 : decode b_Pk_threeEqualBegin 14 = .ok (.iaload, 1) := by decide +kernel
theorem d_Pk_threeEqualBegin_15 : decode b_Pk_threeEqualBegin 15 = .ok (.if_icmp .ne 18, 3) := by decide +kernel
theorem d_Pk_threeEqualBegin_18 : decode b_Pk_threeEqualBegin 18 = .ok (.aload_n 0, 1) := by decide +kernel
theorem d_Pk_threeEqualBegin_19 : decode b_Pk_threeEqualBegin 19 = .ok (.iload_n 1, 1) := by decide +kernel
theorem d_Pk_threeEqualBegin_20 : decode b_Pk_threeEqualBegin 20 = .ok (.iaload, 1) := by decide +kernel
theorem d_Pk_threeEqualBegin_21 : decode b_Pk_threeEqualBegin 21 = .ok (.aload_n 0, 1) := by decide +kernel
theorem d_Pk_threeEqualBegin_22 : decode b_Pk_threeEqualBegin 22 = .ok (.iload_n 1, 1) := by decide +kernel
theorem d_Pk_threeEqualBegin_23 : decode b_Pk_threeEqualBegin 23 = .ok (.iconst 2, 1) := by decide +kernel
theorem d_Pk_threeEqualBegin_24 : decode b_Pk_threeEqualBegin 24 = .ok (.iadd, 1) := by decide +kernel
theorem d_Pk_threeEqualBegin_25 : decode b_Pk_threeEqualBegin 25 = .ok (.iaload, 1) := by decide +kernel
theorem d_Pk_threeEqualBegin_26 : decode b_Pk_threeEqualBegin 26 = .ok (.if_icmp .ne 7, 3) := by decide +kernel
theorem d_Pk_threeEqualBegin_29 : decode b_Pk_threeEqualBegin 29 = .ok (.iconst 1, 1) := by decide +kernel
theorem d_Pk_threeEqualBegin_30 : decode b_Pk_threeEqualBegin 30 = .ok (.goto 4, 3) := by decide +kernel
theorem d_Pk_threeEqualBegin_33 : decode b_Pk_threeEqualBegin 33 = .ok (.iconst 0, 1) := by decide +kernel
theorem d_Pk_threeEqualBegin_34 : decode b_Pk_threeEqualBegin 34 = .ok (.ireturn, 1) := by decide +kernel
def wp_Pk_threeEqualBegin_b33 (post : Int32 → Prop) (f_p0 : Nat → Int32) : Prop :=
  post 0
def wp_Pk_threeEqualBegin (post : Int32 → Prop) (f_p0 : Nat → Int32) (x1 : Int32) (x2 : Int32) : Prop :=
  ((x2 ≤ (x1 + 2) →
    wp_Pk_threeEqualBegin_b33 post f_p0) ∧
   (¬ x2 ≤ (x1 + 2) →
    vp_in x1 256 ∧
    vp_in (x1 + 1) 256 ∧
    (((f_p0 (x1).toNatClampNeg) = (f_p0 (x1 + 1).toNatClampNeg) →
      vp_in x1 256 ∧
      vp_in (x1 + 2) 256 ∧
      (((f_p0 (x1).toNatClampNeg) = (f_p0 (x1 + 2).toNatClampNeg) →
        post 1) ∧
       (¬ (f_p0 (x1).toNatClampNeg) = (f_p0 (x1 + 2).toNatClampNeg) →
        wp_Pk_threeEqualBegin_b33 post f_p0))) ∧
     (¬ (f_p0 (x1).toNatClampNeg) = (f_p0 (x1 + 1).toNatClampNeg) →
      wp_Pk_threeEqualBegin_b33 post f_p0))))
set_option maxRecDepth 100000 in
set_option maxHeartbeats 4000000 in
theorem c_Pk_threeEqualBegin (l : Launch) (dC : Nat → ClassId) (dI : Nat → Nat → Nat) (cI : ClassId) (a_p0 : Nat) (f_p0 : Nat → Int32) (x1 : Int32) (x2 : Int32) {post : Int32 → Prop} (hw : wp_Pk_threeEqualBegin post f_p0 x1 x2) : gm_i l y_Pk_threeEqualBegin ws_Pk_threeEqualBegin ({ frames := 0, cells := 0, slots := 0, locals := 0 } : Room) (dC, dI) vwCl [(cI, .int)] [.ref a_p0, .int x1, .int x2] [gz cI a_p0 256 f_p0] (fun (_ : Unit) => [gz cI a_p0 256 f_p0]) (fun (r : Int32) (_ : Unit) => post r) := by
  refine gm_iof (cc := b_Pk_threeEqualBegin) (maxL := 3) (ty := .boolean) (by decide) rfl (Nat.le_of_ble_eq_true rfl) ?_
  intro p e s m args below meth c A Q hx hb hml hown hg hK hN hA hret
  have hown : s.vm.findClass R_Pk = some m.cls := hown
  have b33 : ∀ (H : Heap) (locs : List Loc) (ls : Array Slot), va_P (dC, dI) vwCl [gz cI a_p0 256 f_p0] H → va_D A [gz cI a_p0 256 f_p0] → va_S A s.heap H locs → lv_has ls 3 [] → wp_Pk_threeEqualBegin_b33 post f_p0 → W p l e ({ frames := 0, cells := 0, slots := 0, locals := 0 } : Room) s m args below meth c H locs 0 0 Q (F0 m 33 ls []) := by
    intro H locs ls hP hD hS hl hw
    unfold wp_Pk_threeEqualBegin_b33 at hw
    refine lv_iconst (v := 0) hx hb d_Pk_threeEqualBegin_33 (by decide) ?_
    exact hret _ _ _ _ _ () d_Pk_threeEqualBegin_34 rfl hP hD hS hw
  intro ls hl hP hD hS
  have hl : lv_has ls 3 [(0, .ref a_p0), (1, .int x1), (2, .int x2)] := hl
  unfold wp_Pk_threeEqualBegin at hw
  refine lv_iload_n hx hb d_Pk_threeEqualBegin_0 rfl (lv_at hl 1 rfl) ?_
  refine lv_iconst (v := 2) hx hb d_Pk_threeEqualBegin_1 (by decide) ?_
  refine lv_iadd hx hb d_Pk_threeEqualBegin_2 ?_
  refine lv_iload_n hx hb d_Pk_threeEqualBegin_3 rfl (lv_at hl 2 rfl) ?_
  refine lv_icmp_ge hx hb d_Pk_threeEqualBegin_4 rfl (fun hc => ?_) (fun hc => ?_)
  · have hw := hw.1 hc
    exact b33 _ _ _ hP hD hS (lv_sub hl [] rfl) hw
  · have hw := hw.2 hc
    refine lv_aload_n hx hb d_Pk_threeEqualBegin_7 rfl (lv_at hl 0 rfl) ?_
    refine lv_iload_n hx hb d_Pk_threeEqualBegin_8 rfl (lv_at hl 1 rfl) ?_
    obtain ⟨hin, hw⟩ := hw
    refine va_iald hx hb hK hP 0 0 rfl rfl hin d_Pk_threeEqualBegin_9 ?_
    refine lv_aload_n hx hb d_Pk_threeEqualBegin_10 rfl (lv_at hl 0 rfl) ?_
    refine lv_iload_n hx hb d_Pk_threeEqualBegin_11 rfl (lv_at hl 1 rfl) ?_
    refine lv_iconst (v := 1) hx hb d_Pk_threeEqualBegin_12 (by decide) ?_
    refine lv_iadd hx hb d_Pk_threeEqualBegin_13 ?_
    obtain ⟨hin, hw⟩ := hw
    refine va_iald hx hb hK hP 0 0 rfl rfl hin d_Pk_threeEqualBegin_14 ?_
    refine lv_icmp_ne hx hb d_Pk_threeEqualBegin_15 rfl (fun hc => ?_) (fun hc => ?_)
    · have hw := hw.2 hc
      exact b33 _ _ _ hP hD hS (lv_sub hl [] rfl) hw
    · have hw := hw.1 hc
      refine lv_aload_n hx hb d_Pk_threeEqualBegin_18 rfl (lv_at hl 0 rfl) ?_
      refine lv_iload_n hx hb d_Pk_threeEqualBegin_19 rfl (lv_at hl 1 rfl) ?_
      obtain ⟨hin, hw⟩ := hw
      refine va_iald hx hb hK hP 0 0 rfl rfl hin d_Pk_threeEqualBegin_20 ?_
      refine lv_aload_n hx hb d_Pk_threeEqualBegin_21 rfl (lv_at hl 0 rfl) ?_
      refine lv_iload_n hx hb d_Pk_threeEqualBegin_22 rfl (lv_at hl 1 rfl) ?_
      refine lv_iconst (v := 2) hx hb d_Pk_threeEqualBegin_23 (by decide) ?_
      refine lv_iadd hx hb d_Pk_threeEqualBegin_24 ?_
      obtain ⟨hin, hw⟩ := hw
      refine va_iald hx hb hK hP 0 0 rfl rfl hin d_Pk_threeEqualBegin_25 ?_
      refine lv_icmp_ne hx hb d_Pk_threeEqualBegin_26 rfl (fun hc => ?_) (fun hc => ?_)
      · have hw := hw.2 hc
        exact b33 _ _ _ hP hD hS (lv_sub hl [] rfl) hw
      · have hw := hw.1 hc
        refine lv_iconst (v := 1) hx hb d_Pk_threeEqualBegin_29 (by decide) ?_
        refine lv_goto hx hb d_Pk_threeEqualBegin_30 rfl ?_
        exact hret _ _ _ _ _ () d_Pk_threeEqualBegin_34 rfl hP hD hS hw
theorem d_Pk_bytesUpToThreeEqual_0 : decode b_Pk_bytesUpToThreeEqual 0 = .ok (.iconst 1, 1) := by decide +kernel
theorem d_Pk_bytesUpToThreeEqual_1 : decode b_Pk_bytesUpToThreeEqual 1 = .ok (.istore_n 3, 1) := by decide +kernel
theorem d_Pk_bytesUpToThreeEqual_2 : decode b_Pk_bytesUpToThreeEqual 2 = .ok (.iload_n 1, 1) := by decide +kernel
theorem d_Pk_bytesUpToThreeEqual_3 : decode b_Pk_bytesUpToThreeEqual 3 = .ok (.iload_n 3, 1) := by decide +kernel
theorem d_Pk_bytesUpToThreeEqual_4 : decode b_Pk_bytesUpToThreeEqual 4 = .ok (.iadd, 1) := by decide +kernel
theorem d_Pk_bytesUpToThreeEqual_5 : decode b_Pk_bytesUpToThreeEqual 5 = .ok (.iload_n 2, 1) := by decide +kernel
theorem d_Pk_bytesUpToThreeEqual_6 : decode b_Pk_bytesUpToThreeEqual 6 = .ok (.if_icmp .ge 20, 3) := by decide +kernel
theorem d_Pk_bytesUpToThreeEqual_9 : decode b_Pk_bytesUpToThreeEqual 9 = .ok (.aload_n 0, 1) := by decide +kernel
theorem d_Pk_bytesUpToThreeEqual_10 : decode b_Pk_bytesUpToThreeEqual 10 = .ok (.iload_n 1, 1) := by decide +kernel
theorem d_Pk_bytesUpToThreeEqual_11 : decode b_Pk_bytesUpToThreeEqual 11 = .ok (.iload_n 3, 1) := by decide +kernel
theorem d_Pk_bytesUpToThreeEqual_12 : decode b_Pk_bytesUpToThreeEqual 12 = .ok (.iadd, 1) := by decide +kernel
theorem d_Pk_bytesUpToThreeEqual_13 : decode b_Pk_bytesUpToThreeEqual 13 = .ok (.iload_n 2, 1) := by decide +kernel
theorem d_Pk_bytesUpToThreeEqual_14 : decode b_Pk_bytesUpToThreeEqual 14 = .ok (.invokestatic 7, 3) := by decide +kernel
theorem d_Pk_bytesUpToThreeEqual_17 : decode b_Pk_bytesUpToThreeEqual 17 = .ok (.ifCond .ne 9, 3) := by decide +kernel
theorem d_Pk_bytesUpToThreeEqual_20 : decode b_Pk_bytesUpToThreeEqual 20 = .ok (.iinc 3 1, 3) := by decide +kernel
theorem d_Pk_bytesUpToThreeEqual_23 : decode b_Pk_bytesUpToThreeEqual 23 = .ok (.goto (-21), 3) := by decide +kernel
theorem d_Pk_bytesUpToThreeEqual_26 : decode b_Pk_bytesUpToThreeEqual 26 = .ok (.iload_n 3, 1) := by decide +kernel
theorem d_Pk_bytesUpToThreeEqual_27 : decode b_Pk_bytesUpToThreeEqual 27 = .ok (.ireturn, 1) := by decide +kernel
def wp_Pk_bytesUpToThreeEqual_l2 (post : Int32 → Prop) (f_p0 : Nat → Int32) : Nat → Int32 → Int32 → Int32 → Prop
  | 0, _, _, _ => False
  | n + 1, x1, x2, x3 =>
    ((x2 ≤ (x1 + x3) →
      post x3) ∧
     (¬ x2 ≤ (x1 + x3) →
      wp_Pk_threeEqualBegin (fun (r14 : Int32) =>
        ((r14 = 0 →
          wp_Pk_bytesUpToThreeEqual_l2 post f_p0 n x1 x2 (x3 + 1)) ∧
         (¬ r14 = 0 →
          post x3))) f_p0 (x1 + x3) x2))
def wp_Pk_bytesUpToThreeEqual (post : Int32 → Prop) (f_p0 : Nat → Int32) (x1 : Int32) (x2 : Int32) : Prop :=
  (∃ n1 : Nat, wp_Pk_bytesUpToThreeEqual_l2 post f_p0 n1 x1 x2 1)
set_option maxRecDepth 100000 in
set_option maxHeartbeats 4000000 in
theorem c_Pk_bytesUpToThreeEqual (l : Launch) (dC : Nat → ClassId) (dI : Nat → Nat → Nat) (cI : ClassId) (a_p0 : Nat) (f_p0 : Nat → Int32) (x1 : Int32) (x2 : Int32) {post : Int32 → Prop} (hw : wp_Pk_bytesUpToThreeEqual post f_p0 x1 x2) : gm_i l y_Pk_bytesUpToThreeEqual ws_Pk_bytesUpToThreeEqual ({ frames := 1, cells := 0, slots := 0, locals := 22 } : Room) (dC, dI) vwCl [(cI, .int)] [.ref a_p0, .int x1, .int x2] [gz cI a_p0 256 f_p0] (fun (_ : Unit) => [gz cI a_p0 256 f_p0]) (fun (r : Int32) (_ : Unit) => post r) := by
  refine gm_iof (cc := b_Pk_bytesUpToThreeEqual) (maxL := 4) (ty := .int) (by decide) rfl (Nat.le_of_ble_eq_true rfl) ?_
  intro p e s m args below meth c A Q hx hb hml hown hg hK hN hA hret
  have hown : s.vm.findClass R_Pk = some m.cls := hown
  have l2 : ∀ n : Nat, ∀ (H : Heap) (locs : List Loc) (ls : Array Slot) (x1 : Int32) (x2 : Int32) (x3 : Int32), va_P (dC, dI) vwCl [gz cI a_p0 256 f_p0] H → va_D A [gz cI a_p0 256 f_p0] → va_S A s.heap H locs → lv_has ls 4 [(0, .ref a_p0), (1, .int x1), (2, .int x2), (3, .int x3)] → wp_Pk_bytesUpToThreeEqual_l2 post f_p0 n x1 x2 x3 → W p l e ({ frames := 1, cells := 0, slots := 0, locals := 22 } : Room) s m args below meth c H locs 0 0 Q (F0 m 2 ls []) := by
    intro n
    induction n with
    | zero => intro H locs ls x1 x2 x3 hP hD hS hl hw; exact hw.elim
    | succ n ih =>
      intro H locs ls x1 x2 x3 hP hD hS hl hw
      unfold wp_Pk_bytesUpToThreeEqual_l2 at hw
      refine lv_iload_n hx hb d_Pk_bytesUpToThreeEqual_2 rfl (lv_at hl 1 rfl) ?_
      refine lv_iload_n hx hb d_Pk_bytesUpToThreeEqual_3 rfl (lv_at hl 3 rfl) ?_
      refine lv_iadd hx hb d_Pk_bytesUpToThreeEqual_4 ?_
      refine lv_iload_n hx hb d_Pk_bytesUpToThreeEqual_5 rfl (lv_at hl 2 rfl) ?_
      refine lv_icmp_ge hx hb d_Pk_bytesUpToThreeEqual_6 rfl (fun hc => ?_) (fun hc => ?_)
      · have hw := hw.1 hc
        refine lv_iload_n hx hb d_Pk_bytesUpToThreeEqual_26 rfl (lv_at hl 3 rfl) ?_
        exact hret _ _ _ _ _ () d_Pk_bytesUpToThreeEqual_27 rfl hP hD hS hw
      · have hw := hw.2 hc
        refine lv_aload_n hx hb d_Pk_bytesUpToThreeEqual_9 rfl (lv_at hl 0 rfl) ?_
        refine lv_iload_n hx hb d_Pk_bytesUpToThreeEqual_10 rfl (lv_at hl 1 rfl) ?_
        refine lv_iload_n hx hb d_Pk_bytesUpToThreeEqual_11 rfl (lv_at hl 3 rfl) ?_
        refine lv_iadd hx hb d_Pk_bytesUpToThreeEqual_12 ?_
        refine lv_iload_n hx hb d_Pk_bytesUpToThreeEqual_13 rfl (lv_at hl 2 rfl) ?_
        refine gc_i (wn := fun (_ : Unit) => [gz cI a_p0 256 f_p0]) (wr := []) (gr_S (As := [.ref a_p0, .int (x1 + x3), .int x2]) (rest := []) ⟨hx, hb, hml, hown, hg⟩ (c_Pk_threeEqualBegin l dC dI cI a_p0 f_p0 (x1 + x3) x2 hw _) (va_cwS 3 hg (gg_S t_546 t_547 t_73 t_548) rfl rfl rfl (by decide +kernel) ⟨Nat.le_of_ble_eq_true rfl, Nat.le_of_ble_eq_true rfl⟩) hK hN hP hD [0] (by decide) rfl rfl hl.1 rfl (Nat.le_of_ble_eq_true rfl) d_Pk_bytesUpToThreeEqual_14 ⟨Nat.le_of_ble_eq_true rfl, Nat.le_of_ble_eq_true rfl⟩) rfl rfl hP hD hS hA [0] [] [0] rfl rfl (by decide) (by decide) (by decide) (fun _ => rfl) ?_
        intro r14 _ H locs hw hP hD hS
        try dsimp only at hw
        have hP : va_P (dC, dI) vwCl [gz cI a_p0 256 f_p0] H := hP
        have hD : va_D A [gz cI a_p0 256 f_p0] := hD
        refine lv_if_ne hx hb d_Pk_bytesUpToThreeEqual_17 rfl (fun hc => ?_) (fun hc => ?_)
        · have hw := hw.2 hc
          refine lv_iload_n hx hb d_Pk_bytesUpToThreeEqual_26 rfl (lv_at hl 3 rfl) ?_
          exact hret _ _ _ _ _ () d_Pk_bytesUpToThreeEqual_27 rfl hP hD hS hw
        · have hw := hw.1 hc
          refine lv_iinc (k := 3) (v := (x3 + 1)) (lv' := [(3, .int (x3 + 1)), (0, .ref a_p0), (1, .int x1), (2, .int x2)]) hx hb d_Pk_bytesUpToThreeEqual_20 hl rfl (congrArg (fun z => x3 + z) (by decide : Int32.ofInt 1 = 1)) (by decide) rfl (fun ls hl => ?_)
          refine lv_goto hx hb d_Pk_bytesUpToThreeEqual_23 rfl ?_
          exact ih _ _ _ x1 x2 (x3 + 1) hP hD hS (lv_sub hl [1, 2, 3, 0] rfl) hw
  intro ls hl hP hD hS
  have hl : lv_has ls 4 [(0, .ref a_p0), (1, .int x1), (2, .int x2)] := hl
  unfold wp_Pk_bytesUpToThreeEqual at hw
  refine lv_iconst (v := 1) hx hb d_Pk_bytesUpToThreeEqual_0 (by decide) ?_
  refine lv_istore_n (lv' := [(3, .int 1), (0, .ref a_p0), (1, .int x1), (2, .int x2)]) hx hb d_Pk_bytesUpToThreeEqual_1 rfl hl (by decide) rfl (fun ls hl => ?_)
  obtain ⟨n1, hw⟩ := hw
  exact l2 n1 _ _ _ x1 x2 1 hP hD hS (lv_sub hl [1, 2, 3, 0] rfl) hw
theorem d_Pk_equalBytes_0 : decode b_Pk_equalBytes 0 = .ok (.iconst 1, 1) := by decide +kernel
theorem d_Pk_equalBytes_1 : decode b_Pk_equalBytes 1 = .ok (.istore_n 3, 1) := by decide +kernel
theorem d_Pk_equalBytes_2 : decode b_Pk_equalBytes 2 = .ok (.iload_n 1, 1) := by decide +kernel
theorem d_Pk_equalBytes_3 : decode b_Pk_equalBytes 3 = .ok (.iload_n 3, 1) := by decide +kernel
theorem d_Pk_equalBytes_4 : decode b_Pk_equalBytes 4 = .ok (.iadd, 1) := by decide +kernel
theorem d_Pk_equalBytes_5 : decode b_Pk_equalBytes 5 = .ok (.iload_n 2, 1) := by decide +kernel
theorem d_Pk_equalBytes_6 : decode b_Pk_equalBytes 6 = .ok (.if_icmp .ge 20, 3) := by decide +kernel
theorem d_Pk_equalBytes_9 : decode b_Pk_equalBytes 9 = .ok (.aload_n 0, 1) := by decide +kernel
theorem d_Pk_equalBytes_10 : decode b_Pk_equalBytes 10 = .ok (.iload_n 1, 1) := by decide +kernel
theorem d_Pk_equalBytes_11 : decode b_Pk_equalBytes 11 = .ok (.iload_n 3, 1) := by decide +kernel
theorem d_Pk_equalBytes_12 : decode b_Pk_equalBytes 12 = .ok (.iadd, 1) := by decide +kernel
theorem d_Pk_equalBytes_13 : decode b_Pk_equalBytes 13 = .ok (.iaload, 1) := by decide +kernel
theorem d_Pk_equalBytes_14 : decode b_Pk_equalBytes 14 = .ok (.aload_n 0, 1) := by decide +kernel
theorem d_Pk_equalBytes_15 : decode b_Pk_equalBytes 15 = .ok (.iload_n 1, 1) := by decide +kernel
theorem d_Pk_equalBytes_16 : decode b_Pk_equalBytes 16 = .ok (.iaload, 1) := by decide +kernel
theorem d_Pk_equalBytes_17 : decode b_Pk_equalBytes 17 = .ok (.if_icmp .ne 9, 3) := by decide +kernel
theorem d_Pk_equalBytes_20 : decode b_Pk_equalBytes 20 = .ok (.iinc 3 1, 3) := by decide +kernel
theorem d_Pk_equalBytes_23 : decode b_Pk_equalBytes 23 = .ok (.goto (-21), 3) := by decide +kernel
theorem d_Pk_equalBytes_26 : decode b_Pk_equalBytes 26 = .ok (.iload_n 3, 1) := by decide +kernel
theorem d_Pk_equalBytes_27 : decode b_Pk_equalBytes 27 = .ok (.ireturn, 1) := by decide +kernel
def wp_Pk_equalBytes_l2 (post : Int32 → Prop) (f_p0 : Nat → Int32) : Nat → Int32 → Int32 → Int32 → Prop
  | 0, _, _, _ => False
  | n + 1, x1, x2, x3 =>
    ((x2 ≤ (x1 + x3) →
      post x3) ∧
     (¬ x2 ≤ (x1 + x3) →
      vp_in (x1 + x3) 256 ∧
      vp_in x1 256 ∧
      (((f_p0 (x1 + x3).toNatClampNeg) = (f_p0 (x1).toNatClampNeg) →
        wp_Pk_equalBytes_l2 post f_p0 n x1 x2 (x3 + 1)) ∧
       (¬ (f_p0 (x1 + x3).toNatClampNeg) = (f_p0 (x1).toNatClampNeg) →
        post x3))))
def wp_Pk_equalBytes (post : Int32 → Prop) (f_p0 : Nat → Int32) (x1 : Int32) (x2 : Int32) : Prop :=
  (∃ n1 : Nat, wp_Pk_equalBytes_l2 post f_p0 n1 x1 x2 1)
set_option maxRecDepth 100000 in
set_option maxHeartbeats 4000000 in
theorem c_Pk_equalBytes (l : Launch) (dC : Nat → ClassId) (dI : Nat → Nat → Nat) (cI : ClassId) (a_p0 : Nat) (f_p0 : Nat → Int32) (x1 : Int32) (x2 : Int32) {post : Int32 → Prop} (hw : wp_Pk_equalBytes post f_p0 x1 x2) : gm_i l y_Pk_equalBytes ws_Pk_equalBytes ({ frames := 0, cells := 0, slots := 0, locals := 0 } : Room) (dC, dI) vwCl [(cI, .int)] [.ref a_p0, .int x1, .int x2] [gz cI a_p0 256 f_p0] (fun (_ : Unit) => [gz cI a_p0 256 f_p0]) (fun (r : Int32) (_ : Unit) => post r) := by
  refine gm_iof (cc := b_Pk_equalBytes) (maxL := 4) (ty := .int) (by decide) rfl (Nat.le_of_ble_eq_true rfl) ?_
  intro p e s m args below meth c A Q hx hb hml hown hg hK hN hA hret
  have hown : s.vm.findClass R_Pk = some m.cls := hown
  have l2 : ∀ n : Nat, ∀ (H : Heap) (locs : List Loc) (ls : Array Slot) (x1 : Int32) (x2 : Int32) (x3 : Int32), va_P (dC, dI) vwCl [gz cI a_p0 256 f_p0] H → va_D A [gz cI a_p0 256 f_p0] → va_S A s.heap H locs → lv_has ls 4 [(0, .ref a_p0), (1, .int x1), (2, .int x2), (3, .int x3)] → wp_Pk_equalBytes_l2 post f_p0 n x1 x2 x3 → W p l e ({ frames := 0, cells := 0, slots := 0, locals := 0 } : Room) s m args below meth c H locs 0 0 Q (F0 m 2 ls []) := by
    intro n
    induction n with
    | zero => intro H locs ls x1 x2 x3 hP hD hS hl hw; exact hw.elim
    | succ n ih =>
      intro H locs ls x1 x2 x3 hP hD hS hl hw
      unfold wp_Pk_equalBytes_l2 at hw
      refine lv_iload_n hx hb d_Pk_equalBytes_2 rfl (lv_at hl 1 rfl) ?_
      refine lv_iload_n hx hb d_Pk_equalBytes_3 rfl (lv_at hl 3 rfl) ?_
      refine lv_iadd hx hb d_Pk_equalBytes_4 ?_
      refine lv_iload_n hx hb d_Pk_equalBytes_5 rfl (lv_at hl 2 rfl) ?_
      refine lv_icmp_ge hx hb d_Pk_equalBytes_6 rfl (fun hc => ?_) (fun hc => ?_)
      · have hw := hw.1 hc
        refine lv_iload_n hx hb d_Pk_equalBytes_26 rfl (lv_at hl 3 rfl) ?_
        exact hret _ _ _ _ _ () d_Pk_equalBytes_27 rfl hP hD hS hw
      · have hw := hw.2 hc
        refine lv_aload_n hx hb d_Pk_equalBytes_9 rfl (lv_at hl 0 rfl) ?_
        refine lv_iload_n hx hb d_Pk_equalBytes_10 rfl (lv_at hl 1 rfl) ?_
        refine lv_iload_n hx hb d_Pk_equalBytes_11 rfl (lv_at hl 3 rfl) ?_
        refine lv_iadd hx hb d_Pk_equalBytes_12 ?_
        obtain ⟨hin, hw⟩ := hw
        refine va_iald hx hb hK hP 0 0 rfl rfl hin d_Pk_equalBytes_13 ?_
        refine lv_aload_n hx hb d_Pk_equalBytes_14 rfl (lv_at hl 0 rfl) ?_
        refine lv_iload_n hx hb d_Pk_equalBytes_15 rfl (lv_at hl 1 rfl) ?_
        obtain ⟨hin, hw⟩ := hw
        refine va_iald hx hb hK hP 0 0 rfl rfl hin d_Pk_equalBytes_16 ?_
        refine lv_icmp_ne hx hb d_Pk_equalBytes_17 rfl (fun hc => ?_) (fun hc => ?_)
        · have hw := hw.2 hc
          refine lv_iload_n hx hb d_Pk_equalBytes_26 rfl (lv_at hl 3 rfl) ?_
          exact hret _ _ _ _ _ () d_Pk_equalBytes_27 rfl hP hD hS hw
        · have hw := hw.1 hc
          refine lv_iinc (k := 3) (v := (x3 + 1)) (lv' := [(3, .int (x3 + 1)), (0, .ref a_p0), (1, .int x1), (2, .int x2)]) hx hb d_Pk_equalBytes_20 hl rfl (congrArg (fun z => x3 + z) (by decide : Int32.ofInt 1 = 1)) (by decide) rfl (fun ls hl => ?_)
          refine lv_goto hx hb d_Pk_equalBytes_23 rfl ?_
          exact ih _ _ _ x1 x2 (x3 + 1) hP hD hS (lv_sub hl [1, 2, 3, 0] rfl) hw
  intro ls hl hP hD hS
  have hl : lv_has ls 4 [(0, .ref a_p0), (1, .int x1), (2, .int x2)] := hl
  unfold wp_Pk_equalBytes at hw
  refine lv_iconst (v := 1) hx hb d_Pk_equalBytes_0 (by decide) ?_
  refine lv_istore_n (lv' := [(3, .int 1), (0, .ref a_p0), (1, .int x1), (2, .int x2)]) hx hb d_Pk_equalBytes_1 rfl hl (by decide) rfl (fun ls hl => ?_)
  obtain ⟨n1, hw⟩ := hw
  exact l2 n1 _ _ _ x1 x2 1 hP hD hS (lv_sub hl [1, 2, 3, 0] rfl) hw
theorem d_Pk_encodeRow_0 : decode b_Pk_encodeRow 0 = .ok (.iload_n 1, 1) := by decide +kernel
theorem d_Pk_encodeRow_1 : decode b_Pk_encodeRow 1 = .ok (.istore 4, 2) := by decide +kernel
theorem d_Pk_encodeRow_3 : decode b_Pk_encodeRow 3 = .ok (.iconst 0, 1) := by decide +kernel
theorem d_Pk_encodeRow_4 : decode b_Pk_encodeRow 4 = .ok (.istore 5, 2) := by decide +kernel
theorem d_Pk_encodeRow_6 : decode b_Pk_encodeRow 6 = .ok (.iload 5, 2) := by decide +kernel
theorem d_Pk_encodeRow_8 : decode b_Pk_encodeRow 8 = .ok (.iload_n 2, 1) := by decide +kernel
theorem d_Pk_encodeRow_9 : decode b_Pk_encodeRow 9 = .ok (.iload_n 1, 1) := by decide +kernel
theorem d_Pk_encodeRow_10 : decode b_Pk_encodeRow 10 = .ok (.isub, 1) := by decide +kernel
theorem d_Pk_encodeRow_11 : decode b_Pk_encodeRow 11 = .ok (.if_icmp .ge 113, 3) := by decide +kernel
theorem d_Pk_encodeRow_14 : decode b_Pk_encodeRow 14 = .ok (.iload 4, 2) := by decide +kernel
theorem d_Pk_encodeRow_16 : decode b_Pk_encodeRow 16 = .ok (.iload_n 2, 1) := by decide +kernel
theorem d_Pk_encodeRow_17 : decode b_Pk_encodeRow 17 = .ok (.if_icmp .ge 107, 3) := by decide +kernel
theorem d_Pk_encodeRow_20 : decode b_Pk_encodeRow 20 = .ok (.aload_n 0, 1) := by decide +kernel
theorem d_Pk_encodeRow_21 : decode b_Pk_encodeRow 21 = .ok (.iload 4, 2) := by decide +kernel
theorem d_Pk_encodeRow_23 : decode b_Pk_encodeRow 23 = .ok (.iload_n 2, 1) := by decide +kernel
theorem d_Pk_encodeRow_24 : decode b_Pk_encodeRow 24 = .ok (.invokestatic 7, 3) := by decide +kernel
theorem d_Pk_encodeRow_27 : decode b_Pk_encodeRow 27 = .ok (.ifCond .eq 40, 3) := by decide +kernel
theorem d_Pk_encodeRow_30 : decode b_Pk_encodeRow 30 = .ok (.aload_n 0, 1) := by decide +kernel
theorem d_Pk_encodeRow_31 : decode b_Pk_encodeRow 31 = .ok (.iload 4, 2) := by decide +kernel
theorem d_Pk_encodeRow_33 : decode b_Pk_encodeRow 33 = .ok (.iload_n 2, 1) := by decide +kernel
theorem d_Pk_encodeRow_34 : decode b_Pk_encodeRow 34 = .ok (.invokestatic 13, 3) := by decide +kernel
theorem d_Pk_encodeRow_37 : decode b_Pk_encodeRow 37 = .ok (.istore 6, 2) := by decide +kernel
theorem d_Pk_encodeRow_39 : decode b_Pk_encodeRow 39 = .ok (.aload_n 3, 1) := by decide +kernel
theorem d_Pk_encodeRow_40 : decode b_Pk_encodeRow 40 = .ok (.sipush 257, 3) := by decide +kernel
theorem d_Pk_encodeRow_43 : decode b_Pk_encodeRow 43 = .ok (.iload 6, 2) := by decide +kernel
theorem d_Pk_encodeRow_45 : decode b_Pk_encodeRow 45 = .ok (.isub, 1) := by decide +kernel
theorem d_Pk_encodeRow_46 : decode b_Pk_encodeRow 46 = .ok (.invokevirtual 17, 3) := by decide +kernel
theorem d_Pk_encodeRow_49 : decode b_Pk_encodeRow 49 = .ok (.aload_n 3, 1) := by decide +kernel
theorem d_Pk_encodeRow_50 : decode b_Pk_encodeRow 50 = .ok (.aload_n 0, 1) := by decide +kernel
theorem d_Pk_encodeRow_51 : decode b_Pk_encodeRow 51 = .ok (.iload 4, 2) := by decide +kernel
theorem d_Pk_encodeRow_53 : decode b_Pk_encodeRow 53 = .ok (.iaload, 1) := by decide +kernel
theorem d_Pk_encodeRow_54 : decode b_Pk_encodeRow 54 = .ok (.invokevirtual 17, 3) := by decide +kernel
theorem d_Pk_encodeRow_57 : decode b_Pk_encodeRow 57 = .ok (.iload 4, 2) := by decide +kernel
theorem d_Pk_encodeRow_59 : decode b_Pk_encodeRow 59 = .ok (.iload 6, 2) := by decide +kernel
theorem d_Pk_encodeRow_61 : decode b_Pk_encodeRow 61 = .ok (.iadd, 1) := by decide +kernel
theorem d_Pk_encodeRow_62 : decode b_Pk_encodeRow 62 = .ok (.istore 4, 2) := by decide +kernel
theorem d_Pk_encodeRow_64 : decode b_Pk_encodeRow 64 = .ok (.goto 54, 3) := by decide +kernel
theorem d_Pk_encodeRow_67 : decode b_Pk_encodeRow 67 = .ok (.aload_n 0, 1) := by decide +kernel
theorem d_Pk_encodeRow_68 : decode b_Pk_encodeRow 68 = .ok (.iload 4, 2) := by decide +kernel
theorem d_Pk_encodeRow_70 : decode b_Pk_encodeRow 70 = .ok (.iload_n 2, 1) := by decide +kernel
theorem d_Pk_encodeRow_71 : decode b_Pk_encodeRow 71 = .ok (.invokestatic 23, 3) := by decide +kernel
theorem d_Pk_encodeRow_74 : decode b_Pk_encodeRow 74 = .ok (.istore 6, 2) := by decide +kernel
theorem d_Pk_encodeRow_76 : decode b_Pk_encodeRow 76 = .ok (.aload_n 3, 1) := by decide +kernel
theorem d_Pk_encodeRow_77 : decode b_Pk_encodeRow 77 = .ok (.iload 6, 2) := by decide +kernel
theorem d_Pk_encodeRow_79 : decode b_Pk_encodeRow 79 = .ok (.iconst 1, 1) := by decide +kernel
theorem d_Pk_encodeRow_80 : decode b_Pk_encodeRow 80 = .ok (.isub, 1) := by decide +kernel
theorem d_Pk_encodeRow_81 : decode b_Pk_encodeRow 81 = .ok (.invokevirtual 17, 3) := by decide +kernel
theorem d_Pk_encodeRow_84 : decode b_Pk_encodeRow 84 = .ok (.iconst 0, 1) := by decide +kernel
theorem d_Pk_encodeRow_85 : decode b_Pk_encodeRow 85 = .ok (.istore 7, 2) := by decide +kernel
theorem d_Pk_encodeRow_87 : decode b_Pk_encodeRow 87 = .ok (.iload 7, 2) := by decide +kernel
theorem d_Pk_encodeRow_89 : decode b_Pk_encodeRow 89 = .ok (.iload 6, 2) := by decide +kernel
theorem d_Pk_encodeRow_91 : decode b_Pk_encodeRow 91 = .ok (.if_icmp .ge 20, 3) := by decide +kernel
theorem d_Pk_encodeRow_94 : decode b_Pk_encodeRow 94 = .ok (.aload_n 3, 1) := by decide +kernel
theorem d_Pk_encodeRow_95 : decode b_Pk_encodeRow 95 = .ok (.aload_n 0, 1) := by decide +kernel
theorem d_Pk_encodeRow_96 : decode b_Pk_encodeRow 96 = .ok (.iload 4, 2) := by decide +kernel
theorem d_Pk_encodeRow_98 : decode b_Pk_encodeRow 98 = .ok (.iload 7, 2) := by decide +kernel
theorem d_Pk_encodeRow_100 : decode b_Pk_encodeRow 100 = .ok (.iadd, 1) := by decide +kernel
theorem d_Pk_encodeRow_101 : decode b_Pk_encodeRow 101 = .ok (.iaload, 1) := by decide +kernel
theorem d_Pk_encodeRow_102 : decode b_Pk_encodeRow 102 = .ok (.invokevirtual 17, 3) := by decide +kernel
theorem d_Pk_encodeRow_105 : decode b_Pk_encodeRow 105 = .ok (.iinc 7 1, 3) := by decide +kernel
theorem d_Pk_encodeRow_108 : decode b_Pk_encodeRow 108 = .ok (.goto (-21), 3) := by decide +kernel
theorem d_Pk_encodeRow_111 : decode b_Pk_encodeRow 111 = .ok (.iload 4, 2) := by decide +kernel
theorem d_Pk_encodeRow_113 : decode b_Pk_encodeRow 113 = .ok (.iload 6, 2) := by decide +kernel
theorem d_Pk_encodeRow_115 : decode b_Pk_encodeRow 115 = .ok (.iadd, 1) := by decide +kernel
theorem d_Pk_encodeRow_116 : decode b_Pk_encodeRow 116 = .ok (.istore 4, 2) := by decide +kernel
theorem d_Pk_encodeRow_118 : decode b_Pk_encodeRow 118 = .ok (.iinc 5 1, 3) := by decide +kernel
theorem d_Pk_encodeRow_121 : decode b_Pk_encodeRow 121 = .ok (.goto (-115), 3) := by decide +kernel
theorem d_Pk_encodeRow_124 : decode b_Pk_encodeRow 124 = .ok (.return_, 1) := by decide +kernel
def wp_Pk_encodeRow_b118 (post : (Nat → Int32) → (Nat → Int32) → Prop) (k6 : (Nat → Int32) → (Nat → Int32) → Int32 → Int32 → Int32 → Int32 → Prop) (f_p0 : Nat → Int32) (I_p3 : Nat → Int32) (f_p3_bytes : Nat → Int32) (x1 : Int32) (x2 : Int32) (x4 : Int32) (x5 : Int32) : Prop :=
  k6 I_p3 f_p3_bytes x1 x2 x4 (x5 + 1)
def wp_Pk_encodeRow_l87 (post : (Nat → Int32) → (Nat → Int32) → Prop) (k6 : (Nat → Int32) → (Nat → Int32) → Int32 → Int32 → Int32 → Int32 → Prop) (f_p0 : Nat → Int32) : Nat → (Nat → Int32) → (Nat → Int32) → Int32 → Int32 → Int32 → Int32 → Int32 → Int32 → Prop
  | 0, _, _, _, _, _, _, _, _ => False
  | n + 1, I_p3, f_p3_bytes, x1, x2, x4, x5, x6, x7 =>
    ((x6 ≤ x7 →
      wp_Pk_encodeRow_b118 post k6 f_p0 I_p3 f_p3_bytes x1 x2 (x4 + x6) x5) ∧
     (¬ x6 ≤ x7 →
      vp_in (x4 + x7) 256 ∧
      wp_St_append (fun (I_p3_102 : Nat → Int32) (f_p3_bytes_102 : Nat → Int32) =>
        wp_Pk_encodeRow_l87 post k6 f_p0 n I_p3_102 f_p3_bytes_102 x1 x2 x4 x5 x6 (x7 + 1)) I_p3 f_p3_bytes (f_p0 (x4 + x7).toNatClampNeg)))
def wp_Pk_encodeRow_l6 (post : (Nat → Int32) → (Nat → Int32) → Prop) (f_p0 : Nat → Int32) : Nat → (Nat → Int32) → (Nat → Int32) → Int32 → Int32 → Int32 → Int32 → Prop
  | 0, _, _, _, _, _, _ => False
  | n + 1, I_p3, f_p3_bytes, x1, x2, x4, x5 =>
    (((x2 - x1) ≤ x5 →
      post I_p3 f_p3_bytes) ∧
     (¬ (x2 - x1) ≤ x5 →
      ((x2 ≤ x4 →
        post I_p3 f_p3_bytes) ∧
       (¬ x2 ≤ x4 →
        wp_Pk_threeEqualBegin (fun (r24 : Int32) =>
          ((r24 = 0 →
            wp_Pk_bytesUpToThreeEqual (fun (r71 : Int32) =>
              wp_St_append (fun (I_p3_81 : Nat → Int32) (f_p3_bytes_81 : Nat → Int32) =>
                (∃ n1 : Nat, wp_Pk_encodeRow_l87 post (wp_Pk_encodeRow_l6 post f_p0 n) f_p0 n1 I_p3_81 f_p3_bytes_81 x1 x2 x4 x5 r71 0)) I_p3 f_p3_bytes (r71 - 1)) f_p0 x4 x2) ∧
           (¬ r24 = 0 →
            wp_Pk_equalBytes (fun (r34 : Int32) =>
              wp_St_append (fun (I_p3_46 : Nat → Int32) (f_p3_bytes_46 : Nat → Int32) =>
                vp_in x4 256 ∧
                wp_St_append (fun (I_p3_54 : Nat → Int32) (f_p3_bytes_54 : Nat → Int32) =>
                  wp_Pk_encodeRow_b118 post (wp_Pk_encodeRow_l6 post f_p0 n) f_p0 I_p3_54 f_p3_bytes_54 x1 x2 (x4 + r34) x5) I_p3_46 f_p3_bytes_46 (f_p0 (x4).toNatClampNeg)) I_p3 f_p3_bytes (257 - r34)) f_p0 x4 x2))) f_p0 x4 x2))))
def wp_Pk_encodeRow (post : (Nat → Int32) → (Nat → Int32) → Prop) (f_p0 : Nat → Int32) (I_p3 : Nat → Int32) (f_p3_bytes : Nat → Int32) (x1 : Int32) (x2 : Int32) : Prop :=
  (∃ n1 : Nat, wp_Pk_encodeRow_l6 post f_p0 n1 I_p3 f_p3_bytes x1 x2 x1 0)
set_option maxRecDepth 100000 in
set_option maxHeartbeats 4000000 in
theorem c_Pk_encodeRow (l : Launch) (dC : Nat → ClassId) (dI : Nat → Nat → Nat) (cI : ClassId) (a_p0 : Nat) (a_p3 : Nat) (A_p3 : Nat → Nat) (f_p0 : Nat → Int32) (I_p3 : Nat → Int32) (f_p3_bytes : Nat → Int32) (x1 : Int32) (x2 : Int32) {post : (Nat → Int32) → (Nat → Int32) → Prop} (hw : wp_Pk_encodeRow post f_p0 I_p3 f_p3_bytes x1 x2) : gm_v l y_Pk_encodeRow ws_Pk_encodeRow ({ frames := 2, cells := 0, slots := 0, locals := 45 } : Room) (dC, dI) vwCl [(cI, .int)] [.ref a_p0, .int x1, .int x2, .ref a_p3] [gz cI a_p0 256 f_p0, oSt a_p3 A_p3 I_p3, gz cI (A_p3 0) 900 f_p3_bytes] (fun (u : (Nat → Int32) × (Nat → Int32)) => [gz cI a_p0 256 f_p0, oSt a_p3 A_p3 u.1, gz cI (A_p3 0) 900 u.2]) (fun (u : (Nat → Int32) × (Nat → Int32)) => post  u.1 u.2) := by
  refine gm_vof (cc := b_Pk_encodeRow) (maxL := 8) (by decide) rfl (Nat.le_of_ble_eq_true rfl) ?_
  intro p e s m args below meth c A Q hx hb hml hown hg hK hN hA hnm hret
  have hown : s.vm.findClass R_Pk = some m.cls := hown
  have b118 : ∀ (k6 : (Nat → Int32) → (Nat → Int32) → Int32 → Int32 → Int32 → Int32 → Prop), (∀ (H : Heap) (locs : List Loc) (ls : Array Slot) (I_p3 : Nat → Int32) (f_p3_bytes : Nat → Int32) (x1 : Int32) (x2 : Int32) (x4 : Int32) (x5 : Int32), va_P (dC, dI) vwCl [gz cI a_p0 256 f_p0, oSt a_p3 A_p3 I_p3, gz cI (A_p3 0) 900 f_p3_bytes] H → va_D A [gz cI a_p0 256 f_p0, oSt a_p3 A_p3 I_p3, gz cI (A_p3 0) 900 f_p3_bytes] → va_S A s.heap H locs → lv_has ls 8 [(0, .ref a_p0), (1, .int x1), (2, .int x2), (3, .ref a_p3), (4, .int x4), (5, .int x5)] → k6 I_p3 f_p3_bytes x1 x2 x4 x5 → W p l e ({ frames := 2, cells := 0, slots := 0, locals := 45 } : Room) s m args below meth c H locs 0 0 Q (F0 m 6 ls [])) → ∀ (H : Heap) (locs : List Loc) (ls : Array Slot) (I_p3 : Nat → Int32) (f_p3_bytes : Nat → Int32) (x1 : Int32) (x2 : Int32) (x4 : Int32) (x5 : Int32), va_P (dC, dI) vwCl [gz cI a_p0 256 f_p0, oSt a_p3 A_p3 I_p3, gz cI (A_p3 0) 900 f_p3_bytes] H → va_D A [gz cI a_p0 256 f_p0, oSt a_p3 A_p3 I_p3, gz cI (A_p3 0) 900 f_p3_bytes] → va_S A s.heap H locs → lv_has ls 8 [(0, .ref a_p0), (1, .int x1), (2, .int x2), (3, .ref a_p3), (4, .int x4), (5, .int x5)] → wp_Pk_encodeRow_b118 post k6 f_p0 I_p3 f_p3_bytes x1 x2 x4 x5 → W p l e ({ frames := 2, cells := 0, slots := 0, locals := 45 } : Room) s m args below meth c H locs 0 0 Q (F0 m 118 ls []) := by
    intro k6 hk6 H locs ls I_p3 f_p3_bytes x1 x2 x4 x5 hP hD hS hl hw
    unfold wp_Pk_encodeRow_b118 at hw
    refine lv_iinc (k := 5) (v := (x5 + 1)) (lv' := [(5, .int (x5 + 1)), (0, .ref a_p0), (1, .int x1), (2, .int x2), (3, .ref a_p3), (4, .int x4)]) hx hb d_Pk_encodeRow_118 hl rfl (congrArg (fun z => x5 + z) (by decide : Int32.ofInt 1 = 1)) (by decide) rfl (fun ls hl => ?_)
    refine lv_goto hx hb d_Pk_encodeRow_121 rfl ?_
    exact hk6 _ _ _ I_p3 f_p3_bytes x1 x2 x4 (x5 + 1) hP hD hS (lv_sub hl [1, 2, 3, 4, 5, 0] rfl) hw
  have l87 : ∀ (k6 : (Nat → Int32) → (Nat → Int32) → Int32 → Int32 → Int32 → Int32 → Prop), (∀ (H : Heap) (locs : List Loc) (ls : Array Slot) (I_p3 : Nat → Int32) (f_p3_bytes : Nat → Int32) (x1 : Int32) (x2 : Int32) (x4 : Int32) (x5 : Int32), va_P (dC, dI) vwCl [gz cI a_p0 256 f_p0, oSt a_p3 A_p3 I_p3, gz cI (A_p3 0) 900 f_p3_bytes] H → va_D A [gz cI a_p0 256 f_p0, oSt a_p3 A_p3 I_p3, gz cI (A_p3 0) 900 f_p3_bytes] → va_S A s.heap H locs → lv_has ls 8 [(0, .ref a_p0), (1, .int x1), (2, .int x2), (3, .ref a_p3), (4, .int x4), (5, .int x5)] → k6 I_p3 f_p3_bytes x1 x2 x4 x5 → W p l e ({ frames := 2, cells := 0, slots := 0, locals := 45 } : Room) s m args below meth c H locs 0 0 Q (F0 m 6 ls [])) → ∀ n : Nat, ∀ (H : Heap) (locs : List Loc) (ls : Array Slot) (I_p3 : Nat → Int32) (f_p3_bytes : Nat → Int32) (x1 : Int32) (x2 : Int32) (x4 : Int32) (x5 : Int32) (x6 : Int32) (x7 : Int32), va_P (dC, dI) vwCl [gz cI a_p0 256 f_p0, oSt a_p3 A_p3 I_p3, gz cI (A_p3 0) 900 f_p3_bytes] H → va_D A [gz cI a_p0 256 f_p0, oSt a_p3 A_p3 I_p3, gz cI (A_p3 0) 900 f_p3_bytes] → va_S A s.heap H locs → lv_has ls 8 [(0, .ref a_p0), (1, .int x1), (2, .int x2), (3, .ref a_p3), (4, .int x4), (5, .int x5), (6, .int x6), (7, .int x7)] → wp_Pk_encodeRow_l87 post k6 f_p0 n I_p3 f_p3_bytes x1 x2 x4 x5 x6 x7 → W p l e ({ frames := 2, cells := 0, slots := 0, locals := 45 } : Room) s m args below meth c H locs 0 0 Q (F0 m 87 ls []) := by
    intro k6 hk6 n
    induction n with
    | zero => intro H locs ls I_p3 f_p3_bytes x1 x2 x4 x5 x6 x7 hP hD hS hl hw; exact hw.elim
    | succ n ih =>
      intro H locs ls I_p3 f_p3_bytes x1 x2 x4 x5 x6 x7 hP hD hS hl hw
      unfold wp_Pk_encodeRow_l87 at hw
      refine lv_iload hx hb d_Pk_encodeRow_87 (lv_at hl 7 rfl) ?_
      refine lv_iload hx hb d_Pk_encodeRow_89 (lv_at hl 6 rfl) ?_
      refine lv_icmp_ge hx hb d_Pk_encodeRow_91 rfl (fun hc => ?_) (fun hc => ?_)
      · have hw := hw.1 hc
        refine lv_iload hx hb d_Pk_encodeRow_111 (lv_at hl 4 rfl) ?_
        refine lv_iload hx hb d_Pk_encodeRow_113 (lv_at hl 6 rfl) ?_
        refine lv_iadd hx hb d_Pk_encodeRow_115 ?_
        refine lv_istore (lv' := [(4, .int (x4 + x6)), (0, .ref a_p0), (1, .int x1), (2, .int x2), (3, .ref a_p3), (5, .int x5), (6, .int x6), (7, .int x7)]) hx hb d_Pk_encodeRow_116 hl (by decide) rfl (fun ls hl => ?_)
        exact b118 _ hk6 _ _ _ I_p3 f_p3_bytes x1 x2 (x4 + x6) x5 hP hD hS (lv_sub hl [1, 2, 3, 4, 0, 5] rfl) hw
      · have hw := hw.2 hc
        refine lv_aload_n hx hb d_Pk_encodeRow_94 rfl (lv_at hl 3 rfl) ?_
        refine lv_aload_n hx hb d_Pk_encodeRow_95 rfl (lv_at hl 0 rfl) ?_
        refine lv_iload hx hb d_Pk_encodeRow_96 (lv_at hl 4 rfl) ?_
        refine lv_iload hx hb d_Pk_encodeRow_98 (lv_at hl 7 rfl) ?_
        refine lv_iadd hx hb d_Pk_encodeRow_100 ?_
        obtain ⟨hin, hw⟩ := hw
        refine va_iald hx hb hK hP 0 0 rfl rfl hin d_Pk_encodeRow_101 ?_
        refine gc_v (wn := fun u => [gz cI a_p0 256 f_p0, oSt a_p3 A_p3 u.1, gz cI (A_p3 0) 900 u.2]) (wr := [gz cI a_p0 256 f_p0]) (gr_V (As := [.int (f_p0 (x4 + x7).toNatClampNeg)]) (rest := []) ⟨hx, hb, hml, hown, hg⟩ (c_St_append l dC dI cI a_p3 A_p3 I_p3 f_p3_bytes (f_p0 (x4 + x7).toNatClampNeg) hw _) (cwV 1 hg (gg_V t_552 t_285 t_286 t_61 t_287) rfl rfl rfl (by decide +kernel) ⟨Nat.le_of_ble_eq_true rfl, Nat.le_of_ble_eq_true rfl⟩) hK hN hP hD [1, 2] (by decide) rfl 1 7 rfl rfl rfl rfl hl.1 rfl (Nat.le_of_ble_eq_true rfl) d_Pk_encodeRow_102 ⟨Nat.le_of_ble_eq_true rfl, Nat.le_of_ble_eq_true rfl⟩) rfl rfl hP hD hS hA [1, 2] [0] [0, 1, 2] rfl rfl (by decide) (by decide) (by decide) (fun _ => rfl) ?_
        intro u9 H locs hw hP hD hS
        obtain ⟨I_p3_102, f_p3_bytes_102⟩ := u9
        try dsimp only at hw
        have hP : va_P (dC, dI) vwCl [gz cI a_p0 256 f_p0, oSt a_p3 A_p3 I_p3_102, gz cI (A_p3 0) 900 f_p3_bytes_102] H := hP
        have hD : va_D A [gz cI a_p0 256 f_p0, oSt a_p3 A_p3 I_p3_102, gz cI (A_p3 0) 900 f_p3_bytes_102] := hD
        refine lv_iinc (k := 7) (v := (x7 + 1)) (lv' := [(7, .int (x7 + 1)), (0, .ref a_p0), (1, .int x1), (2, .int x2), (3, .ref a_p3), (4, .int x4), (5, .int x5), (6, .int x6)]) hx hb d_Pk_encodeRow_105 hl rfl (congrArg (fun z => x7 + z) (by decide : Int32.ofInt 1 = 1)) (by decide) rfl (fun ls hl => ?_)
        refine lv_goto hx hb d_Pk_encodeRow_108 rfl ?_
        exact ih _ _ _ I_p3_102 f_p3_bytes_102 x1 x2 x4 x5 x6 (x7 + 1) hP hD hS (lv_sub hl [1, 2, 3, 4, 5, 6, 7, 0] rfl) hw
  have l6 : ∀ n : Nat, ∀ (H : Heap) (locs : List Loc) (ls : Array Slot) (I_p3 : Nat → Int32) (f_p3_bytes : Nat → Int32) (x1 : Int32) (x2 : Int32) (x4 : Int32) (x5 : Int32), va_P (dC, dI) vwCl [gz cI a_p0 256 f_p0, oSt a_p3 A_p3 I_p3, gz cI (A_p3 0) 900 f_p3_bytes] H → va_D A [gz cI a_p0 256 f_p0, oSt a_p3 A_p3 I_p3, gz cI (A_p3 0) 900 f_p3_bytes] → va_S A s.heap H locs → lv_has ls 8 [(0, .ref a_p0), (1, .int x1), (2, .int x2), (3, .ref a_p3), (4, .int x4), (5, .int x5)] → wp_Pk_encodeRow_l6 post f_p0 n I_p3 f_p3_bytes x1 x2 x4 x5 → W p l e ({ frames := 2, cells := 0, slots := 0, locals := 45 } : Room) s m args below meth c H locs 0 0 Q (F0 m 6 ls []) := by
    intro n
    induction n with
    | zero => intro H locs ls I_p3 f_p3_bytes x1 x2 x4 x5 hP hD hS hl hw; exact hw.elim
    | succ n ih =>
      intro H locs ls I_p3 f_p3_bytes x1 x2 x4 x5 hP hD hS hl hw
      unfold wp_Pk_encodeRow_l6 at hw
      refine lv_iload hx hb d_Pk_encodeRow_6 (lv_at hl 5 rfl) ?_
      refine lv_iload_n hx hb d_Pk_encodeRow_8 rfl (lv_at hl 2 rfl) ?_
      refine lv_iload_n hx hb d_Pk_encodeRow_9 rfl (lv_at hl 1 rfl) ?_
      refine lv_isub hx hb d_Pk_encodeRow_10 ?_
      refine lv_icmp_ge hx hb d_Pk_encodeRow_11 rfl (fun hc => ?_) (fun hc => ?_)
      · have hw := hw.1 hc
        exact hret _ _ _ _ (I_p3, f_p3_bytes) d_Pk_encodeRow_124 hP hD hS hw
      · have hw := hw.2 hc
        refine lv_iload hx hb d_Pk_encodeRow_14 (lv_at hl 4 rfl) ?_
        refine lv_iload_n hx hb d_Pk_encodeRow_16 rfl (lv_at hl 2 rfl) ?_
        refine lv_icmp_ge hx hb d_Pk_encodeRow_17 rfl (fun hc => ?_) (fun hc => ?_)
        · have hw := hw.1 hc
          exact hret _ _ _ _ (I_p3, f_p3_bytes) d_Pk_encodeRow_124 hP hD hS hw
        · have hw := hw.2 hc
          refine lv_aload_n hx hb d_Pk_encodeRow_20 rfl (lv_at hl 0 rfl) ?_
          refine lv_iload hx hb d_Pk_encodeRow_21 (lv_at hl 4 rfl) ?_
          refine lv_iload_n hx hb d_Pk_encodeRow_23 rfl (lv_at hl 2 rfl) ?_
          refine gc_i (wn := fun (_ : Unit) => [gz cI a_p0 256 f_p0, oSt a_p3 A_p3 I_p3, gz cI (A_p3 0) 900 f_p3_bytes]) (wr := [oSt a_p3 A_p3 I_p3, gz cI (A_p3 0) 900 f_p3_bytes]) (gr_S (As := [.ref a_p0, .int x4, .int x2]) (rest := []) ⟨hx, hb, hml, hown, hg⟩ (c_Pk_threeEqualBegin l dC dI cI a_p0 f_p0 x4 x2 hw _) (va_cwS 3 hg (gg_S t_546 t_547 t_73 t_548) rfl rfl rfl (by decide +kernel) ⟨Nat.le_of_ble_eq_true rfl, Nat.le_of_ble_eq_true rfl⟩) hK hN hP hD [0] (by decide) rfl rfl hl.1 rfl (Nat.le_of_ble_eq_true rfl) d_Pk_encodeRow_24 ⟨Nat.le_of_ble_eq_true rfl, Nat.le_of_ble_eq_true rfl⟩) rfl rfl hP hD hS hA [0] [1, 2] [2, 0, 1] rfl rfl (by decide) (by decide) (by decide) (fun _ => rfl) ?_
          intro r24 _ H locs hw hP hD hS
          try dsimp only at hw
          have hP : va_P (dC, dI) vwCl [gz cI a_p0 256 f_p0, oSt a_p3 A_p3 I_p3, gz cI (A_p3 0) 900 f_p3_bytes] H := hP
          have hD : va_D A [gz cI a_p0 256 f_p0, oSt a_p3 A_p3 I_p3, gz cI (A_p3 0) 900 f_p3_bytes] := hD
          refine lv_if_eq hx hb d_Pk_encodeRow_27 rfl (fun hc => ?_) (fun hc => ?_)
          · have hw := hw.1 hc
            refine lv_aload_n hx hb d_Pk_encodeRow_67 rfl (lv_at hl 0 rfl) ?_
            refine lv_iload hx hb d_Pk_encodeRow_68 (lv_at hl 4 rfl) ?_
            refine lv_iload_n hx hb d_Pk_encodeRow_70 rfl (lv_at hl 2 rfl) ?_
            refine gc_i (wn := fun (_ : Unit) => [gz cI a_p0 256 f_p0, oSt a_p3 A_p3 I_p3, gz cI (A_p3 0) 900 f_p3_bytes]) (wr := [oSt a_p3 A_p3 I_p3, gz cI (A_p3 0) 900 f_p3_bytes]) (gr_S (As := [.ref a_p0, .int x4, .int x2]) (rest := []) ⟨hx, hb, hml, hown, hg⟩ (c_Pk_bytesUpToThreeEqual l dC dI cI a_p0 f_p0 x4 x2 hw _) (va_cwS 3 hg (gg_S t_553 t_554 t_73 t_555) rfl rfl rfl (by decide +kernel) ⟨Nat.le_of_ble_eq_true rfl, Nat.le_of_ble_eq_true rfl⟩) hK hN hP hD [0] (by decide) rfl rfl hl.1 rfl (Nat.le_of_ble_eq_true rfl) d_Pk_encodeRow_71 ⟨Nat.le_of_ble_eq_true rfl, Nat.le_of_ble_eq_true rfl⟩) rfl rfl hP hD hS hA [0] [1, 2] [2, 0, 1] rfl rfl (by decide) (by decide) (by decide) (fun _ => rfl) ?_
            intro r71 _ H locs hw hP hD hS
            try dsimp only at hw
            have hP : va_P (dC, dI) vwCl [gz cI a_p0 256 f_p0, oSt a_p3 A_p3 I_p3, gz cI (A_p3 0) 900 f_p3_bytes] H := hP
            have hD : va_D A [gz cI a_p0 256 f_p0, oSt a_p3 A_p3 I_p3, gz cI (A_p3 0) 900 f_p3_bytes] := hD
            refine lv_istore (lv' := [(6, .int r71), (0, .ref a_p0), (1, .int x1), (2, .int x2), (3, .ref a_p3), (4, .int x4), (5, .int x5)]) hx hb d_Pk_encodeRow_74 hl (by decide) rfl (fun ls hl => ?_)
            refine lv_aload_n hx hb d_Pk_encodeRow_76 rfl (lv_at hl 4 rfl) ?_
            refine lv_iload hx hb d_Pk_encodeRow_77 (lv_at hl 0 rfl) ?_
            refine lv_iconst (v := 1) hx hb d_Pk_encodeRow_79 (by decide) ?_
            refine lv_isub hx hb d_Pk_encodeRow_80 ?_
            refine gc_v (wn := fun u => [gz cI a_p0 256 f_p0, oSt a_p3 A_p3 u.1, gz cI (A_p3 0) 900 u.2]) (wr := [gz cI a_p0 256 f_p0]) (gr_V (As := [.int (r71 - 1)]) (rest := []) ⟨hx, hb, hml, hown, hg⟩ (c_St_append l dC dI cI a_p3 A_p3 I_p3 f_p3_bytes (r71 - 1) hw _) (cwV 1 hg (gg_V t_552 t_285 t_286 t_61 t_287) rfl rfl rfl (by decide +kernel) ⟨Nat.le_of_ble_eq_true rfl, Nat.le_of_ble_eq_true rfl⟩) hK hN hP hD [1, 2] (by decide) rfl 1 7 rfl rfl rfl rfl hl.1 rfl (Nat.le_of_ble_eq_true rfl) d_Pk_encodeRow_81 ⟨Nat.le_of_ble_eq_true rfl, Nat.le_of_ble_eq_true rfl⟩) rfl rfl hP hD hS hA [1, 2] [0] [0, 1, 2] rfl rfl (by decide) (by decide) (by decide) (fun _ => rfl) ?_
            intro u9 H locs hw hP hD hS
            obtain ⟨I_p3_81, f_p3_bytes_81⟩ := u9
            try dsimp only at hw
            have hP : va_P (dC, dI) vwCl [gz cI a_p0 256 f_p0, oSt a_p3 A_p3 I_p3_81, gz cI (A_p3 0) 900 f_p3_bytes_81] H := hP
            have hD : va_D A [gz cI a_p0 256 f_p0, oSt a_p3 A_p3 I_p3_81, gz cI (A_p3 0) 900 f_p3_bytes_81] := hD
            refine lv_iconst (v := 0) hx hb d_Pk_encodeRow_84 (by decide) ?_
            refine lv_istore (lv' := [(7, .int 0), (6, .int r71), (0, .ref a_p0), (1, .int x1), (2, .int x2), (3, .ref a_p3), (4, .int x4), (5, .int x5)]) hx hb d_Pk_encodeRow_85 hl (by decide) rfl (fun ls hl => ?_)
            obtain ⟨n1, hw⟩ := hw
            exact l87 _ ih n1 _ _ _ I_p3_81 f_p3_bytes_81 x1 x2 x4 x5 r71 0 hP hD hS (lv_sub hl [2, 3, 4, 5, 6, 7, 1, 0] rfl) hw
          · have hw := hw.2 hc
            refine lv_aload_n hx hb d_Pk_encodeRow_30 rfl (lv_at hl 0 rfl) ?_
            refine lv_iload hx hb d_Pk_encodeRow_31 (lv_at hl 4 rfl) ?_
            refine lv_iload_n hx hb d_Pk_encodeRow_33 rfl (lv_at hl 2 rfl) ?_
            refine gc_i (wn := fun (_ : Unit) => [gz cI a_p0 256 f_p0, oSt a_p3 A_p3 I_p3, gz cI (A_p3 0) 900 f_p3_bytes]) (wr := [oSt a_p3 A_p3 I_p3, gz cI (A_p3 0) 900 f_p3_bytes]) (gr_S (As := [.ref a_p0, .int x4, .int x2]) (rest := []) ⟨hx, hb, hml, hown, hg⟩ (c_Pk_equalBytes l dC dI cI a_p0 f_p0 x4 x2 hw _) (va_cwS 3 hg (gg_S t_549 t_550 t_73 t_551) rfl rfl rfl (by decide +kernel) ⟨Nat.le_of_ble_eq_true rfl, Nat.le_of_ble_eq_true rfl⟩) hK hN hP hD [0] (by decide) rfl rfl hl.1 rfl (Nat.le_of_ble_eq_true rfl) d_Pk_encodeRow_34 ⟨Nat.le_of_ble_eq_true rfl, Nat.le_of_ble_eq_true rfl⟩) rfl rfl hP hD hS hA [0] [1, 2] [2, 0, 1] rfl rfl (by decide) (by decide) (by decide) (fun _ => rfl) ?_
            intro r34 _ H locs hw hP hD hS
            try dsimp only at hw
            have hP : va_P (dC, dI) vwCl [gz cI a_p0 256 f_p0, oSt a_p3 A_p3 I_p3, gz cI (A_p3 0) 900 f_p3_bytes] H := hP
            have hD : va_D A [gz cI a_p0 256 f_p0, oSt a_p3 A_p3 I_p3, gz cI (A_p3 0) 900 f_p3_bytes] := hD
            refine lv_istore (lv' := [(6, .int r34), (0, .ref a_p0), (1, .int x1), (2, .int x2), (3, .ref a_p3), (4, .int x4), (5, .int x5)]) hx hb d_Pk_encodeRow_37 hl (by decide) rfl (fun ls hl => ?_)
            refine lv_aload_n hx hb d_Pk_encodeRow_39 rfl (lv_at hl 4 rfl) ?_
            refine lv_sipush (v := 257) hx hb d_Pk_encodeRow_40 (by decide) ?_
            refine lv_iload hx hb d_Pk_encodeRow_43 (lv_at hl 0 rfl) ?_
            refine lv_isub hx hb d_Pk_encodeRow_45 ?_
            refine gc_v (wn := fun u => [gz cI a_p0 256 f_p0, oSt a_p3 A_p3 u.1, gz cI (A_p3 0) 900 u.2]) (wr := [gz cI a_p0 256 f_p0]) (gr_V (As := [.int (257 - r34)]) (rest := []) ⟨hx, hb, hml, hown, hg⟩ (c_St_append l dC dI cI a_p3 A_p3 I_p3 f_p3_bytes (257 - r34) hw _) (cwV 1 hg (gg_V t_552 t_285 t_286 t_61 t_287) rfl rfl rfl (by decide +kernel) ⟨Nat.le_of_ble_eq_true rfl, Nat.le_of_ble_eq_true rfl⟩) hK hN hP hD [1, 2] (by decide) rfl 1 7 rfl rfl rfl rfl hl.1 rfl (Nat.le_of_ble_eq_true rfl) d_Pk_encodeRow_46 ⟨Nat.le_of_ble_eq_true rfl, Nat.le_of_ble_eq_true rfl⟩) rfl rfl hP hD hS hA [1, 2] [0] [0, 1, 2] rfl rfl (by decide) (by decide) (by decide) (fun _ => rfl) ?_
            intro u9 H locs hw hP hD hS
            obtain ⟨I_p3_46, f_p3_bytes_46⟩ := u9
            try dsimp only at hw
            have hP : va_P (dC, dI) vwCl [gz cI a_p0 256 f_p0, oSt a_p3 A_p3 I_p3_46, gz cI (A_p3 0) 900 f_p3_bytes_46] H := hP
            have hD : va_D A [gz cI a_p0 256 f_p0, oSt a_p3 A_p3 I_p3_46, gz cI (A_p3 0) 900 f_p3_bytes_46] := hD
            refine lv_aload_n hx hb d_Pk_encodeRow_49 rfl (lv_at hl 4 rfl) ?_
            refine lv_aload_n hx hb d_Pk_encodeRow_50 rfl (lv_at hl 1 rfl) ?_
            refine lv_iload hx hb d_Pk_encodeRow_51 (lv_at hl 5 rfl) ?_
            obtain ⟨hin, hw⟩ := hw
            refine va_iald hx hb hK hP 0 0 rfl rfl hin d_Pk_encodeRow_53 ?_
            refine gc_v (wn := fun u => [gz cI a_p0 256 f_p0, oSt a_p3 A_p3 u.1, gz cI (A_p3 0) 900 u.2]) (wr := [gz cI a_p0 256 f_p0]) (gr_V (As := [.int (f_p0 (x4).toNatClampNeg)]) (rest := []) ⟨hx, hb, hml, hown, hg⟩ (c_St_append l dC dI cI a_p3 A_p3 I_p3_46 f_p3_bytes_46 (f_p0 (x4).toNatClampNeg) hw _) (cwV 1 hg (gg_V t_552 t_285 t_286 t_61 t_287) rfl rfl rfl (by decide +kernel) ⟨Nat.le_of_ble_eq_true rfl, Nat.le_of_ble_eq_true rfl⟩) hK hN hP hD [1, 2] (by decide) rfl 1 7 rfl rfl rfl rfl hl.1 rfl (Nat.le_of_ble_eq_true rfl) d_Pk_encodeRow_54 ⟨Nat.le_of_ble_eq_true rfl, Nat.le_of_ble_eq_true rfl⟩) rfl rfl hP hD hS hA [1, 2] [0] [0, 1, 2] rfl rfl (by decide) (by decide) (by decide) (fun _ => rfl) ?_
            intro u9 H locs hw hP hD hS
            obtain ⟨I_p3_54, f_p3_bytes_54⟩ := u9
            try dsimp only at hw
            have hP : va_P (dC, dI) vwCl [gz cI a_p0 256 f_p0, oSt a_p3 A_p3 I_p3_54, gz cI (A_p3 0) 900 f_p3_bytes_54] H := hP
            have hD : va_D A [gz cI a_p0 256 f_p0, oSt a_p3 A_p3 I_p3_54, gz cI (A_p3 0) 900 f_p3_bytes_54] := hD
            refine lv_iload hx hb d_Pk_encodeRow_57 (lv_at hl 5 rfl) ?_
            refine lv_iload hx hb d_Pk_encodeRow_59 (lv_at hl 0 rfl) ?_
            refine lv_iadd hx hb d_Pk_encodeRow_61 ?_
            refine lv_istore (lv' := [(4, .int (x4 + r34)), (6, .int r34), (0, .ref a_p0), (1, .int x1), (2, .int x2), (3, .ref a_p3), (5, .int x5)]) hx hb d_Pk_encodeRow_62 hl (by decide) rfl (fun ls hl => ?_)
            refine lv_goto hx hb d_Pk_encodeRow_64 rfl ?_
            exact b118 _ ih _ _ _ I_p3_54 f_p3_bytes_54 x1 x2 (x4 + r34) x5 hP hD hS (lv_sub hl [2, 3, 4, 5, 0, 6] rfl) hw
  intro ls hl hP hD hS
  have hl : lv_has ls 8 [(0, .ref a_p0), (1, .int x1), (2, .int x2), (3, .ref a_p3)] := hl
  unfold wp_Pk_encodeRow at hw
  refine lv_iload_n hx hb d_Pk_encodeRow_0 rfl (lv_at hl 1 rfl) ?_
  refine lv_istore (lv' := [(4, .int x1), (0, .ref a_p0), (1, .int x1), (2, .int x2), (3, .ref a_p3)]) hx hb d_Pk_encodeRow_1 hl (by decide) rfl (fun ls hl => ?_)
  refine lv_iconst (v := 0) hx hb d_Pk_encodeRow_3 (by decide) ?_
  refine lv_istore (lv' := [(5, .int 0), (4, .int x1), (0, .ref a_p0), (1, .int x1), (2, .int x2), (3, .ref a_p3)]) hx hb d_Pk_encodeRow_4 hl (by decide) rfl (fun ls hl => ?_)
  obtain ⟨n1, hw⟩ := hw
  exact l6 n1 _ _ _ I_p3 f_p3_bytes x1 x2 x1 0 hP hD hS (lv_sub hl [2, 3, 4, 5, 1, 0] rfl) hw
