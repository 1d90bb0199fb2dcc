theorem d_M_unpack_0 : decode b_M_unpack 0 = .ok (.iload_n 1, 1) := by decide +kernel
theorem d_M_unpack_1 : decode b_M_unpack 1 = .ok (.istore 4, 2) := by decide +kernel
theorem d_M_unpack_3 : decode b_M_unpack 3 = .ok (.iconst 0, 1) := by decide +kernel
theorem d_M_unpack_4 : decode b_M_unpack 4 = .ok (.istore 5, 2) := by decide +kernel
theorem d_M_unpack_6 : decode b_M_unpack 6 = .ok (.iload 4, 2) := by decide +kernel
theorem d_M_unpack_8 : decode b_M_unpack 8 = .ok (.iload_n 1, 1) := by decide +kernel
theorem d_M_unpack_9 : decode b_M_unpack 9 = .ok (.iload_n 2, 1) := by decide +kernel
theorem d_M_unpack_10 : decode b_M_unpack 10 = .ok (.iadd, 1) := by decide +kernel
theorem d_M_unpack_11 : decode b_M_unpack 11 = .ok (.if_icmp .ge 169, 3) := by decide +kernel
theorem d_M_unpack_14 : decode b_M_unpack 14 = .ok (.aload_n 0, 1) := by decide +kernel
theorem d_M_unpack_15 : decode b_M_unpack 15 = .ok (.getfield 7, 3) := by decide +kernel
theorem d_M_unpack_18 : decode b_M_unpack 18 = .ok (.iload 4, 2) := by decide +kernel
theorem d_M_unpack_20 : decode b_M_unpack 20 = .ok (.iaload, 1) := by decide +kernel
theorem d_M_unpack_21 : decode b_M_unpack 21 = .ok (.istore 6, 2) := by decide +kernel
theorem d_M_unpack_23 : decode b_M_unpack 23 = .ok (.iload 6, 2) := by decide +kernel
theorem d_M_unpack_25 : decode b_M_unpack 25 = .ok (.sipush 128, 3) := by decide +kernel
theorem d_M_unpack_28 : decode b_M_unpack 28 = .ok (.if_icmp .ge 10, 3) := by decide +kernel
theorem d_M_unpack_31 : decode b_M_unpack 31 = .ok (.iload 6, 2) := by decide +kernel
theorem d_M_unpack_33 : decode b_M_unpack 33 = .ok (.iconst 1, 1) := by decide +kernel
theorem d_M_unpack_34 : decode b_M_unpack 34 = .ok (.iadd, 1) := by decide +kernel
theorem d_M_unpack_35 : decode b_M_unpack 35 = .ok (.goto 21, 3) := by decide +kernel
theorem d_M_unpack_38 : decode b_M_unpack 38 = .ok (.iload 6, 2) := by decide +kernel
theorem d_M_unpack_40 : decode b_M_unpack 40 = .ok (.sipush 128, 3) := by decide +kernel
theorem d_M_unpack_43 : decode b_M_unpack 43 = .ok (.if_icmp .ne 7, 3) := by decide +kernel
theorem d_M_unpack_46 : decode b_M_unpack 46 = .ok (.iconst 0, 1) := by decide +kernel
theorem d_M_unpack_47 : decode b_M_unpack 47 = .ok (.goto 9, 3) := by decide +kernel
theorem d_M_unpack_50 : decode b_M_unpack 50 = .ok (.sipush 257, 3) := by decide +kernel
theorem d_M_unpack_53 : decode b_M_unpack 53 = .ok (.iload 6, 2) := by decide +kernel
theorem d_M_unpack_55 : decode b_M_unpack 55 = .ok (.isub, 1) := by decide +kernel
theorem d_M_unpack_56 : decode b_M_unpack 56 = .ok (.istore 7, 2) := by decide +kernel
theorem d_M_unpack_58 : decode b_M_unpack 58 = .ok (.iload 6, 2) := by decide +kernel
theorem d_M_unpack_60 : decode b_M_unpack 60 = .ok (.sipush 128, 3) := by decide +kernel
theorem d_M_unpack_63 : decode b_M_unpack 63 = .ok (.if_icmp .ge 10, 3) := by decide +kernel
theorem d_M_unpack_66 : decode b_M_unpack 66 = .ok (.iconst 1, 1) := by decide +kernel
theorem d_M_unpack_67 : decode b_M_unpack 67 = .ok (.iload 7, 2) := by decide +kernel
theorem d_M_unpack_69 : decode b_M_unpack 69 = .ok (.iadd, 1) := by decide +kernel
theorem d_M_unpack_70 : decode b_M_unpack 70 = .ok (.goto 16, 3) := by decide +kernel
theorem d_M_unpack_73 : decode b_M_unpack 73 = .ok (.iload 6, 2) := by decide +kernel
theorem d_M_unpack_75 : decode b_M_unpack 75 = .ok (.sipush 128, 3) := by decide +kernel
theorem d_M_unpack_78 : decode b_M_unpack 78 = .ok (.if_icmp .ne 7, 3) := by decide +kernel
theorem d_M_unpack_81 : decode b_M_unpack 81 = .ok (.iconst 1, 1) := by decide +kernel
theorem d_M_unpack_82 : decode b_M_unpack 82 = .ok (.goto 4, 3) := by decide +kernel
theorem d_M_unpack_85 : decode b_M_unpack 85 = .ok (.iconst 2, 1) := by decide +kernel
theorem d_M_unpack_86 : decode b_M_unpack 86 = .ok (.istore 8, 2) := by decide +kernel
theorem d_M_unpack_88 : decode b_M_unpack 88 = .ok (.iload 4, 2) := by decide +kernel
theorem d_M_unpack_90 : decode b_M_unpack 90 = .ok (.iload 8, 2) := by decide +kernel
theorem d_M_unpack_92 : decode b_M_unpack 92 = .ok (.iadd, 1) := by decide +kernel
theorem d_M_unpack_93 : decode b_M_unpack 93 = .ok (.iload_n 1, 1) := by decide +kernel
theorem d_M_unpack_94 : decode b_M_unpack 94 = .ok (.iload_n 2, 1) := by decide +kernel
theorem d_M_unpack_95 : decode b_M_unpack 95 = .ok (.iadd, 1) := by decide +kernel
theorem d_M_unpack_96 : decode b_M_unpack 96 = .ok (.if_icmp .gt 12, 3) := by decide +kernel
theorem d_M_unpack_99 : decode b_M_unpack 99 = .ok (.iload 5, 2) := by decide +kernel
theorem d_M_unpack_101 : decode b_M_unpack 101 = .ok (.iload 7, 2) := by decide +kernel
theorem d_M_unpack_103 : decode b_M_unpack 103 = .ok (.iadd, 1) := by decide +kernel
theorem d_M_unpack_104 : decode b_M_unpack 104 = .ok (.iload_n 3, 1) := by decide +kernel
theorem d_M_unpack_105 : decode b_M_unpack 105 = .ok (.if_icmp .le 5, 3) := by decide +kernel
theorem d_M_unpack_108 : decode b_M_unpack 108 = .ok (.iconst 0, 1) := by decide +kernel
theorem d_M_unpack_109 : decode b_M_unpack 109 = .ok (.ireturn, 1) := by decide +kernel
theorem d_M_unpack_110 : decode b_M_unpack 110 = .ok (.iconst 0, 1) := by decide +kernel
theorem d_M_unpack_111 : decode b_M_unpack 111 = .ok (.istore 9, 2) := by decide +kernel
theorem d_M_unpack_113 : decode b_M_unpack 113 = .ok (.iload 9, 2) := by decide +kernel
theorem d_M_unpack_115 : decode b_M_unpack 115 = .ok (.iload 7, 2) := by decide +kernel
theorem d_M_unpack_117 : decode b_M_unpack 117 = .ok (.if_icmp .ge 46, 3) := by decide +kernel
theorem d_M_unpack_120 : decode b_M_unpack 120 = .ok (.aload_n 0, 1) := by decide +kernel
theorem d_M_unpack_121 : decode b_M_unpack 121 = .ok (.getfield 38, 3) := by decide +kernel
theorem d_M_unpack_124 : decode b_M_unpack 124 = .ok (.iload 5, 2) := by decide +kernel
theorem d_M_unpack_126 : decode b_M_unpack 126 = .ok (.iload 9, 2) := by decide +kernel
theorem d_M_unpack_128 : decode b_M_unpack 128 = .ok (.iadd, 1) := by decide +kernel
theorem d_M_unpack_129 : decode b_M_unpack 129 = .ok (.aload_n 0, 1) := by decide +kernel
theorem d_M_unpack_130 : decode b_M_unpack 130 = .ok (.getfield 7, 3) := by decide +kernel
theorem d_M_unpack_133 : decode b_M_unpack 133 = .ok (.iload 6, 2) := by decide +kernel
theorem d_M_unpack_135 : decode b_M_unpack 135 = .ok (.sipush 128, 3) := by decide +kernel
theorem d_M_unpack_138 : decode b_M_unpack 138 = .ok (.if_icmp .ge 13, 3) := by decide +kernel
theorem d_M_unpack_141 : decode b_M_unpack 141 = .ok (.iload 4, 2) := by decide +kernel
theorem d_M_unpack_143 : decode b_M_unpack 143 = .ok (.iconst 1, 1) := by decide +kernel
theorem d_M_unpack_144 : decode b_M_unpack 144 = .ok (.iadd, 1) := by decide +kernel
theorem d_M_unpack_145 : decode b_M_unpack 145 = .ok (.iload 9, 2) := by decide +kernel
theorem d_M_unpack_147 : decode b_M_unpack 147 = .ok (.iadd, 1) := by decide +kernel
theorem d_M_unpack_148 : decode b_M_unpack 148 = .ok (.goto 7, 3) := by decide +kernel
theorem d_M_unpack_151 : decode b_M_unpack 151 = .ok (.iload 4, 2) := by decide +kernel
theorem d_M_unpack_153 : decode b_M_unpack 153 = .ok (.iconst 1, 1) := by decide +kernel
theorem d_M_unpack_154 : decode b_M_unpack 154 = .ok (.iadd, 1) := by decide +kernel
theorem d_M_unpack_155 : decode b_M_unpack 155 = .ok (.iaload, 1) := by decide +kernel
theorem d_M_unpack_156 : decode b_M_unpack 156 = .ok (.iastore, 1) := by decide +kernel
theorem d_M_unpack_157 : decode b_M_unpack 157 = .ok (.iinc 9 1, 3) := by decide +kernel
theorem d_M_unpack_160 : decode b_M_unpack 160 = .ok (.goto (-47), 3) := by decide +kernel
theorem d_M_unpack_163 : decode b_M_unpack 163 = .ok (.iload 5, 2) := by decide +kernel
theorem d_M_unpack_165 : decode b_M_unpack 165 = .ok (.iload 7, 2) := by decide +kernel
theorem d_M_unpack_167 : decode b_M_unpack 167 = .ok (.iadd, 1) := by decide +kernel
theorem d_M_unpack_168 : decode b_M_unpack 168 = .ok (.istore 5, 2) := by decide +kernel
theorem d_M_unpack_170 : decode b_M_unpack 170 = .ok (.iload 4, 2) := by decide +kernel
theorem d_M_unpack_172 : decode b_M_unpack 172 = .ok (.iload 8, 2) := by decide +kernel
theorem d_M_unpack_174 : decode b_M_unpack 174 = .ok (.iadd, 1) := by decide +kernel
theorem d_M_unpack_175 : decode b_M_unpack 175 = .ok (.istore 4, 2) := by decide +kernel
theorem d_M_unpack_177 : decode b_M_unpack 177 = .ok (.goto (-171), 3) := by decide +kernel
theorem d_M_unpack_180 : decode b_M_unpack 180 = .ok (.iload 5, 2) := by decide +kernel
theorem d_M_unpack_182 : decode b_M_unpack 182 = .ok (.iload_n 3, 1) := by decide +kernel
theorem d_M_unpack_183 : decode b_M_unpack 183 = .ok (.if_icmp .ne 7, 3) := by decide +kernel
theorem d_M_unpack_186 : decode b_M_unpack 186 = .ok (.iconst 1, 1) := by decide +kernel
theorem d_M_unpack_187 : decode b_M_unpack 187 = .ok (.goto 4, 3) := by decide +kernel
theorem d_M_unpack_190 : decode b_M_unpack 190 = .ok (.iconst 0, 1) := by decide +kernel
theorem d_M_unpack_191 : decode b_M_unpack 191 = .ok (.ireturn, 1) := by decide +kernel
def wp_M_unpack_b155 (post : Int32 → (Nat → Int32) → Prop) (k6 : (Nat → Int32) → Int32 → Int32 → Int32 → Int32 → Int32 → Prop) (k113 : (Nat → Int32) → Int32 → Int32 → Int32 → Int32 → Int32 → Int32 → Int32 → Int32 → Int32 → Prop) (I_p0 : Nat → Int32) (f_p0_file : Nat → Int32) (f_p0_data : Nat → Int32) (x1 : Int32) (x2 : Int32) (x3 : Int32) (x4 : Int32) (x5 : Int32) (x6 : Int32) (x7 : Int32) (x8 : Int32) (x9 : Int32) (s0 : Int32) (s2 : Int32) : Prop :=
  vp_in s0 2000 ∧
  vp_in s2 256 ∧
  k113 (upd f_p0_data (s2).toNatClampNeg (f_p0_file (s0).toNatClampNeg)) x1 x2 x3 x4 x5 x6 x7 x8 (x9 + 1)
def wp_M_unpack_l113 (post : Int32 → (Nat → Int32) → Prop) (k6 : (Nat → Int32) → Int32 → Int32 → Int32 → Int32 → Int32 → Prop) (I_p0 : Nat → Int32) (f_p0_file : Nat → Int32) : Nat → (Nat → Int32) → Int32 → Int32 → Int32 → Int32 → Int32 → Int32 → Int32 → Int32 → Int32 → Prop
  | 0, _, _, _, _, _, _, _, _, _, _ => False
  | n + 1, f_p0_data, x1, x2, x3, x4, x5, x6, x7, x8, x9 =>
    ((x7 ≤ x9 →
      k6 f_p0_data x1 x2 x3 (x4 + x8) (x5 + x7)) ∧
     (¬ x7 ≤ x9 →
      ((128 ≤ x6 →
        wp_M_unpack_b155 post k6 (wp_M_unpack_l113 post k6 I_p0 f_p0_file n) I_p0 f_p0_file f_p0_data x1 x2 x3 x4 x5 x6 x7 x8 x9 (x4 + 1) (x5 + x9)) ∧
       (¬ 128 ≤ x6 →
        wp_M_unpack_b155 post k6 (wp_M_unpack_l113 post k6 I_p0 f_p0_file n) I_p0 f_p0_file f_p0_data x1 x2 x3 x4 x5 x6 x7 x8 x9 ((x4 + 1) + x9) (x5 + x9)))))
def wp_M_unpack_b86 (post : Int32 → (Nat → Int32) → Prop) (k6 : (Nat → Int32) → Int32 → Int32 → Int32 → Int32 → Int32 → Prop) (I_p0 : Nat → Int32) (f_p0_file : Nat → Int32) (f_p0_data : Nat → Int32) (x1 : Int32) (x2 : Int32) (x3 : Int32) (x4 : Int32) (x5 : Int32) (x6 : Int32) (x7 : Int32) (s0 : Int32) : Prop :=
  (((x1 + x2) < (x4 + s0) →
    post 0 f_p0_data) ∧
   (¬ (x1 + x2) < (x4 + s0) →
    (((x5 + x7) ≤ x3 →
      (∃ n1 : Nat, wp_M_unpack_l113 post k6 I_p0 f_p0_file n1 f_p0_data x1 x2 x3 x4 x5 x6 x7 s0 0)) ∧
     (¬ (x5 + x7) ≤ x3 →
      post 0 f_p0_data))))
def wp_M_unpack_b56 (post : Int32 → (Nat → Int32) → Prop) (k6 : (Nat → Int32) → Int32 → Int32 → Int32 → Int32 → Int32 → Prop) (I_p0 : Nat → Int32) (f_p0_file : Nat → Int32) (f_p0_data : Nat → Int32) (x1 : Int32) (x2 : Int32) (x3 : Int32) (x4 : Int32) (x5 : Int32) (x6 : Int32) (s0 : Int32) : Prop :=
  ((128 ≤ x6 →
    ((x6 = 128 →
      wp_M_unpack_b86 post k6 I_p0 f_p0_file f_p0_data x1 x2 x3 x4 x5 x6 s0 1) ∧
     (¬ x6 = 128 →
      wp_M_unpack_b86 post k6 I_p0 f_p0_file f_p0_data x1 x2 x3 x4 x5 x6 s0 2))) ∧
   (¬ 128 ≤ x6 →
    wp_M_unpack_b86 post k6 I_p0 f_p0_file f_p0_data x1 x2 x3 x4 x5 x6 s0 (1 + s0)))
def wp_M_unpack_l6 (post : Int32 → (Nat → Int32) → Prop) (I_p0 : Nat → Int32) (f_p0_file : Nat → Int32) : Nat → (Nat → Int32) → Int32 → Int32 → Int32 → Int32 → Int32 → Prop
  | 0, _, _, _, _, _, _ => False
  | n + 1, f_p0_data, x1, x2, x3, x4, x5 =>
    (((x1 + x2) ≤ x4 →
      ((x5 = x3 →
        post 1 f_p0_data) ∧
       (¬ x5 = x3 →
        post 0 f_p0_data))) ∧
     (¬ (x1 + x2) ≤ x4 →
      vp_in x4 2000 ∧
      ((128 ≤ (f_p0_file (x4).toNatClampNeg) →
        (((f_p0_file (x4).toNatClampNeg) = 128 →
          wp_M_unpack_b56 post (wp_M_unpack_l6 post I_p0 f_p0_file n) I_p0 f_p0_file f_p0_data x1 x2 x3 x4 x5 (f_p0_file (x4).toNatClampNeg) 0) ∧
         (¬ (f_p0_file (x4).toNatClampNeg) = 128 →
          wp_M_unpack_b56 post (wp_M_unpack_l6 post I_p0 f_p0_file n) I_p0 f_p0_file f_p0_data x1 x2 x3 x4 x5 (f_p0_file (x4).toNatClampNeg) (257 - (f_p0_file (x4).toNatClampNeg))))) ∧
       (¬ 128 ≤ (f_p0_file (x4).toNatClampNeg) →
        wp_M_unpack_b56 post (wp_M_unpack_l6 post I_p0 f_p0_file n) I_p0 f_p0_file f_p0_data x1 x2 x3 x4 x5 (f_p0_file (x4).toNatClampNeg) ((f_p0_file (x4).toNatClampNeg) + 1)))))
def wp_M_unpack (post : Int32 → (Nat → Int32) → Prop) (I_p0 : Nat → Int32) (f_p0_file : Nat → Int32) (f_p0_data : Nat → Int32) (x1 : Int32) (x2 : Int32) (x3 : Int32) : Prop :=
  (∃ n1 : Nat, wp_M_unpack_l6 post I_p0 f_p0_file n1 f_p0_data x1 x2 x3 x1 0)
set_option maxRecDepth 100000 in
set_option maxHeartbeats 4000000 in
theorem c_M_unpack (l : Launch) (dC : Nat → ClassId) (dI : Nat → Nat → Nat) (cI : ClassId) (a_p0 : Nat) (A_p0 : Nat → Nat) (I_p0 : Nat → Int32) (f_p0_file : Nat → Int32) (f_p0_data : Nat → Int32) (x1 : Int32) (x2 : Int32) (x3 : Int32) {post : Int32 → (Nat → Int32) → Prop} (hw : wp_M_unpack post I_p0 f_p0_file f_p0_data x1 x2 x3) : gm_i l y_M_unpack ws_M_unpack ({ frames := 0, cells := 0, slots := 0, locals := 0 } : Room) (dC, dI) vwCl [(cI, .int)] [.ref a_p0, .int x1, .int x2, .int x3] [oM a_p0 A_p0 I_p0, gz cI (A_p0 15) 256 f_p0_data, gz cI (A_p0 0) 2000 f_p0_file] (fun (u : (Nat → Int32)) => [oM a_p0 A_p0 I_p0, gz cI (A_p0 15) 256 u, gz cI (A_p0 0) 2000 f_p0_file]) (fun (r : Int32) (u : (Nat → Int32)) => post r u) := by
  refine gm_iof (cc := b_M_unpack) (maxL := 10) (ty := .boolean) (by decide) rfl (Nat.le_of_ble_eq_true rfl) ?_
  intro p e s m args below meth c A Q hx hb hml hown hg hK hN hA hret
  have hown : s.vm.findClass R_M = some m.cls := hown
  have b155 : ∀ (k6 : (Nat → Int32) → Int32 → Int32 → Int32 → Int32 → Int32 → Prop), (∀ (H : Heap) (locs : List Loc) (ls : Array Slot) (f_p0_data : Nat → Int32) (x1 : Int32) (x2 : Int32) (x3 : Int32) (x4 : Int32) (x5 : Int32), va_P (dC, dI) vwCl [oM a_p0 A_p0 I_p0, gz cI (A_p0 15) 256 f_p0_data, gz cI (A_p0 0) 2000 f_p0_file] H → va_D A [oM a_p0 A_p0 I_p0, gz cI (A_p0 15) 256 f_p0_data, gz cI (A_p0 0) 2000 f_p0_file] → va_S A s.heap H locs → lv_has ls 10 [(0, .ref a_p0), (1, .int x1), (2, .int x2), (3, .int x3), (4, .int x4), (5, .int x5)] → k6 f_p0_data x1 x2 x3 x4 x5 → W p l e ({ frames := 0, cells := 0, slots := 0, locals := 0 } : Room) s m args below meth c H locs 0 0 Q (F0 m 6 ls [])) → ∀ (k113 : (Nat → Int32) → Int32 → Int32 → Int32 → Int32 → Int32 → Int32 → Int32 → Int32 → Int32 → Prop), (∀ (H : Heap) (locs : List Loc) (ls : Array Slot) (f_p0_data : Nat → Int32) (x1 : Int32) (x2 : Int32) (x3 : Int32) (x4 : Int32) (x5 : Int32) (x6 : Int32) (x7 : Int32) (x8 : Int32) (x9 : Int32), va_P (dC, dI) vwCl [oM a_p0 A_p0 I_p0, gz cI (A_p0 15) 256 f_p0_data, gz cI (A_p0 0) 2000 f_p0_file] H → va_D A [oM a_p0 A_p0 I_p0, gz cI (A_p0 15) 256 f_p0_data, gz cI (A_p0 0) 2000 f_p0_file] → va_S A s.heap H locs → lv_has ls 10 [(0, .ref a_p0), (1, .int x1), (2, .int x2), (3, .int x3), (4, .int x4), (5, .int x5), (6, .int x6), (7, .int x7), (8, .int x8), (9, .int x9)] → k113 f_p0_data x1 x2 x3 x4 x5 x6 x7 x8 x9 → W p l e ({ frames := 0, cells := 0, slots := 0, locals := 0 } : Room) s m args below meth c H locs 0 0 Q (F0 m 113 ls [])) → ∀ (H : Heap) (locs : List Loc) (ls : Array Slot) (f_p0_data : Nat → Int32) (x1 : Int32) (x2 : Int32) (x3 : Int32) (x4 : Int32) (x5 : Int32) (x6 : Int32) (x7 : Int32) (x8 : Int32) (x9 : Int32) (s0 : Int32) (s2 : Int32), va_P (dC, dI) vwCl [oM a_p0 A_p0 I_p0, gz cI (A_p0 15) 256 f_p0_data, gz cI (A_p0 0) 2000 f_p0_file] H → va_D A [oM a_p0 A_p0 I_p0, gz cI (A_p0 15) 256 f_p0_data, gz cI (A_p0 0) 2000 f_p0_file] → va_S A s.heap H locs → lv_has ls 10 [(0, .ref a_p0), (1, .int x1), (2, .int x2), (3, .int x3), (4, .int x4), (5, .int x5), (6, .int x6), (7, .int x7), (8, .int x8), (9, .int x9)] → wp_M_unpack_b155 post k6 k113 I_p0 f_p0_file f_p0_data x1 x2 x3 x4 x5 x6 x7 x8 x9 s0 s2 → W p l e ({ frames := 0, cells := 0, slots := 0, locals := 0 } : Room) s m args below meth c H locs 0 0 Q (F0 m 155 ls [.int s0, .ref (A_p0 0), .int s2, .ref (A_p0 15)]) := by
    intro k6 hk6 k113 hk113 H locs ls f_p0_data x1 x2 x3 x4 x5 x6 x7 x8 x9 s0 s2 hP hD hS hl hw
    unfold wp_M_unpack_b155 at hw
    obtain ⟨hin, hw⟩ := hw
    refine va_iald hx hb hK hP 2 0 rfl rfl hin d_M_unpack_155 ?_
    obtain ⟨hin, hw⟩ := hw
    refine va_iast hx hb hK hP hD hS 1 0 rfl rfl hin d_M_unpack_156 (fun H locs hP hD hS => ?_)
    have hP : va_P (dC, dI) vwCl [oM a_p0 A_p0 I_p0, gz cI (A_p0 15) 256 (upd f_p0_data (s2).toNatClampNeg (f_p0_file (s0).toNatClampNeg)), gz cI (A_p0 0) 2000 f_p0_file] H := hP
    have hD : va_D A [oM a_p0 A_p0 I_p0, gz cI (A_p0 15) 256 (upd f_p0_data (s2).toNatClampNeg (f_p0_file (s0).toNatClampNeg)), gz cI (A_p0 0) 2000 f_p0_file] := hD
    refine lv_iinc (k := 9) (v := (x9 + 1)) (lv' := [(9, .int (x9 + 1)), (0, .ref a_p0), (1, .int x1), (2, .int x2), (3, .int x3), (4, .int x4), (5, .int x5), (6, .int x6), (7, .int x7), (8, .int x8)]) hx hb d_M_unpack_157 hl rfl (congrArg (fun z => x9 + z) (by decide : Int32.ofInt 1 = 1)) (by decide) rfl (fun ls hl => ?_)
    refine lv_goto hx hb d_M_unpack_160 rfl ?_
    exact hk113 _ _ _ (upd f_p0_data (s2).toNatClampNeg (f_p0_file (s0).toNatClampNeg)) x1 x2 x3 x4 x5 x6 x7 x8 (x9 + 1) hP hD hS (lv_sub hl [1, 2, 3, 4, 5, 6, 7, 8, 9, 0] rfl) hw
  have l113 : ∀ (k6 : (Nat → Int32) → Int32 → Int32 → Int32 → Int32 → Int32 → Prop), (∀ (H : Heap) (locs : List Loc) (ls : Array Slot) (f_p0_data : Nat → Int32) (x1 : Int32) (x2 : Int32) (x3 : Int32) (x4 : Int32) (x5 : Int32), va_P (dC, dI) vwCl [oM a_p0 A_p0 I_p0, gz cI (A_p0 15) 256 f_p0_data, gz cI (A_p0 0) 2000 f_p0_file] H → va_D A [oM a_p0 A_p0 I_p0, gz cI (A_p0 15) 256 f_p0_data, gz cI (A_p0 0) 2000 f_p0_file] → va_S A s.heap H locs → lv_has ls 10 [(0, .ref a_p0), (1, .int x1), (2, .int x2), (3, .int x3), (4, .int x4), (5, .int x5)] → k6 f_p0_data x1 x2 x3 x4 x5 → W p l e ({ frames := 0, cells := 0, slots := 0, locals := 0 } : Room) s m args below meth c H locs 0 0 Q (F0 m 6 ls [])) → ∀ n : Nat, ∀ (H : Heap) (locs : List Loc) (ls : Array Slot) (f_p0_data : Nat → Int32) (x1 : Int32) (x2 : Int32) (x3 : Int32) (x4 : Int32) (x5 : Int32) (x6 : Int32) (x7 : Int32) (x8 : Int32) (x9 : Int32), va_P (dC, dI) vwCl [oM a_p0 A_p0 I_p0, gz cI (A_p0 15) 256 f_p0_data, gz cI (A_p0 0) 2000 f_p0_file] H → va_D A [oM a_p0 A_p0 I_p0, gz cI (A_p0 15) 256 f_p0_data, gz cI (A_p0 0) 2000 f_p0_file] → va_S A s.heap H locs → lv_has ls 10 [(0, .ref a_p0), (1, .int x1), (2, .int x2), (3, .int x3), (4, .int x4), (5, .int x5), (6, .int x6), (7, .int x7), (8, .int x8), (9, .int x9)] → wp_M_unpack_l113 post k6 I_p0 f_p0_file n f_p0_data x1 x2 x3 x4 x5 x6 x7 x8 x9 → W p l e ({ frames := 0, cells := 0, slots := 0, locals := 0 } : Room) s m args below meth c H locs 0 0 Q (F0 m 113 ls []) := by
    intro k6 hk6 n
    induction n with
    | zero => intro H locs ls f_p0_data x1 x2 x3 x4 x5 x6 x7 x8 x9 hP hD hS hl hw; exact hw.elim
    | succ n ih =>
      intro H locs ls f_p0_data x1 x2 x3 x4 x5 x6 x7 x8 x9 hP hD hS hl hw
      unfold wp_M_unpack_l113 at hw
      refine lv_iload hx hb d_M_unpack_113 (lv_at hl 9 rfl) ?_
      refine lv_iload hx hb d_M_unpack_115 (lv_at hl 7 rfl) ?_
      refine lv_icmp_ge hx hb d_M_unpack_117 rfl (fun hc => ?_) (fun hc => ?_)
      · have hw := hw.1 hc
        refine lv_iload hx hb d_M_unpack_163 (lv_at hl 5 rfl) ?_
        refine lv_iload hx hb d_M_unpack_165 (lv_at hl 7 rfl) ?_
        refine lv_iadd hx hb d_M_unpack_167 ?_
        refine lv_istore (lv' := [(5, .int (x5 + x7)), (0, .ref a_p0), (1, .int x1), (2, .int x2), (3, .int x3), (4, .int x4), (6, .int x6), (7, .int x7), (8, .int x8), (9, .int x9)]) hx hb d_M_unpack_168 hl (by decide) rfl (fun ls hl => ?_)
        refine lv_iload hx hb d_M_unpack_170 (lv_at hl 5 rfl) ?_
        refine lv_iload hx hb d_M_unpack_172 (lv_at hl 8 rfl) ?_
        refine lv_iadd hx hb d_M_unpack_174 ?_
        refine lv_istore (lv' := [(4, .int (x4 + x8)), (5, .int (x5 + x7)), (0, .ref a_p0), (1, .int x1), (2, .int x2), (3, .int x3), (6, .int x6), (7, .int x7), (8, .int x8), (9, .int x9)]) hx hb d_M_unpack_175 hl (by decide) rfl (fun ls hl => ?_)
        refine lv_goto hx hb d_M_unpack_177 rfl ?_
        exact hk6 _ _ _ f_p0_data x1 x2 x3 (x4 + x8) (x5 + x7) hP hD hS (lv_sub hl [2, 3, 4, 5, 0, 1] rfl) hw
      · have hw := hw.2 hc
        refine lv_aload_n hx hb d_M_unpack_120 rfl (lv_at hl 0 rfl) ?_
        refine va_get (D := (dC, dI)) (ci := 10) (v := .ref (A_p0 15)) (C := R_M) (T := T_M) (N := 30) hx hb hg in_M hown hK hP 0 rfl rfl 15 (by decide) (hg _ t_773) (fun _ h9 => h9) rfl d_M_unpack_121 ?_
        refine lv_iload hx hb d_M_unpack_124 (lv_at hl 5 rfl) ?_
        refine lv_iload hx hb d_M_unpack_126 (lv_at hl 9 rfl) ?_
        refine lv_iadd hx hb d_M_unpack_128 ?_
        refine lv_aload_n hx hb d_M_unpack_129 rfl (lv_at hl 0 rfl) ?_
        refine va_get (D := (dC, dI)) (ci := 10) (v := .ref (A_p0 0)) (C := R_M) (T := T_M) (N := 30) hx hb hg in_M hown hK hP 0 rfl rfl 0 (by decide) (hg _ t_758) (fun _ h9 => h9) rfl d_M_unpack_130 ?_
        refine lv_iload hx hb d_M_unpack_133 (lv_at hl 6 rfl) ?_
        refine lv_sipush (v := 128) hx hb d_M_unpack_135 (by decide) ?_
        refine lv_icmp_ge hx hb d_M_unpack_138 rfl (fun hc => ?_) (fun hc => ?_)
        · have hw := hw.1 hc
          refine lv_iload hx hb d_M_unpack_151 (lv_at hl 4 rfl) ?_
          refine lv_iconst (v := 1) hx hb d_M_unpack_153 (by decide) ?_
          refine lv_iadd hx hb d_M_unpack_154 ?_
          exact b155 _ hk6 _ ih _ _ _ f_p0_data x1 x2 x3 x4 x5 x6 x7 x8 x9 (x4 + 1) (x5 + x9) hP hD hS (lv_sub hl [0, 1, 2, 3, 4, 5, 6, 7, 8, 9] rfl) hw
        · have hw := hw.2 hc
          refine lv_iload hx hb d_M_unpack_141 (lv_at hl 4 rfl) ?_
          refine lv_iconst (v := 1) hx hb d_M_unpack_143 (by decide) ?_
          refine lv_iadd hx hb d_M_unpack_144 ?_
          refine lv_iload hx hb d_M_unpack_145 (lv_at hl 9 rfl) ?_
          refine lv_iadd hx hb d_M_unpack_147 ?_
          refine lv_goto hx hb d_M_unpack_148 rfl ?_
          exact b155 _ hk6 _ ih _ _ _ f_p0_data x1 x2 x3 x4 x5 x6 x7 x8 x9 ((x4 + 1) + x9) (x5 + x9) hP hD hS (lv_sub hl [0, 1, 2, 3, 4, 5, 6, 7, 8, 9] rfl) hw
  have b86 : ∀ (k6 : (Nat → Int32) → Int32 → Int32 → Int32 → Int32 → Int32 → Prop), (∀ (H : Heap) (locs : List Loc) (ls : Array Slot) (f_p0_data : Nat → Int32) (x1 : Int32) (x2 : Int32) (x3 : Int32) (x4 : Int32) (x5 : Int32), va_P (dC, dI) vwCl [oM a_p0 A_p0 I_p0, gz cI (A_p0 15) 256 f_p0_data, gz cI (A_p0 0) 2000 f_p0_file] H → va_D A [oM a_p0 A_p0 I_p0, gz cI (A_p0 15) 256 f_p0_data, gz cI (A_p0 0) 2000 f_p0_file] → va_S A s.heap H locs → lv_has ls 10 [(0, .ref a_p0), (1, .int x1), (2, .int x2), (3, .int x3), (4, .int x4), (5, .int x5)] → k6 f_p0_data x1 x2 x3 x4 x5 → W p l e ({ frames := 0, cells := 0, slots := 0, locals := 0 } : Room) s m args below meth c H locs 0 0 Q (F0 m 6 ls [])) → ∀ (H : Heap) (locs : List Loc) (ls : Array Slot) (f_p0_data : Nat → Int32) (x1 : Int32) (x2 : Int32) (x3 : Int32) (x4 : Int32) (x5 : Int32) (x6 : Int32) (x7 : Int32) (s0 : Int32), va_P (dC, dI) vwCl [oM a_p0 A_p0 I_p0, gz cI (A_p0 15) 256 f_p0_data, gz cI (A_p0 0) 2000 f_p0_file] H → va_D A [oM a_p0 A_p0 I_p0, gz cI (A_p0 15) 256 f_p0_data, gz cI (A_p0 0) 2000 f_p0_file] → va_S A s.heap H locs → lv_has ls 10 [(0, .ref a_p0), (1, .int x1), (2, .int x2), (3, .int x3), (4, .int x4), (5, .int x5), (6, .int x6), (7, .int x7)] → wp_M_unpack_b86 post k6 I_p0 f_p0_file f_p0_data x1 x2 x3 x4 x5 x6 x7 s0 → W p l e ({ frames := 0, cells := 0, slots := 0, locals := 0 } : Room) s m args below meth c H locs 0 0 Q (F0 m 86 ls [.int s0]) := by
    intro k6 hk6 H locs ls f_p0_data x1 x2 x3 x4 x5 x6 x7 s0 hP hD hS hl hw
    unfold wp_M_unpack_b86 at hw
    refine lv_istore (lv' := [(8, .int s0), (0, .ref a_p0), (1, .int x1), (2, .int x2), (3, .int x3), (4, .int x4), (5, .int x5), (6, .int x6), (7, .int x7)]) hx hb d_M_unpack_86 hl (by decide) rfl (fun ls hl => ?_)
    refine lv_iload hx hb d_M_unpack_88 (lv_at hl 5 rfl) ?_
    refine lv_iload hx hb d_M_unpack_90 (lv_at hl 0 rfl) ?_
    refine lv_iadd hx hb d_M_unpack_92 ?_
    refine lv_iload_n hx hb d_M_unpack_93 rfl (lv_at hl 2 rfl) ?_
    refine lv_iload_n hx hb d_M_unpack_94 rfl (lv_at hl 3 rfl) ?_
    refine lv_iadd hx hb d_M_unpack_95 ?_
    refine lv_icmp_gt hx hb d_M_unpack_96 rfl (fun hc => ?_) (fun hc => ?_)
    · have hw := hw.1 hc
      refine lv_iconst (v := 0) hx hb d_M_unpack_108 (by decide) ?_
      exact hret _ _ _ _ _ f_p0_data d_M_unpack_109 rfl hP hD hS hw
    · have hw := hw.2 hc
      refine lv_iload hx hb d_M_unpack_99 (lv_at hl 6 rfl) ?_
      refine lv_iload hx hb d_M_unpack_101 (lv_at hl 8 rfl) ?_
      refine lv_iadd hx hb d_M_unpack_103 ?_
      refine lv_iload_n hx hb d_M_unpack_104 rfl (lv_at hl 4 rfl) ?_
      refine lv_icmp_le hx hb d_M_unpack_105 rfl (fun hc => ?_) (fun hc => ?_)
      · have hw := hw.1 hc
        refine lv_iconst (v := 0) hx hb d_M_unpack_110 (by decide) ?_
        refine lv_istore (lv' := [(9, .int 0), (8, .int s0), (0, .ref a_p0), (1, .int x1), (2, .int x2), (3, .int x3), (4, .int x4), (5, .int x5), (6, .int x6), (7, .int x7)]) hx hb d_M_unpack_111 hl (by decide) rfl (fun ls hl => ?_)
        obtain ⟨n1, hw⟩ := hw
        exact l113 _ hk6 n1 _ _ _ f_p0_data x1 x2 x3 x4 x5 x6 x7 s0 0 hP hD hS (lv_sub hl [2, 3, 4, 5, 6, 7, 8, 9, 1, 0] rfl) hw
      · have hw := hw.2 hc
        refine lv_iconst (v := 0) hx hb d_M_unpack_108 (by decide) ?_
        exact hret _ _ _ _ _ f_p0_data d_M_unpack_109 rfl hP hD hS hw
  have b56 : ∀ (k6 : (Nat → Int32) → Int32 → Int32 → Int32 → Int32 → Int32 → Prop), (∀ (H : Heap) (locs : List Loc) (ls : Array Slot) (f_p0_data : Nat → Int32) (x1 : Int32) (x2 : Int32) (x3 : Int32) (x4 : Int32) (x5 : Int32), va_P (dC, dI) vwCl [oM a_p0 A_p0 I_p0, gz cI (A_p0 15) 256 f_p0_data, gz cI (A_p0 0) 2000 f_p0_file] H → va_D A [oM a_p0 A_p0 I_p0, gz cI (A_p0 15) 256 f_p0_data, gz cI (A_p0 0) 2000 f_p0_file] → va_S A s.heap H locs → lv_has ls 10 [(0, .ref a_p0), (1, .int x1), (2, .int x2), (3, .int x3), (4, .int x4), (5, .int x5)] → k6 f_p0_data x1 x2 x3 x4 x5 → W p l e ({ frames := 0, cells := 0, slots := 0, locals := 0 } : Room) s m args below meth c H locs 0 0 Q (F0 m 6 ls [])) → ∀ (H : Heap) (locs : List Loc) (ls : Array Slot) (f_p0_data : Nat → Int32) (x1 : Int32) (x2 : Int32) (x3 : Int32) (x4 : Int32) (x5 : Int32) (x6 : Int32) (s0 : Int32), va_P (dC, dI) vwCl [oM a_p0 A_p0 I_p0, gz cI (A_p0 15) 256 f_p0_data, gz cI (A_p0 0) 2000 f_p0_file] H → va_D A [oM a_p0 A_p0 I_p0, gz cI (A_p0 15) 256 f_p0_data, gz cI (A_p0 0) 2000 f_p0_file] → va_S A s.heap H locs → lv_has ls 10 [(0, .ref a_p0), (1, .int x1), (2, .int x2), (3, .int x3), (4, .int x4), (5, .int x5), (6, .int x6)] → wp_M_unpack_b56 post k6 I_p0 f_p0_file f_p0_data x1 x2 x3 x4 x5 x6 s0 → W p l e ({ frames := 0, cells := 0, slots := 0, locals := 0 } : Room) s m args below meth c H locs 0 0 Q (F0 m 56 ls [.int s0]) := by
    intro k6 hk6 H locs ls f_p0_data x1 x2 x3 x4 x5 x6 s0 hP hD hS hl hw
    unfold wp_M_unpack_b56 at hw
    refine lv_istore (lv' := [(7, .int s0), (0, .ref a_p0), (1, .int x1), (2, .int x2), (3, .int x3), (4, .int x4), (5, .int x5), (6, .int x6)]) hx hb d_M_unpack_56 hl (by decide) rfl (fun ls hl => ?_)
    refine lv_iload hx hb d_M_unpack_58 (lv_at hl 7 rfl) ?_
    refine lv_sipush (v := 128) hx hb d_M_unpack_60 (by decide) ?_
    refine lv_icmp_ge hx hb d_M_unpack_63 rfl (fun hc => ?_) (fun hc => ?_)
    · have hw := hw.1 hc
      refine lv_iload hx hb d_M_unpack_73 (lv_at hl 7 rfl) ?_
      refine lv_sipush (v := 128) hx hb d_M_unpack_75 (by decide) ?_
      refine lv_icmp_ne hx hb d_M_unpack_78 rfl (fun hc => ?_) (fun hc => ?_)
      · have hw := hw.2 hc
        refine lv_iconst (v := 2) hx hb d_M_unpack_85 (by decide) ?_
        exact b86 _ hk6 _ _ _ f_p0_data x1 x2 x3 x4 x5 x6 s0 2 hP hD hS (lv_sub hl [1, 2, 3, 4, 5, 6, 7, 0] rfl) hw
      · have hw := hw.1 hc
        refine lv_iconst (v := 1) hx hb d_M_unpack_81 (by decide) ?_
        refine lv_goto hx hb d_M_unpack_82 rfl ?_
        exact b86 _ hk6 _ _ _ f_p0_data x1 x2 x3 x4 x5 x6 s0 1 hP hD hS (lv_sub hl [1, 2, 3, 4, 5, 6, 7, 0] rfl) hw
    · have hw := hw.2 hc
      refine lv_iconst (v := 1) hx hb d_M_unpack_66 (by decide) ?_
      refine lv_iload hx hb d_M_unpack_67 (lv_at hl 0 rfl) ?_
      refine lv_iadd hx hb d_M_unpack_69 ?_
      refine lv_goto hx hb d_M_unpack_70 rfl ?_
      exact b86 _ hk6 _ _ _ f_p0_data x1 x2 x3 x4 x5 x6 s0 (1 + s0) hP hD hS (lv_sub hl [1, 2, 3, 4, 5, 6, 7, 0] rfl) hw
  have l6 : ∀ n : Nat, ∀ (H : Heap) (locs : List Loc) (ls : Array Slot) (f_p0_data : Nat → Int32) (x1 : Int32) (x2 : Int32) (x3 : Int32) (x4 : Int32) (x5 : Int32), va_P (dC, dI) vwCl [oM a_p0 A_p0 I_p0, gz cI (A_p0 15) 256 f_p0_data, gz cI (A_p0 0) 2000 f_p0_file] H → va_D A [oM a_p0 A_p0 I_p0, gz cI (A_p0 15) 256 f_p0_data, gz cI (A_p0 0) 2000 f_p0_file] → va_S A s.heap H locs → lv_has ls 10 [(0, .ref a_p0), (1, .int x1), (2, .int x2), (3, .int x3), (4, .int x4), (5, .int x5)] → wp_M_unpack_l6 post I_p0 f_p0_file n f_p0_data x1 x2 x3 x4 x5 → W p l e ({ frames := 0, cells := 0, slots := 0, locals := 0 } : Room) s m args below meth c H locs 0 0 Q (F0 m 6 ls []) := by
    intro n
    induction n with
    | zero => intro H locs ls f_p0_data x1 x2 x3 x4 x5 hP hD hS hl hw; exact hw.elim
    | succ n ih =>
      intro H locs ls f_p0_data x1 x2 x3 x4 x5 hP hD hS hl hw
      unfold wp_M_unpack_l6 at hw
      refine lv_iload hx hb d_M_unpack_6 (lv_at hl 4 rfl) ?_
      refine lv_iload_n hx hb d_M_unpack_8 rfl (lv_at hl 1 rfl) ?_
      refine lv_iload_n hx hb d_M_unpack_9 rfl (lv_at hl 2 rfl) ?_
      refine lv_iadd hx hb d_M_unpack_10 ?_
      refine lv_icmp_ge hx hb d_M_unpack_11 rfl (fun hc => ?_) (fun hc => ?_)
      · have hw := hw.1 hc
        refine lv_iload hx hb d_M_unpack_180 (lv_at hl 5 rfl) ?_
        refine lv_iload_n hx hb d_M_unpack_182 rfl (lv_at hl 3 rfl) ?_
        refine lv_icmp_ne hx hb d_M_unpack_183 rfl (fun hc => ?_) (fun hc => ?_)
        · have hw := hw.2 hc
          refine lv_iconst (v := 0) hx hb d_M_unpack_190 (by decide) ?_
          exact hret _ _ _ _ _ f_p0_data d_M_unpack_191 rfl hP hD hS hw
        · have hw := hw.1 hc
          refine lv_iconst (v := 1) hx hb d_M_unpack_186 (by decide) ?_
          refine lv_goto hx hb d_M_unpack_187 rfl ?_
          exact hret _ _ _ _ _ f_p0_data d_M_unpack_191 rfl hP hD hS hw
      · have hw := hw.2 hc
        refine lv_aload_n hx hb d_M_unpack_14 rfl (lv_at hl 0 rfl) ?_
        refine va_get (D := (dC, dI)) (ci := 10) (v := .ref (A_p0 0)) (C := R_M) (T := T_M) (N := 30) hx hb hg in_M hown hK hP 0 rfl rfl 0 (by decide) (hg _ t_758) (fun _ h9 => h9) rfl d_M_unpack_15 ?_
        refine lv_iload hx hb d_M_unpack_18 (lv_at hl 4 rfl) ?_
        obtain ⟨hin, hw⟩ := hw
        refine va_iald hx hb hK hP 2 0 rfl rfl hin d_M_unpack_20 ?_
        refine lv_istore (lv' := [(6, .int (f_p0_file (x4).toNatClampNeg)), (0, .ref a_p0), (1, .int x1), (2, .int x2), (3, .int x3), (4, .int x4), (5, .int x5)]) hx hb d_M_unpack_21 hl (by decide) rfl (fun ls hl => ?_)
        refine lv_iload hx hb d_M_unpack_23 (lv_at hl 0 rfl) ?_
        refine lv_sipush (v := 128) hx hb d_M_unpack_25 (by decide) ?_
        refine lv_icmp_ge hx hb d_M_unpack_28 rfl (fun hc => ?_) (fun hc => ?_)
        · have hw := hw.1 hc
          refine lv_iload hx hb d_M_unpack_38 (lv_at hl 0 rfl) ?_
          refine lv_sipush (v := 128) hx hb d_M_unpack_40 (by decide) ?_
          refine lv_icmp_ne hx hb d_M_unpack_43 rfl (fun hc => ?_) (fun hc => ?_)
          · have hw := hw.2 hc
            refine lv_sipush (v := 257) hx hb d_M_unpack_50 (by decide) ?_
            refine lv_iload hx hb d_M_unpack_53 (lv_at hl 0 rfl) ?_
            refine lv_isub hx hb d_M_unpack_55 ?_
            exact b56 _ ih _ _ _ f_p0_data x1 x2 x3 x4 x5 (f_p0_file (x4).toNatClampNeg) (257 - (f_p0_file (x4).toNatClampNeg)) hP hD hS (lv_sub hl [1, 2, 3, 4, 5, 6, 0] rfl) hw
          · have hw := hw.1 hc
            refine lv_iconst (v := 0) hx hb d_M_unpack_46 (by decide) ?_
            refine lv_goto hx hb d_M_unpack_47 rfl ?_
            exact b56 _ ih _ _ _ f_p0_data x1 x2 x3 x4 x5 (f_p0_file (x4).toNatClampNeg) 0 hP hD hS (lv_sub hl [1, 2, 3, 4, 5, 6, 0] rfl) hw
        · have hw := hw.2 hc
          refine lv_iload hx hb d_M_unpack_31 (lv_at hl 0 rfl) ?_
          refine lv_iconst (v := 1) hx hb d_M_unpack_33 (by decide) ?_
          refine lv_iadd hx hb d_M_unpack_34 ?_
          refine lv_goto hx hb d_M_unpack_35 rfl ?_
          exact b56 _ ih _ _ _ f_p0_data x1 x2 x3 x4 x5 (f_p0_file (x4).toNatClampNeg) ((f_p0_file (x4).toNatClampNeg) + 1) hP hD hS (lv_sub hl [1, 2, 3, 4, 5, 6, 0] rfl) hw
  intro ls hl hP hD hS
  have hl : lv_has ls 10 [(0, .ref a_p0), (1, .int x1), (2, .int x2), (3, .int x3)] := hl
  unfold wp_M_unpack at hw
  refine lv_iload_n hx hb d_M_unpack_0 rfl (lv_at hl 1 rfl) ?_
  refine lv_istore (lv' := [(4, .int x1), (0, .ref a_p0), (1, .int x1), (2, .int x2), (3, .int x3)]) hx hb d_M_unpack_1 hl (by decide) rfl (fun ls hl => ?_)
  refine lv_iconst (v := 0) hx hb d_M_unpack_3 (by decide) ?_
  refine lv_istore (lv' := [(5, .int 0), (4, .int x1), (0, .ref a_p0), (1, .int x1), (2, .int x2), (3, .int x3)]) hx hb d_M_unpack_4 hl (by decide) rfl (fun ls hl => ?_)
  obtain ⟨n1, hw⟩ := hw
  exact l6 n1 _ _ _ f_p0_data x1 x2 x3 x1 0 hP hD hS (lv_sub hl [2, 3, 4, 5, 1, 0] rfl) hw
theorem d_M_strip_0 : decode b_M_strip 0 = .ok (.aload_n 0, 1) := by decide +kernel
theorem d_M_strip_1 : decode b_M_strip 1 = .ok (.iload_n 1, 1) := by decide +kernel
theorem d_M_strip_2 : decode b_M_strip 2 = .ok (.sipush 273, 3) := by decide +kernel
theorem d_M_strip_5 : decode b_M_strip 5 = .ok (.iload_n 2, 1) := by decide +kernel
theorem d_M_strip_6 : decode b_M_strip 6 = .ok (.invokevirtual 197, 3) := by decide +kernel
theorem d_M_strip_9 : decode b_M_strip 9 = .ok (.lstore_n 3, 1) := by decide +kernel
theorem d_M_strip_10 : decode b_M_strip 10 = .ok (.aload_n 0, 1) := by decide +kernel
theorem d_M_strip_11 : decode b_M_strip 11 = .ok (.iload_n 1, 1) := by decide +kernel
theorem d_M_strip_12 : decode b_M_strip 12 = .ok (.sipush 279, 3) := by decide +kernel
theorem d_M_strip_15 : decode b_M_strip 15 = .ok (.iload_n 2, 1) := by decide +kernel
theorem d_M_strip_16 : decode b_M_strip 16 = .ok (.invokevirtual 197, 3) := by decide +kernel
theorem d_M_strip_19 : decode b_M_strip 19 = .ok (.lstore 5, 2) := by decide +kernel
theorem d_M_strip_21 : decode b_M_strip 21 = .ok (.lload_n 3, 1) := by decide +kernel
theorem d_M_strip_22 : decode b_M_strip 22 = .ok (.lload 5, 2) := by decide +kernel
theorem d_M_strip_24 : decode b_M_strip 24 = .ok (.ladd, 1) := by decide +kernel
theorem d_M_strip_25 : decode b_M_strip 25 = .ok (.aload_n 0, 1) := by decide +kernel
theorem d_M_strip_26 : decode b_M_strip 26 = .ok (.getfield 63, 3) := by decide +kernel
theorem d_M_strip_29 : decode b_M_strip 29 = .ok (.i2l, 1) := by decide +kernel
theorem d_M_strip_30 : decode b_M_strip 30 = .ok (.lcmp, 1) := by decide +kernel
theorem d_M_strip_31 : decode b_M_strip 31 = .ok (.ifCond .le 5, 3) := by decide +kernel
theorem d_M_strip_34 : decode b_M_strip 34 = .ok (.iconst 0, 1) := by decide +kernel
theorem d_M_strip_35 : decode b_M_strip 35 = .ok (.ireturn, 1) := by decide +kernel
theorem d_M_strip_36 : decode b_M_strip 36 = .ok (.aload_n 0, 1) := by decide +kernel
theorem d_M_strip_37 : decode b_M_strip 37 = .ok (.getfield 201, 3) := by decide +kernel
theorem d_M_strip_40 : decode b_M_strip 40 = .ok (.iload_n 2, 1) := by decide +kernel
theorem d_M_strip_41 : decode b_M_strip 41 = .ok (.aload_n 0, 1) := by decide +kernel
theorem d_M_strip_42 : decode b_M_strip 42 = .ok (.getfield 204, 3) := by decide +kernel
theorem d_M_strip_45 : decode b_M_strip 45 = .ok (.imul, 1) := by decide +kernel
theorem d_M_strip_46 : decode b_M_strip 46 = .ok (.isub, 1) := by decide +kernel
theorem d_M_strip_47 : decode b_M_strip 47 = .ok (.aload_n 0, 1) := by decide +kernel
theorem d_M_strip_48 : decode b_M_strip 48 = .ok (.getfield 204, 3) := by decide +kernel
theorem d_M_strip_51 : decode b_M_strip 51 = .ok (.if_icmp .ge 17, 3) := by decide +kernel
theorem d_M_strip_54 : decode b_M_strip 54 = .ok (.aload_n 0, 1) := by decide +kernel
theorem d_M_strip_55 : decode b_M_strip 55 = .ok (.getfield 201, 3) := by decide +kernel
theorem d_M_strip_58 : decode b_M_strip 58 = .ok (.iload_n 2, 1) := by decide +kernel
theorem d_M_strip_59 : decode b_M_strip 59 = .ok (.aload_n 0, 1) := by decide +kernel
theorem d_M_strip_60 : decode b_M_strip 60 = .ok (.getfield 204, 3) := by decide +kernel
theorem d_M_strip_63 : decode b_M_strip 63 = .ok (.imul, 1) := by decide +kernel
theorem d_M_strip_64 : decode b_M_strip 64 = .ok (.isub, 1) := by decide +kernel
theorem d_M_strip_65 : decode b_M_strip 65 = .ok (.goto 7, 3) := by decide +kernel
theorem d_M_strip_68 : decode b_M_strip 68 = .ok (.aload_n 0, 1) := by decide +kernel
theorem d_M_strip_69 : decode b_M_strip 69 = .ok (.getfield 204, 3) := by decide +kernel
theorem d_M_strip_72 : decode b_M_strip 72 = .ok (.istore 7, 2) := by decide +kernel
theorem d_M_strip_74 : decode b_M_strip 74 = .ok (.iload 7, 2) := by decide +kernel
theorem d_M_strip_76 : decode b_M_strip 76 = .ok (.aload_n 0, 1) := by decide +kernel
theorem d_M_strip_77 : decode b_M_strip 77 = .ok (.getfield 220, 3) := by decide +kernel
theorem d_M_strip_80 : decode b_M_strip 80 = .ok (.aload_n 0, 1) := by decide +kernel
theorem d_M_strip_81 : decode b_M_strip 81 = .ok (.getfield 223, 3) := by decide +kernel
theorem d_M_strip_84 : decode b_M_strip 84 = .ok (.invokestatic 132, 3) := by decide +kernel
theorem d_M_strip_87 : decode b_M_strip 87 = .ok (.imul, 1) := by decide +kernel
theorem d_M_strip_88 : decode b_M_strip 88 = .ok (.istore 8, 2) := by decide +kernel
theorem d_M_strip_90 : decode b_M_strip 90 = .ok (.aload_n 0, 1) := by decide +kernel
theorem d_M_strip_91 : decode b_M_strip 91 = .ok (.getfield 226, 3) := by decide +kernel
theorem d_M_strip_94 : decode b_M_strip 94 = .ok (.ldc 184, 2) := by decide +kernel
theorem d_M_strip_96 : decode b_M_strip 96 = .ok (.if_icmp .ne 15, 3) := by decide +kernel
theorem d_M_strip_99 : decode b_M_strip 99 = .ok (.aload_n 0, 1) := by decide +kernel
theorem d_M_strip_100 : decode b_M_strip 100 = .ok (.lload_n 3, 1) := by decide +kernel
theorem d_M_strip_101 : decode b_M_strip 101 = .ok (.l2i, 1) := by decide +kernel
theorem d_M_strip_102 : decode b_M_strip 102 = .ok (.lload 5, 2) := by decide +kernel
theorem d_M_strip_104 : decode b_M_strip 104 = .ok (.l2i, 1) := by decide +kernel
theorem d_M_strip_105 : decode b_M_strip 105 = .ok (.iload 8, 2) := by decide +kernel
theorem d_M_strip_107 : decode b_M_strip 107 = .ok (.invokevirtual 240, 3) := by decide +kernel
theorem d_M_strip_110 : decode b_M_strip 110 = .ok (.ireturn, 1) := by decide +kernel
theorem d_M_strip_111 : decode b_M_strip 111 = .ok (.aload_n 0, 1) := by decide +kernel
theorem d_M_strip_112 : decode b_M_strip 112 = .ok (.getfield 226, 3) := by decide +kernel
theorem d_M_strip_115 : decode b_M_strip 115 = .ok (.iconst 1, 1) := by decide +kernel
theorem d_M_strip_116 : decode b_M_strip 116 = .ok (.if_icmp .ne 60, 3) := by decide +kernel
theorem d_M_strip_119 : decode b_M_strip 119 = .ok (.iconst 0, 1) := by decide +kernel
theorem d_M_strip_120 : decode b_M_strip 120 = .ok (.istore 9, 2) := by decide +kernel
theorem d_M_strip_122 : decode b_M_strip 122 = .ok (.iload 9, 2) := by decide +kernel
theorem d_M_strip_124 : decode b_M_strip 124 = .ok (.iload 8, 2) := by decide +kernel
theorem d_M_strip_126 : decode b_M_strip 126 = .ok (.if_icmp .ge 35, 3) := by decide +kernel
theorem d_M_strip_129 : decode b_M_strip 129 = .ok (.lload 5, 2) := by decide +kernel
theorem d_M_strip_131 : decode b_M_strip 131 = .ok (.iload 8, 2) := by decide +kernel
theorem d_M_strip_133 : decode b_M_strip 133 = .ok (.i2l, 1) := by decide +kernel
theorem d_M_strip_134 : decode b_M_strip 134 = .ok (.lcmp, 1) := by decide +kernel
theorem d_M_strip_135 : decode b_M_strip 135 = .ok (.ifCond .ne 26, 3) := by decide +kernel
theorem d_M_strip_138 : decode b_M_strip 138 = .ok (.aload_n 0, 1) := by decide +kernel
theorem d_M_strip_139 : decode b_M_strip 139 = .ok (.getfield 38, 3) := by decide +kernel
theorem d_M_strip_142 : decode b_M_strip 142 = .ok (.iload 9, 2) := by decide +kernel
theorem d_M_strip_144 : decode b_M_strip 144 = .ok (.aload_n 0, 1) := by decide +kernel
theorem d_M_strip_145 : decode b_M_strip 145 = .ok (.getfield 7, 3) := by decide +kernel
theorem d_M_strip_148 : decode b_M_strip 148 = .ok (.lload_n 3, 1) := by decide +kernel
theorem d_M_strip_149 : decode b_M_strip 149 = .ok (.l2i, 1) := by decide +kernel
theorem d_M_strip_150 : decode b_M_strip 150 = .ok (.iload 9, 2) := by decide +kernel
theorem d_M_strip_152 : decode b_M_strip 152 = .ok (.iadd, 1) := by decide +kernel
theorem d_M_strip_153 : decode b_M_strip 153 = .ok (.iaload, 1) := by decide +kernel
theorem d_M_strip_154 : decode b_M_strip 154 = .ok (.iastore, 1) := by decide +kernel
theorem d_M_strip_155 : decode b_M_strip 155 = .ok (.iinc 9 1, 3) := by decide +kernel
theorem d_M_strip_158 : decode b_M_strip 158 = .ok (.goto (-36), 3) := by decide +kernel
theorem d_M_strip_161 : decode b_M_strip 161 = .ok (.lload 5, 2) := by decide +kernel
theorem d_M_strip_163 : decode b_M_strip 163 = .ok (.iload 8, 2) := by decide +kernel
theorem d_M_strip_165 : decode b_M_strip 165 = .ok (.i2l, 1) := by decide +kernel
theorem d_M_strip_166 : decode b_M_strip 166 = .ok (.lcmp, 1) := by decide +kernel
theorem d_M_strip_167 : decode b_M_strip 167 = .ok (.ifCond .ne 7, 3) := by decide +kernel
theorem d_M_strip_170 : decode b_M_strip 170 = .ok (.iconst 1, 1) := by decide +kernel
theorem d_M_strip_171 : decode b_M_strip 171 = .ok (.goto 4, 3) := by decide +kernel
theorem d_M_strip_174 : decode b_M_strip 174 = .ok (.iconst 0, 1) := by decide +kernel
theorem d_M_strip_175 : decode b_M_strip 175 = .ok (.ireturn, 1) := by decide +kernel
theorem d_M_strip_176 : decode b_M_strip 176 = .ok (.aload_n 0, 1) := by decide +kernel
theorem d_M_strip_177 : decode b_M_strip 177 = .ok (.lload_n 3, 1) := by decide +kernel
theorem d_M_strip_178 : decode b_M_strip 178 = .ok (.l2i, 1) := by decide +kernel
theorem d_M_strip_179 : decode b_M_strip 179 = .ok (.lload 5, 2) := by decide +kernel
theorem d_M_strip_181 : decode b_M_strip 181 = .ok (.l2i, 1) := by decide +kernel
theorem d_M_strip_182 : decode b_M_strip 182 = .ok (.iconst 2, 1) := by decide +kernel
theorem d_M_strip_183 : decode b_M_strip 183 = .ok (.iload 8, 2) := by decide +kernel
theorem d_M_strip_185 : decode b_M_strip 185 = .ok (.imul, 1) := by decide +kernel
theorem d_M_strip_186 : decode b_M_strip 186 = .ok (.invokevirtual 243, 3) := by decide +kernel
theorem d_M_strip_189 : decode b_M_strip 189 = .ok (.ifCond .ne 5, 3) := by decide +kernel
theorem d_M_strip_192 : decode b_M_strip 192 = .ok (.iconst 0, 1) := by decide +kernel
theorem d_M_strip_193 : decode b_M_strip 193 = .ok (.ireturn, 1) := by decide +kernel
theorem d_M_strip_194 : decode b_M_strip 194 = .ok (.iconst 0, 1) := by decide +kernel
theorem d_M_strip_195 : decode b_M_strip 195 = .ok (.istore 9, 2) := by decide +kernel
theorem d_M_strip_197 : decode b_M_strip 197 = .ok (.iload 9, 2) := by decide +kernel
theorem d_M_strip_199 : decode b_M_strip 199 = .ok (.iload 8, 2) := by decide +kernel
theorem d_M_strip_201 : decode b_M_strip 201 = .ok (.if_icmp .ge 40, 3) := by decide +kernel
theorem d_M_strip_204 : decode b_M_strip 204 = .ok (.aload_n 0, 1) := by decide +kernel
theorem d_M_strip_205 : decode b_M_strip 205 = .ok (.getfield 38, 3) := by decide +kernel
theorem d_M_strip_208 : decode b_M_strip 208 = .ok (.iload 9, 2) := by decide +kernel
theorem d_M_strip_210 : decode b_M_strip 210 = .ok (.bipush 16, 2) := by decide +kernel
theorem d_M_strip_212 : decode b_M_strip 212 = .ok (.aload_n 0, 1) := by decide +kernel
theorem d_M_strip_213 : decode b_M_strip 213 = .ok (.getfield 41, 3) := by decide +kernel
theorem d_M_strip_216 : decode b_M_strip 216 = .ok (.iconst 2, 1) := by decide +kernel
theorem d_M_strip_217 : decode b_M_strip 217 = .ok (.iload 9, 2) := by decide +kernel
theorem d_M_strip_219 : decode b_M_strip 219 = .ok (.imul, 1) := by decide +kernel
theorem d_M_strip_220 : decode b_M_strip 220 = .ok (.iaload, 1) := by decide +kernel
theorem d_M_strip_221 : decode b_M_strip 221 = .ok (.imul, 1) := by decide +kernel
theorem d_M_strip_222 : decode b_M_strip 222 = .ok (.aload_n 0, 1) := by decide +kernel
theorem d_M_strip_223 : decode b_M_strip 223 = .ok (.getfield 41, 3) := by decide +kernel
theorem d_M_strip_226 : decode b_M_strip 226 = .ok (.iconst 2, 1) := by decide +kernel
theorem d_M_strip_227 : decode b_M_strip 227 = .ok (.iload 9, 2) := by decide +kernel
theorem d_M_strip_229 : decode b_M_strip 229 = .ok (.imul, 1) := by decide +kernel
theorem d_M_strip_230 : decode b_M_strip 230 = .ok (.iconst 1, 1) := by decide +kernel
theorem d_M_strip_231 : decode b_M_strip 231 = .ok (.iadd, 1) := by decide +kernel
theorem d_M_strip_232 : decode b_M_strip 232 = .ok (.iaload, 1) := by decide +kernel
theorem d_M_strip_233 : decode b_M_strip 233 = .ok (.iadd, 1) := by decide +kernel
theorem d_M_strip_234 : decode b_M_strip 234 = .ok (.iastore, 1) := by decide +kernel
theorem d_M_strip_235 : decode b_M_strip 235 = .ok (.iinc 9 1, 3) := by decide +kernel
theorem d_M_strip_238 : decode b_M_strip 238 = .ok (.goto (-41), 3) := by decide +kernel
theorem d_M_strip_241 : decode b_M_strip 241 = .ok (.iconst 1, 1) := by decide +kernel
theorem d_M_strip_242 : decode b_M_strip 242 = .ok (.ireturn, 1) := by decide +kernel
def wp_M_strip_l197 (post : Int32 → (Nat → Int32) → (Nat → Int32) → (Nat → Int32) → (Nat → Int32) → (Nat → Int32) → (Nat → Int32) → Prop) (f_p0_file : Nat → Int32) : Nat → (Nat → Int32) → (Nat → Int32) → (Nat → Int32) → (Nat → Int32) → (Nat → Int32) → (Nat → Int32) → Int32 → Int32 → Prop
  | 0, _, _, _, _, _, _, _, _ => False
  | n + 1, I_p0, f_p0_data, f_p0_dirs, f_p0_many, f_p0_nibs, f_p0_start, x8, x9 =>
    ((x8 ≤ x9 →
      post 1 I_p0 f_p0_data f_p0_dirs f_p0_many f_p0_nibs f_p0_start) ∧
     (¬ x8 ≤ x9 →
      vp_in (2 * x9) 512 ∧
      vp_in ((2 * x9) + 1) 512 ∧
      vp_in x9 256 ∧
      wp_M_strip_l197 post f_p0_file n I_p0 (upd f_p0_data (x9).toNatClampNeg ((16 * (f_p0_nibs (2 * x9).toNatClampNeg)) + (f_p0_nibs ((2 * x9) + 1).toNatClampNeg))) f_p0_dirs f_p0_many f_p0_nibs f_p0_start x8 (x9 + 1)))
def wp_M_strip_b161 (post : Int32 → (Nat → Int32) → (Nat → Int32) → (Nat → Int32) → (Nat → Int32) → (Nat → Int32) → (Nat → Int32) → Prop) (f_p0_file : Nat → Int32) (I_p0 : Nat → Int32) (f_p0_data : Nat → Int32) (f_p0_dirs : Nat → Int32) (f_p0_many : Nat → Int32) (f_p0_nibs : Nat → Int32) (f_p0_start : Nat → Int32) (x5 : Int64) (x8 : Int32) : Prop :=
  ((x5 = x8.toInt64 →
    post 1 I_p0 f_p0_data f_p0_dirs f_p0_many f_p0_nibs f_p0_start) ∧
   (¬ x5 = x8.toInt64 →
    post 0 I_p0 f_p0_data f_p0_dirs f_p0_many f_p0_nibs f_p0_start))
def wp_M_strip_l122 (post : Int32 → (Nat → Int32) → (Nat → Int32) → (Nat → Int32) → (Nat → Int32) → (Nat → Int32) → (Nat → Int32) → Prop) (f_p0_file : Nat → Int32) : Nat → (Nat → Int32) → (Nat → Int32) → (Nat → Int32) → (Nat → Int32) → (Nat → Int32) → (Nat → Int32) → Int64 → Int64 → Int32 → Int32 → Prop
  | 0, _, _, _, _, _, _, _, _, _, _ => False
  | n + 1, I_p0, f_p0_data, f_p0_dirs, f_p0_many, f_p0_nibs, f_p0_start, x3, x5, x8, x9 =>
    ((x8 ≤ x9 →
      wp_M_strip_b161 post f_p0_file I_p0 f_p0_data f_p0_dirs f_p0_many f_p0_nibs f_p0_start x5 x8) ∧
     (¬ x8 ≤ x9 →
      ((x5 = x8.toInt64 →
        vp_in (x3.toInt32 + x9) 2000 ∧
        vp_in x9 256 ∧
        wp_M_strip_l122 post f_p0_file n I_p0 (upd f_p0_data (x9).toNatClampNeg (f_p0_file (x3.toInt32 + x9).toNatClampNeg)) f_p0_dirs f_p0_many f_p0_nibs f_p0_start x3 x5 x8 (x9 + 1)) ∧
       (¬ x5 = x8.toInt64 →
        wp_M_strip_b161 post f_p0_file I_p0 f_p0_data f_p0_dirs f_p0_many f_p0_nibs f_p0_start x5 x8))))
def wp_M_strip_b72 (post : Int32 → (Nat → Int32) → (Nat → Int32) → (Nat → Int32) → (Nat → Int32) → (Nat → Int32) → (Nat → Int32) → Prop) (f_p0_file : Nat → Int32) (I_p0 : Nat → Int32) (f_p0_data : Nat → Int32) (f_p0_dirs : Nat → Int32) (f_p0_many : Nat → Int32) (f_p0_nibs : Nat → Int32) (f_p0_start : Nat → Int32) (x3 : Int64) (x5 : Int64) (s0 : Int32) : Prop :=
  wp_M_rowBytes (fun (r84 : Int32) =>
    (((I_p0 26) = 32773 →
      wp_M_unpack (fun (r107 : Int32) (f_p0_data_107 : Nat → Int32) =>
        (r107 = 0 ∨ r107 = 1) ∧
        post r107 I_p0 f_p0_data_107 f_p0_dirs f_p0_many f_p0_nibs f_p0_start) I_p0 f_p0_file f_p0_data x3.toInt32 x5.toInt32 (s0 * r84)) ∧
     (¬ (I_p0 26) = 32773 →
      (((I_p0 26) = 1 →
        (∃ n1 : Nat, wp_M_strip_l122 post f_p0_file n1 I_p0 f_p0_data f_p0_dirs f_p0_many f_p0_nibs f_p0_start x3 x5 (s0 * r84) 0)) ∧
       (¬ (I_p0 26) = 1 →
        wp_M_decode (fun (r186 : Int32) (f_p0_many_186 : Nat → Int32) (f_p0_nibs_186 : Nat → Int32) (f_p0_start_186 : Nat → Int32) =>
          ((r186 = 0 →
            post 0 I_p0 f_p0_data f_p0_dirs f_p0_many_186 f_p0_nibs_186 f_p0_start_186) ∧
           (¬ r186 = 0 →
            (∃ n1 : Nat, wp_M_strip_l197 post f_p0_file n1 I_p0 f_p0_data f_p0_dirs f_p0_many_186 f_p0_nibs_186 f_p0_start_186 (s0 * r84) 0)))) I_p0 f_p0_file f_p0_many f_p0_nibs f_p0_start x3.toInt32 x5.toInt32 (2 * (s0 * r84))))))) (I_p0 23) (I_p0 25)
def wp_M_strip (post : Int32 → (Nat → Int32) → (Nat → Int32) → (Nat → Int32) → (Nat → Int32) → (Nat → Int32) → (Nat → Int32) → Prop) (f_p0_file : Nat → Int32) (I_p0 : Nat → Int32) (f_p0_data : Nat → Int32) (f_p0_dirs : Nat → Int32) (f_p0_many : Nat → Int32) (f_p0_nibs : Nat → Int32) (f_p0_start : Nat → Int32) (x1 : Int32) (x2 : Int32) : Prop :=
  wp_M_field (fun (r6 : Int64) (I_p0_6 : Nat → Int32) (f_p0_dirs_6 : Nat → Int32) =>
    wp_M_field (fun (r16 : Int64) (I_p0_16 : Nat → Int32) (f_p0_dirs_16 : Nat → Int32) =>
      (((r6 + r16) ≤ (I_p0_16 1).toInt64 →
        (((I_p0_16 27) ≤ ((I_p0_16 24) - (x2 * (I_p0_16 27))) →
          wp_M_strip_b72 post f_p0_file I_p0_16 f_p0_data f_p0_dirs_16 f_p0_many f_p0_nibs f_p0_start r6 r16 (I_p0_16 27)) ∧
         (¬ (I_p0_16 27) ≤ ((I_p0_16 24) - (x2 * (I_p0_16 27))) →
          wp_M_strip_b72 post f_p0_file I_p0_16 f_p0_data f_p0_dirs_16 f_p0_many f_p0_nibs f_p0_start r6 r16 ((I_p0_16 24) - (x2 * (I_p0_16 27)))))) ∧
       (¬ (r6 + r16) ≤ (I_p0_16 1).toInt64 →
        post 0 I_p0_16 f_p0_data f_p0_dirs_16 f_p0_many f_p0_nibs f_p0_start))) f_p0_file I_p0_6 f_p0_dirs_6 x1 279 x2) f_p0_file I_p0 f_p0_dirs x1 273 x2
set_option maxRecDepth 100000 in
set_option maxHeartbeats 4000000 in
theorem c_M_strip (l : Launch) (dC : Nat → ClassId) (dI : Nat → Nat → Nat) (cI : ClassId) (a_p0 : Nat) (A_p0 : Nat → Nat) (f_p0_file : Nat → Int32) (I_p0 : Nat → Int32) (f_p0_data : Nat → Int32) (f_p0_dirs : Nat → Int32) (f_p0_many : Nat → Int32) (f_p0_nibs : Nat → Int32) (f_p0_start : Nat → Int32) (x1 : Int32) (x2 : Int32) {post : Int32 → (Nat → Int32) → (Nat → Int32) → (Nat → Int32) → (Nat → Int32) → (Nat → Int32) → (Nat → Int32) → Prop} (hw : wp_M_strip post f_p0_file I_p0 f_p0_data f_p0_dirs f_p0_many f_p0_nibs f_p0_start x1 x2) : gm_i l y_M_strip ws_M_strip ({ frames := 5, cells := 0, slots := 0, locals := 124 } : Room) (dC, dI) vwCl [(cI, .int)] [.ref a_p0, .int x1, .int x2] [oM a_p0 A_p0 I_p0, gz cI (A_p0 15) 256 f_p0_data, gz cI (A_p0 13) 8 f_p0_dirs, gz cI (A_p0 0) 2000 f_p0_file, gz cI (A_p0 18) 120 f_p0_many, gz cI (A_p0 16) 512 f_p0_nibs, gz cI (A_p0 17) 120 f_p0_start] (fun (u : (Nat → Int32) × (Nat → Int32) × (Nat → Int32) × (Nat → Int32) × (Nat → Int32) × (Nat → Int32)) => [oM a_p0 A_p0 u.1, gz cI (A_p0 15) 256 u.2.1, gz cI (A_p0 13) 8 u.2.2.1, gz cI (A_p0 0) 2000 f_p0_file, gz cI (A_p0 18) 120 u.2.2.2.1, gz cI (A_p0 16) 512 u.2.2.2.2.1, gz cI (A_p0 17) 120 u.2.2.2.2.2]) (fun (r : Int32) (u : (Nat → Int32) × (Nat → Int32) × (Nat → Int32) × (Nat → Int32) × (Nat → Int32) × (Nat → Int32)) => post r u.1 u.2.1 u.2.2.1 u.2.2.2.1 u.2.2.2.2.1 u.2.2.2.2.2) := by
  refine gm_iof (cc := b_M_strip) (maxL := 10) (ty := .boolean) (by decide) rfl (Nat.le_of_ble_eq_true rfl) ?_
  intro p e s m args below meth c A Q hx hb hml hown hg hK hN hA hret
  have hown : s.vm.findClass R_M = some m.cls := hown
  have l197 : ∀ n : Nat, ∀ (H : Heap) (locs : List Loc) (ls : Array Slot) (I_p0 : Nat → Int32) (f_p0_data : Nat → Int32) (f_p0_dirs : Nat → Int32) (f_p0_many : Nat → Int32) (f_p0_nibs : Nat → Int32) (f_p0_start : Nat → Int32) (x8 : Int32) (x9 : Int32), va_P (dC, dI) vwCl [oM a_p0 A_p0 I_p0, gz cI (A_p0 15) 256 f_p0_data, gz cI (A_p0 13) 8 f_p0_dirs, gz cI (A_p0 0) 2000 f_p0_file, gz cI (A_p0 18) 120 f_p0_many, gz cI (A_p0 16) 512 f_p0_nibs, gz cI (A_p0 17) 120 f_p0_start] H → va_D A [oM a_p0 A_p0 I_p0, gz cI (A_p0 15) 256 f_p0_data, gz cI (A_p0 13) 8 f_p0_dirs, gz cI (A_p0 0) 2000 f_p0_file, gz cI (A_p0 18) 120 f_p0_many, gz cI (A_p0 16) 512 f_p0_nibs, gz cI (A_p0 17) 120 f_p0_start] → va_S A s.heap H locs → lv_has ls 10 [(0, .ref a_p0), (8, .int x8), (9, .int x9)] → wp_M_strip_l197 post f_p0_file n I_p0 f_p0_data f_p0_dirs f_p0_many f_p0_nibs f_p0_start x8 x9 → W p l e ({ frames := 5, cells := 0, slots := 0, locals := 124 } : Room) s m args below meth c H locs 0 0 Q (F0 m 197 ls []) := by
    intro n
    induction n with
    | zero => intro H locs ls I_p0 f_p0_data f_p0_dirs f_p0_many f_p0_nibs f_p0_start x8 x9 hP hD hS hl hw; exact hw.elim
    | succ n ih =>
      intro H locs ls I_p0 f_p0_data f_p0_dirs f_p0_many f_p0_nibs f_p0_start x8 x9 hP hD hS hl hw
      unfold wp_M_strip_l197 at hw
      refine lv_iload hx hb d_M_strip_197 (lv_at hl 2 rfl) ?_
      refine lv_iload hx hb d_M_strip_199 (lv_at hl 1 rfl) ?_
      refine lv_icmp_ge hx hb d_M_strip_201 rfl (fun hc => ?_) (fun hc => ?_)
      · have hw := hw.1 hc
        refine lv_iconst (v := 1) hx hb d_M_strip_241 (by decide) ?_
        exact hret _ _ _ _ _ (I_p0, f_p0_data, f_p0_dirs, f_p0_many, f_p0_nibs, f_p0_start) d_M_strip_242 rfl hP hD hS hw
      · have hw := hw.2 hc
        refine lv_aload_n hx hb d_M_strip_204 rfl (lv_at hl 0 rfl) ?_
        refine va_get (D := (dC, dI)) (ci := 10) (v := .ref (A_p0 15)) (C := R_M) (T := T_M) (N := 30) hx hb hg in_M hown hK hP 0 rfl rfl 15 (by decide) (hg _ t_773) (fun _ h9 => h9) rfl d_M_strip_205 ?_
        refine lv_iload hx hb d_M_strip_208 (lv_at hl 2 rfl) ?_
        refine lv_bipush (v := 16) hx hb d_M_strip_210 (by decide) ?_
        refine lv_aload_n hx hb d_M_strip_212 rfl (lv_at hl 0 rfl) ?_
        refine va_get (D := (dC, dI)) (ci := 10) (v := .ref (A_p0 16)) (C := R_M) (T := T_M) (N := 30) hx hb hg in_M hown hK hP 0 rfl rfl 16 (by decide) (hg _ t_774) (fun _ h9 => h9) rfl d_M_strip_213 ?_
        refine lv_iconst (v := 2) hx hb d_M_strip_216 (by decide) ?_
        refine lv_iload hx hb d_M_strip_217 (lv_at hl 2 rfl) ?_
        refine lv_imul hx hb d_M_strip_219 ?_
        obtain ⟨hin, hw⟩ := hw
        refine va_iald hx hb hK hP 5 0 rfl rfl hin d_M_strip_220 ?_
        refine lv_imul hx hb d_M_strip_221 ?_
        refine lv_aload_n hx hb d_M_strip_222 rfl (lv_at hl 0 rfl) ?_
        refine va_get (D := (dC, dI)) (ci := 10) (v := .ref (A_p0 16)) (C := R_M) (T := T_M) (N := 30) hx hb hg in_M hown hK hP 0 rfl rfl 16 (by decide) (hg _ t_774) (fun _ h9 => h9) rfl d_M_strip_223 ?_
        refine lv_iconst (v := 2) hx hb d_M_strip_226 (by decide) ?_
        refine lv_iload hx hb d_M_strip_227 (lv_at hl 2 rfl) ?_
        refine lv_imul hx hb d_M_strip_229 ?_
        refine lv_iconst (v := 1) hx hb d_M_strip_230 (by decide) ?_
        refine lv_iadd hx hb d_M_strip_231 ?_
        obtain ⟨hin, hw⟩ := hw
        refine va_iald hx hb hK hP 5 0 rfl rfl hin d_M_strip_232 ?_
        refine lv_iadd hx hb d_M_strip_233 ?_
        obtain ⟨hin, hw⟩ := hw
        refine va_iast hx hb hK hP hD hS 1 0 rfl rfl hin d_M_strip_234 (fun H locs hP hD hS => ?_)
        have hP : va_P (dC, dI) vwCl [oM a_p0 A_p0 I_p0, gz cI (A_p0 15) 256 (upd f_p0_data (x9).toNatClampNeg ((16 * (f_p0_nibs (2 * x9).toNatClampNeg)) + (f_p0_nibs ((2 * x9) + 1).toNatClampNeg))), gz cI (A_p0 13) 8 f_p0_dirs, gz cI (A_p0 0) 2000 f_p0_file, gz cI (A_p0 18) 120 f_p0_many, gz cI (A_p0 16) 512 f_p0_nibs, gz cI (A_p0 17) 120 f_p0_start] H := hP
        have hD : va_D A [oM a_p0 A_p0 I_p0, gz cI (A_p0 15) 256 (upd f_p0_data (x9).toNatClampNeg ((16 * (f_p0_nibs (2 * x9).toNatClampNeg)) + (f_p0_nibs ((2 * x9) + 1).toNatClampNeg))), gz cI (A_p0 13) 8 f_p0_dirs, gz cI (A_p0 0) 2000 f_p0_file, gz cI (A_p0 18) 120 f_p0_many, gz cI (A_p0 16) 512 f_p0_nibs, gz cI (A_p0 17) 120 f_p0_start] := hD
        refine lv_iinc (k := 2) (v := (x9 + 1)) (lv' := [(9, .int (x9 + 1)), (0, .ref a_p0), (8, .int x8)]) hx hb d_M_strip_235 hl rfl (congrArg (fun z => x9 + z) (by decide : Int32.ofInt 1 = 1)) (by decide) rfl (fun ls hl => ?_)
        refine lv_goto hx hb d_M_strip_238 rfl ?_
        exact ih _ _ _ I_p0 (upd f_p0_data (x9).toNatClampNeg ((16 * (f_p0_nibs (2 * x9).toNatClampNeg)) + (f_p0_nibs ((2 * x9) + 1).toNatClampNeg))) f_p0_dirs f_p0_many f_p0_nibs f_p0_start x8 (x9 + 1) hP hD hS (lv_sub hl [1, 2, 0] rfl) hw
  have b161 : ∀ (H : Heap) (locs : List Loc) (ls : Array Slot) (I_p0 : Nat → Int32) (f_p0_data : Nat → Int32) (f_p0_dirs : Nat → Int32) (f_p0_many : Nat → Int32) (f_p0_nibs : Nat → Int32) (f_p0_start : Nat → Int32) (x5 : Int64) (x8 : Int32), va_P (dC, dI) vwCl [oM a_p0 A_p0 I_p0, gz cI (A_p0 15) 256 f_p0_data, gz cI (A_p0 13) 8 f_p0_dirs, gz cI (A_p0 0) 2000 f_p0_file, gz cI (A_p0 18) 120 f_p0_many, gz cI (A_p0 16) 512 f_p0_nibs, gz cI (A_p0 17) 120 f_p0_start] H → va_D A [oM a_p0 A_p0 I_p0, gz cI (A_p0 15) 256 f_p0_data, gz cI (A_p0 13) 8 f_p0_dirs, gz cI (A_p0 0) 2000 f_p0_file, gz cI (A_p0 18) 120 f_p0_many, gz cI (A_p0 16) 512 f_p0_nibs, gz cI (A_p0 17) 120 f_p0_start] → va_S A s.heap H locs → lv_has ls 10 [(5, .long x5), (8, .int x8)] → wp_M_strip_b161 post f_p0_file I_p0 f_p0_data f_p0_dirs f_p0_many f_p0_nibs f_p0_start x5 x8 → W p l e ({ frames := 5, cells := 0, slots := 0, locals := 124 } : Room) s m args below meth c H locs 0 0 Q (F0 m 161 ls []) := by
    intro H locs ls I_p0 f_p0_data f_p0_dirs f_p0_many f_p0_nibs f_p0_start x5 x8 hP hD hS hl hw
    unfold wp_M_strip_b161 at hw
    refine lv_lload hx hb d_M_strip_161 (lv_at hl 0 rfl) ?_
    refine lv_iload hx hb d_M_strip_163 (lv_at hl 1 rfl) ?_
    refine lv_i2l hx hb d_M_strip_165 rfl ?_
    refine W.lcmp hx hb d_M_strip_166 ?_
    refine lv_if_ne hx hb d_M_strip_167 rfl (fun hc => ?_) (fun hc => ?_)
    · have hw := hw.2 (fun h9 => hc ((lg_cmp_eq _ _).mpr h9))
      refine lv_iconst (v := 0) hx hb d_M_strip_174 (by decide) ?_
      exact hret _ _ _ _ _ (I_p0, f_p0_data, f_p0_dirs, f_p0_many, f_p0_nibs, f_p0_start) d_M_strip_175 rfl hP hD hS hw
    · have hw := hw.1 ((lg_cmp_eq _ _).mp hc)
      refine lv_iconst (v := 1) hx hb d_M_strip_170 (by decide) ?_
      refine lv_goto hx hb d_M_strip_171 rfl ?_
      exact hret _ _ _ _ _ (I_p0, f_p0_data, f_p0_dirs, f_p0_many, f_p0_nibs, f_p0_start) d_M_strip_175 rfl hP hD hS hw
  have l122 : ∀ n : Nat, ∀ (H : Heap) (locs : List Loc) (ls : Array Slot) (I_p0 : Nat → Int32) (f_p0_data : Nat → Int32) (f_p0_dirs : Nat → Int32) (f_p0_many : Nat → Int32) (f_p0_nibs : Nat → Int32) (f_p0_start : Nat → Int32) (x3 : Int64) (x5 : Int64) (x8 : Int32) (x9 : Int32), va_P (dC, dI) vwCl [oM a_p0 A_p0 I_p0, gz cI (A_p0 15) 256 f_p0_data, gz cI (A_p0 13) 8 f_p0_dirs, gz cI (A_p0 0) 2000 f_p0_file, gz cI (A_p0 18) 120 f_p0_many, gz cI (A_p0 16) 512 f_p0_nibs, gz cI (A_p0 17) 120 f_p0_start] H → va_D A [oM a_p0 A_p0 I_p0, gz cI (A_p0 15) 256 f_p0_data, gz cI (A_p0 13) 8 f_p0_dirs, gz cI (A_p0 0) 2000 f_p0_file, gz cI (A_p0 18) 120 f_p0_many, gz cI (A_p0 16) 512 f_p0_nibs, gz cI (A_p0 17) 120 f_p0_start] → va_S A s.heap H locs → lv_has ls 10 [(0, .ref a_p0), (3, .long x3), (5, .long x5), (8, .int x8), (9, .int x9)] → wp_M_strip_l122 post f_p0_file n I_p0 f_p0_data f_p0_dirs f_p0_many f_p0_nibs f_p0_start x3 x5 x8 x9 → W p l e ({ frames := 5, cells := 0, slots := 0, locals := 124 } : Room) s m args below meth c H locs 0 0 Q (F0 m 122 ls []) := by
    intro n
    induction n with
    | zero => intro H locs ls I_p0 f_p0_data f_p0_dirs f_p0_many f_p0_nibs f_p0_start x3 x5 x8 x9 hP hD hS hl hw; exact hw.elim
    | succ n ih =>
      intro H locs ls I_p0 f_p0_data f_p0_dirs f_p0_many f_p0_nibs f_p0_start x3 x5 x8 x9 hP hD hS hl hw
      unfold wp_M_strip_l122 at hw
      refine lv_iload hx hb d_M_strip_122 (lv_at hl 4 rfl) ?_
      refine lv_iload hx hb d_M_strip_124 (lv_at hl 3 rfl) ?_
      refine lv_icmp_ge hx hb d_M_strip_126 rfl (fun hc => ?_) (fun hc => ?_)
      · have hw := hw.1 hc
        exact b161 _ _ _ I_p0 f_p0_data f_p0_dirs f_p0_many f_p0_nibs f_p0_start x5 x8 hP hD hS (lv_sub hl [2, 3] rfl) hw
      · have hw := hw.2 hc
        refine lv_lload hx hb d_M_strip_129 (lv_at hl 2 rfl) ?_
        refine lv_iload hx hb d_M_strip_131 (lv_at hl 3 rfl) ?_
        refine lv_i2l hx hb d_M_strip_133 rfl ?_
        refine W.lcmp hx hb d_M_strip_134 ?_
        refine lv_if_ne hx hb d_M_strip_135 rfl (fun hc => ?_) (fun hc => ?_)
        · have hw := hw.2 (fun h9 => hc ((lg_cmp_eq _ _).mpr h9))
          exact b161 _ _ _ I_p0 f_p0_data f_p0_dirs f_p0_many f_p0_nibs f_p0_start x5 x8 hP hD hS (lv_sub hl [2, 3] rfl) hw
        · have hw := hw.1 ((lg_cmp_eq _ _).mp hc)
          refine lv_aload_n hx hb d_M_strip_138 rfl (lv_at hl 0 rfl) ?_
          refine va_get (D := (dC, dI)) (ci := 10) (v := .ref (A_p0 15)) (C := R_M) (T := T_M) (N := 30) hx hb hg in_M hown hK hP 0 rfl rfl 15 (by decide) (hg _ t_773) (fun _ h9 => h9) rfl d_M_strip_139 ?_
          refine lv_iload hx hb d_M_strip_142 (lv_at hl 4 rfl) ?_
          refine lv_aload_n hx hb d_M_strip_144 rfl (lv_at hl 0 rfl) ?_
          refine va_get (D := (dC, dI)) (ci := 10) (v := .ref (A_p0 0)) (C := R_M) (T := T_M) (N := 30) hx hb hg in_M hown hK hP 0 rfl rfl 0 (by decide) (hg _ t_758) (fun _ h9 => h9) rfl d_M_strip_145 ?_
          refine lv_lload_n hx hb d_M_strip_148 rfl (lv_at hl 1 rfl) ?_
          refine lv_l2i hx hb d_M_strip_149 rfl ?_
          refine lv_iload hx hb d_M_strip_150 (lv_at hl 4 rfl) ?_
          refine lv_iadd hx hb d_M_strip_152 ?_
          obtain ⟨hin, hw⟩ := hw
          refine va_iald hx hb hK hP 3 0 rfl rfl hin d_M_strip_153 ?_
          obtain ⟨hin, hw⟩ := hw
          refine va_iast hx hb hK hP hD hS 1 0 rfl rfl hin d_M_strip_154 (fun H locs hP hD hS => ?_)
          have hP : va_P (dC, dI) vwCl [oM a_p0 A_p0 I_p0, gz cI (A_p0 15) 256 (upd f_p0_data (x9).toNatClampNeg (f_p0_file (x3.toInt32 + x9).toNatClampNeg)), gz cI (A_p0 13) 8 f_p0_dirs, gz cI (A_p0 0) 2000 f_p0_file, gz cI (A_p0 18) 120 f_p0_many, gz cI (A_p0 16) 512 f_p0_nibs, gz cI (A_p0 17) 120 f_p0_start] H := hP
          have hD : va_D A [oM a_p0 A_p0 I_p0, gz cI (A_p0 15) 256 (upd f_p0_data (x9).toNatClampNeg (f_p0_file (x3.toInt32 + x9).toNatClampNeg)), gz cI (A_p0 13) 8 f_p0_dirs, gz cI (A_p0 0) 2000 f_p0_file, gz cI (A_p0 18) 120 f_p0_many, gz cI (A_p0 16) 512 f_p0_nibs, gz cI (A_p0 17) 120 f_p0_start] := hD
          refine lv_iinc (k := 4) (v := (x9 + 1)) (lv' := [(9, .int (x9 + 1)), (0, .ref a_p0), (3, .long x3), (5, .long x5), (8, .int x8)]) hx hb d_M_strip_155 hl rfl (congrArg (fun z => x9 + z) (by decide : Int32.ofInt 1 = 1)) (by decide) rfl (fun ls hl => ?_)
          refine lv_goto hx hb d_M_strip_158 rfl ?_
          exact ih _ _ _ I_p0 (upd f_p0_data (x9).toNatClampNeg (f_p0_file (x3.toInt32 + x9).toNatClampNeg)) f_p0_dirs f_p0_many f_p0_nibs f_p0_start x3 x5 x8 (x9 + 1) hP hD hS (lv_sub hl [1, 2, 3, 4, 0] rfl) hw
  have b72 : ∀ (H : Heap) (locs : List Loc) (ls : Array Slot) (I_p0 : Nat → Int32) (f_p0_data : Nat → Int32) (f_p0_dirs : Nat → Int32) (f_p0_many : Nat → Int32) (f_p0_nibs : Nat → Int32) (f_p0_start : Nat → Int32) (x3 : Int64) (x5 : Int64) (s0 : Int32), va_P (dC, dI) vwCl [oM a_p0 A_p0 I_p0, gz cI (A_p0 15) 256 f_p0_data, gz cI (A_p0 13) 8 f_p0_dirs, gz cI (A_p0 0) 2000 f_p0_file, gz cI (A_p0 18) 120 f_p0_many, gz cI (A_p0 16) 512 f_p0_nibs, gz cI (A_p0 17) 120 f_p0_start] H → va_D A [oM a_p0 A_p0 I_p0, gz cI (A_p0 15) 256 f_p0_data, gz cI (A_p0 13) 8 f_p0_dirs, gz cI (A_p0 0) 2000 f_p0_file, gz cI (A_p0 18) 120 f_p0_many, gz cI (A_p0 16) 512 f_p0_nibs, gz cI (A_p0 17) 120 f_p0_start] → va_S A s.heap H locs → lv_has ls 10 [(0, .ref a_p0), (3, .long x3), (5, .long x5)] → wp_M_strip_b72 post f_p0_file I_p0 f_p0_data f_p0_dirs f_p0_many f_p0_nibs f_p0_start x3 x5 s0 → W p l e ({ frames := 5, cells := 0, slots := 0, locals := 124 } : Room) s m args below meth c H locs 0 0 Q (F0 m 72 ls [.int s0]) := by
    intro H locs ls I_p0 f_p0_data f_p0_dirs f_p0_many f_p0_nibs f_p0_start x3 x5 s0 hP hD hS hl hw
    unfold wp_M_strip_b72 at hw
    refine lv_istore (lv' := [(7, .int s0), (0, .ref a_p0), (3, .long x3), (5, .long x5)]) hx hb d_M_strip_72 hl (by decide) rfl (fun ls hl => ?_)
    refine lv_iload hx hb d_M_strip_74 (lv_at hl 0 rfl) ?_
    refine lv_aload_n hx hb d_M_strip_76 rfl (lv_at hl 1 rfl) ?_
    refine va_get (D := (dC, dI)) (ci := 10) (v := .int (I_p0 23)) (C := R_M) (T := T_M) (N := 30) hx hb hg in_M hown hK hP 0 rfl rfl 23 (by decide) (hg _ t_781) (fun _ h9 => h9) rfl d_M_strip_77 ?_
    refine lv_aload_n hx hb d_M_strip_80 rfl (lv_at hl 1 rfl) ?_
    refine va_get (D := (dC, dI)) (ci := 10) (v := .int (I_p0 25)) (C := R_M) (T := T_M) (N := 30) hx hb hg in_M hown hK hP 0 rfl rfl 25 (by decide) (hg _ t_783) (fun _ h9 => h9) rfl d_M_strip_81 ?_
    refine gc_i (wn := fun (_ : Unit) => [oM a_p0 A_p0 I_p0, gz cI (A_p0 15) 256 f_p0_data, gz cI (A_p0 13) 8 f_p0_dirs, gz cI (A_p0 0) 2000 f_p0_file, gz cI (A_p0 18) 120 f_p0_many, gz cI (A_p0 16) 512 f_p0_nibs, gz cI (A_p0 17) 120 f_p0_start]) (wr := [oM a_p0 A_p0 I_p0, gz cI (A_p0 15) 256 f_p0_data, gz cI (A_p0 13) 8 f_p0_dirs, gz cI (A_p0 0) 2000 f_p0_file, gz cI (A_p0 18) 120 f_p0_many, gz cI (A_p0 16) 512 f_p0_nibs, gz cI (A_p0 17) 120 f_p0_start]) (gr_S (As := [.int (I_p0 23), .int (I_p0 25)]) (rest := [.int s0]) ⟨hx, hb, hml, hown, hg⟩ (c_M_rowBytes l dC dI cI (I_p0 23) (I_p0 25) hw _) (va_cwS 2 hg (gg_S t_962 t_963 t_71 t_964) rfl rfl rfl (by decide +kernel) ⟨Nat.le_of_ble_eq_true rfl, Nat.le_of_ble_eq_true rfl⟩) hK hN hP hD [] (by decide) rfl rfl hl.1 rfl (Nat.le_of_ble_eq_true rfl) d_M_strip_84 ⟨Nat.le_of_ble_eq_true rfl, Nat.le_of_ble_eq_true rfl⟩) rfl rfl hP hD hS hA [] [0, 1, 2, 3, 4, 5, 6] [0, 1, 2, 3, 4, 5, 6] rfl rfl (by decide) (by decide) (by decide) (fun _ => rfl) ?_
    intro r84 _ H locs hw hP hD hS
    try dsimp only at hw
    have hP : va_P (dC, dI) vwCl [oM a_p0 A_p0 I_p0, gz cI (A_p0 15) 256 f_p0_data, gz cI (A_p0 13) 8 f_p0_dirs, gz cI (A_p0 0) 2000 f_p0_file, gz cI (A_p0 18) 120 f_p0_many, gz cI (A_p0 16) 512 f_p0_nibs, gz cI (A_p0 17) 120 f_p0_start] H := hP
    have hD : va_D A [oM a_p0 A_p0 I_p0, gz cI (A_p0 15) 256 f_p0_data, gz cI (A_p0 13) 8 f_p0_dirs, gz cI (A_p0 0) 2000 f_p0_file, gz cI (A_p0 18) 120 f_p0_many, gz cI (A_p0 16) 512 f_p0_nibs, gz cI (A_p0 17) 120 f_p0_start] := hD
    refine lv_imul hx hb d_M_strip_87 ?_
    refine lv_istore (lv' := [(8, .int (s0 * r84)), (7, .int s0), (0, .ref a_p0), (3, .long x3), (5, .long x5)]) hx hb d_M_strip_88 hl (by decide) rfl (fun ls hl => ?_)
    refine lv_aload_n hx hb d_M_strip_90 rfl (lv_at hl 2 rfl) ?_
    refine va_get (D := (dC, dI)) (ci := 10) (v := .int (I_p0 26)) (C := R_M) (T := T_M) (N := 30) hx hb hg in_M hown hK hP 0 rfl rfl 26 (by decide) (hg _ t_784) (fun _ h9 => h9) rfl d_M_strip_91 ?_
    refine lv_ldc (v := 32773) hx hb hown (hg _ t_945) d_M_strip_94 ?_
    refine lv_icmp_ne hx hb d_M_strip_96 rfl (fun hc => ?_) (fun hc => ?_)
    · have hw := hw.2 hc
      refine lv_aload_n hx hb d_M_strip_111 rfl (lv_at hl 2 rfl) ?_
      refine va_get (D := (dC, dI)) (ci := 10) (v := .int (I_p0 26)) (C := R_M) (T := T_M) (N := 30) hx hb hg in_M hown hK hP 0 rfl rfl 26 (by decide) (hg _ t_784) (fun _ h9 => h9) rfl d_M_strip_112 ?_
      refine lv_iconst (v := 1) hx hb d_M_strip_115 (by decide) ?_
      refine lv_icmp_ne hx hb d_M_strip_116 rfl (fun hc => ?_) (fun hc => ?_)
      · have hw := hw.2 hc
        refine lv_aload_n hx hb d_M_strip_176 rfl (lv_at hl 2 rfl) ?_
        refine lv_lload_n hx hb d_M_strip_177 rfl (lv_at hl 3 rfl) ?_
        refine lv_l2i hx hb d_M_strip_178 rfl ?_
        refine lv_lload hx hb d_M_strip_179 (lv_at hl 4 rfl) ?_
        refine lv_l2i hx hb d_M_strip_181 rfl ?_
        refine lv_iconst (v := 2) hx hb d_M_strip_182 (by decide) ?_
        refine lv_iload hx hb d_M_strip_183 (lv_at hl 0 rfl) ?_
        refine lv_imul hx hb d_M_strip_185 ?_
        refine gc_i (wn := fun u => [oM a_p0 A_p0 I_p0, gz cI (A_p0 15) 256 f_p0_data, gz cI (A_p0 13) 8 f_p0_dirs, gz cI (A_p0 0) 2000 f_p0_file, gz cI (A_p0 18) 120 u.1, gz cI (A_p0 16) 512 u.2.1, gz cI (A_p0 17) 120 u.2.2]) (wr := [gz cI (A_p0 15) 256 f_p0_data, gz cI (A_p0 13) 8 f_p0_dirs]) (gr_V (As := [.int x3.toInt32, .int x5.toInt32, .int (2 * (s0 * r84))]) (rest := []) ⟨hx, hb, hml, hown, hg⟩ (c_M_decode l dC dI cI a_p0 A_p0 I_p0 f_p0_file f_p0_many f_p0_nibs f_p0_start x3.toInt32 x5.toInt32 (2 * (s0 * r84)) hw _) (cwV 3 hg (gg_V t_1052 t_1054 t_56 t_71 t_1055) rfl rfl rfl (by decide +kernel) ⟨Nat.le_of_ble_eq_true rfl, Nat.le_of_ble_eq_true rfl⟩) hK hN hP hD [0, 3, 4, 5, 6] (by decide) rfl 0 10 rfl rfl rfl rfl hl.1 rfl (Nat.le_of_ble_eq_true rfl) d_M_strip_186 ⟨Nat.le_of_ble_eq_true rfl, Nat.le_of_ble_eq_true rfl⟩) rfl rfl hP hD hS hA [0, 3, 4, 5, 6] [1, 2] [2, 0, 1, 3, 4, 5, 6] rfl rfl (by decide) (by decide) (by decide) (fun _ => rfl) ?_
        intro r186 u9 H locs hw hP hD hS
        obtain ⟨f_p0_many_186, f_p0_nibs_186, f_p0_start_186⟩ := u9
        try dsimp only at hw
        have hP : va_P (dC, dI) vwCl [oM a_p0 A_p0 I_p0, gz cI (A_p0 15) 256 f_p0_data, gz cI (A_p0 13) 8 f_p0_dirs, gz cI (A_p0 0) 2000 f_p0_file, gz cI (A_p0 18) 120 f_p0_many_186, gz cI (A_p0 16) 512 f_p0_nibs_186, gz cI (A_p0 17) 120 f_p0_start_186] H := hP
        have hD : va_D A [oM a_p0 A_p0 I_p0, gz cI (A_p0 15) 256 f_p0_data, gz cI (A_p0 13) 8 f_p0_dirs, gz cI (A_p0 0) 2000 f_p0_file, gz cI (A_p0 18) 120 f_p0_many_186, gz cI (A_p0 16) 512 f_p0_nibs_186, gz cI (A_p0 17) 120 f_p0_start_186] := hD
        refine lv_if_ne hx hb d_M_strip_189 rfl (fun hc => ?_) (fun hc => ?_)
        · have hw := hw.2 hc
          refine lv_iconst (v := 0) hx hb d_M_strip_194 (by decide) ?_
          refine lv_istore (lv' := [(9, .int 0), (8, .int (s0 * r84)), (7, .int s0), (0, .ref a_p0), (3, .long x3), (5, .long x5)]) hx hb d_M_strip_195 hl (by decide) rfl (fun ls hl => ?_)
          obtain ⟨n1, hw⟩ := hw
          exact l197 n1 _ _ _ I_p0 f_p0_data f_p0_dirs f_p0_many_186 f_p0_nibs_186 f_p0_start_186 (s0 * r84) 0 hP hD hS (lv_sub hl [3, 1, 0] rfl) hw
        · have hw := hw.1 hc
          refine lv_iconst (v := 0) hx hb d_M_strip_192 (by decide) ?_
          exact hret _ _ _ _ _ (I_p0, f_p0_data, f_p0_dirs, f_p0_many_186, f_p0_nibs_186, f_p0_start_186) d_M_strip_193 rfl hP hD hS hw
      · have hw := hw.1 hc
        refine lv_iconst (v := 0) hx hb d_M_strip_119 (by decide) ?_
        refine lv_istore (lv' := [(9, .int 0), (8, .int (s0 * r84)), (7, .int s0), (0, .ref a_p0), (3, .long x3), (5, .long x5)]) hx hb d_M_strip_120 hl (by decide) rfl (fun ls hl => ?_)
        obtain ⟨n1, hw⟩ := hw
        exact l122 n1 _ _ _ I_p0 f_p0_data f_p0_dirs f_p0_many f_p0_nibs f_p0_start x3 x5 (s0 * r84) 0 hP hD hS (lv_sub hl [3, 4, 5, 1, 0] rfl) hw
    · have hw := hw.1 hc
      refine lv_aload_n hx hb d_M_strip_99 rfl (lv_at hl 2 rfl) ?_
      refine lv_lload_n hx hb d_M_strip_100 rfl (lv_at hl 3 rfl) ?_
      refine lv_l2i hx hb d_M_strip_101 rfl ?_
      refine lv_lload hx hb d_M_strip_102 (lv_at hl 4 rfl) ?_
      refine lv_l2i hx hb d_M_strip_104 rfl ?_
      refine lv_iload hx hb d_M_strip_105 (lv_at hl 0 rfl) ?_
      refine gc_i (wn := fun u => [oM a_p0 A_p0 I_p0, gz cI (A_p0 15) 256 u, gz cI (A_p0 13) 8 f_p0_dirs, gz cI (A_p0 0) 2000 f_p0_file, gz cI (A_p0 18) 120 f_p0_many, gz cI (A_p0 16) 512 f_p0_nibs, gz cI (A_p0 17) 120 f_p0_start]) (wr := [gz cI (A_p0 13) 8 f_p0_dirs, gz cI (A_p0 18) 120 f_p0_many, gz cI (A_p0 16) 512 f_p0_nibs, gz cI (A_p0 17) 120 f_p0_start]) (gr_V (As := [.int x3.toInt32, .int x5.toInt32, .int (s0 * r84)]) (rest := []) ⟨hx, hb, hml, hown, hg⟩ (c_M_unpack l dC dI cI a_p0 A_p0 I_p0 f_p0_file f_p0_data x3.toInt32 x5.toInt32 (s0 * r84) hw _) (cwV 3 hg (gg_V t_1048 t_1050 t_55 t_71 t_1051) rfl rfl rfl (by decide +kernel) ⟨Nat.le_of_ble_eq_true rfl, Nat.le_of_ble_eq_true rfl⟩) hK hN hP hD [0, 1, 3] (by decide) rfl 0 10 rfl rfl rfl rfl hl.1 rfl (Nat.le_of_ble_eq_true rfl) d_M_strip_107 ⟨Nat.le_of_ble_eq_true rfl, Nat.le_of_ble_eq_true rfl⟩) rfl rfl hP hD hS hA [0, 1, 3] [2, 4, 5, 6] [4, 5, 0, 6, 1, 2, 3] rfl rfl (by decide) (by decide) (by decide) (fun _ => rfl) ?_
      intro r107 f_p0_data_107 H locs hw hP hD hS
      try dsimp only at hw
      have hP : va_P (dC, dI) vwCl [oM a_p0 A_p0 I_p0, gz cI (A_p0 15) 256 f_p0_data_107, gz cI (A_p0 13) 8 f_p0_dirs, gz cI (A_p0 0) 2000 f_p0_file, gz cI (A_p0 18) 120 f_p0_many, gz cI (A_p0 16) 512 f_p0_nibs, gz cI (A_p0 17) 120 f_p0_start] H := hP
      have hD : va_D A [oM a_p0 A_p0 I_p0, gz cI (A_p0 15) 256 f_p0_data_107, gz cI (A_p0 13) 8 f_p0_dirs, gz cI (A_p0 0) 2000 f_p0_file, gz cI (A_p0 18) 120 f_p0_many, gz cI (A_p0 16) 512 f_p0_nibs, gz cI (A_p0 17) 120 f_p0_start] := hD
      obtain ⟨hz, hw⟩ := hw
      exact hret _ _ _ _ _ (I_p0, f_p0_data_107, f_p0_dirs, f_p0_many, f_p0_nibs, f_p0_start) d_M_strip_110 (gz_nar hz) hP hD hS hw
  intro ls hl hP hD hS
  have hl : lv_has ls 10 [(0, .ref a_p0), (1, .int x1), (2, .int x2)] := hl
  unfold wp_M_strip at hw
  refine lv_aload_n hx hb d_M_strip_0 rfl (lv_at hl 0 rfl) ?_
  refine lv_iload_n hx hb d_M_strip_1 rfl (lv_at hl 1 rfl) ?_
  refine lv_sipush (v := 273) hx hb d_M_strip_2 (by decide) ?_
  refine lv_iload_n hx hb d_M_strip_5 rfl (lv_at hl 2 rfl) ?_
  refine gc_l (wn := fun u => [oM a_p0 A_p0 u.1, gz cI (A_p0 15) 256 f_p0_data, gz cI (A_p0 13) 8 u.2, gz cI (A_p0 0) 2000 f_p0_file, gz cI (A_p0 18) 120 f_p0_many, gz cI (A_p0 16) 512 f_p0_nibs, gz cI (A_p0 17) 120 f_p0_start]) (wr := [gz cI (A_p0 15) 256 f_p0_data, gz cI (A_p0 18) 120 f_p0_many, gz cI (A_p0 16) 512 f_p0_nibs, gz cI (A_p0 17) 120 f_p0_start]) (gr_V (As := [.int x1, .int 273, .int x2]) (rest := []) ⟨hx, hb, hml, hown, hg⟩ (c_M_field l dC dI cI a_p0 A_p0 f_p0_file I_p0 f_p0_dirs x1 273 x2 hw _) (cwV 3 hg (gg_V t_1032 t_920 t_921 t_71 t_922) rfl rfl rfl (by decide +kernel) ⟨Nat.le_of_ble_eq_true rfl, Nat.le_of_ble_eq_true rfl⟩) hK hN hP hD [0, 2, 3] (by decide) rfl 0 10 rfl rfl rfl rfl hl.1 rfl (Nat.le_of_ble_eq_true rfl) d_M_strip_6 ⟨Nat.le_of_ble_eq_true rfl, Nat.le_of_ble_eq_true rfl⟩) rfl rfl hP hD hS hA [0, 2, 3] [1, 4, 5, 6] [4, 0, 5, 6, 1, 2, 3] rfl rfl (by decide) (by decide) (by decide) (fun _ => rfl) ?_
  intro r6 u9 H locs hw hP hD hS
  obtain ⟨I_p0_6, f_p0_dirs_6⟩ := u9
  try dsimp only at hw
  have hP : va_P (dC, dI) vwCl [oM a_p0 A_p0 I_p0_6, gz cI (A_p0 15) 256 f_p0_data, gz cI (A_p0 13) 8 f_p0_dirs_6, gz cI (A_p0 0) 2000 f_p0_file, gz cI (A_p0 18) 120 f_p0_many, gz cI (A_p0 16) 512 f_p0_nibs, gz cI (A_p0 17) 120 f_p0_start] H := hP
  have hD : va_D A [oM a_p0 A_p0 I_p0_6, gz cI (A_p0 15) 256 f_p0_data, gz cI (A_p0 13) 8 f_p0_dirs_6, gz cI (A_p0 0) 2000 f_p0_file, gz cI (A_p0 18) 120 f_p0_many, gz cI (A_p0 16) 512 f_p0_nibs, gz cI (A_p0 17) 120 f_p0_start] := hD
  refine lv_lstore_n (lv' := [(3, .long r6), (0, .ref a_p0), (1, .int x1), (2, .int x2)]) hx hb d_M_strip_9 rfl hl (by decide) rfl (fun ls hl => ?_)
  refine lv_aload_n hx hb d_M_strip_10 rfl (lv_at hl 1 rfl) ?_
  refine lv_iload_n hx hb d_M_strip_11 rfl (lv_at hl 2 rfl) ?_
  refine lv_sipush (v := 279) hx hb d_M_strip_12 (by decide) ?_
  refine lv_iload_n hx hb d_M_strip_15 rfl (lv_at hl 3 rfl) ?_
  refine gc_l (wn := fun u => [oM a_p0 A_p0 u.1, gz cI (A_p0 15) 256 f_p0_data, gz cI (A_p0 13) 8 u.2, gz cI (A_p0 0) 2000 f_p0_file, gz cI (A_p0 18) 120 f_p0_many, gz cI (A_p0 16) 512 f_p0_nibs, gz cI (A_p0 17) 120 f_p0_start]) (wr := [gz cI (A_p0 15) 256 f_p0_data, gz cI (A_p0 18) 120 f_p0_many, gz cI (A_p0 16) 512 f_p0_nibs, gz cI (A_p0 17) 120 f_p0_start]) (gr_V (As := [.int x1, .int 279, .int x2]) (rest := []) ⟨hx, hb, hml, hown, hg⟩ (c_M_field l dC dI cI a_p0 A_p0 f_p0_file I_p0_6 f_p0_dirs_6 x1 279 x2 hw _) (cwV 3 hg (gg_V t_1032 t_920 t_921 t_71 t_922) rfl rfl rfl (by decide +kernel) ⟨Nat.le_of_ble_eq_true rfl, Nat.le_of_ble_eq_true rfl⟩) hK hN hP hD [0, 2, 3] (by decide) rfl 0 10 rfl rfl rfl rfl hl.1 rfl (Nat.le_of_ble_eq_true rfl) d_M_strip_16 ⟨Nat.le_of_ble_eq_true rfl, Nat.le_of_ble_eq_true rfl⟩) rfl rfl hP hD hS hA [0, 2, 3] [1, 4, 5, 6] [4, 0, 5, 6, 1, 2, 3] rfl rfl (by decide) (by decide) (by decide) (fun _ => rfl) ?_
  intro r16 u9 H locs hw hP hD hS
  obtain ⟨I_p0_16, f_p0_dirs_16⟩ := u9
  try dsimp only at hw
  have hP : va_P (dC, dI) vwCl [oM a_p0 A_p0 I_p0_16, gz cI (A_p0 15) 256 f_p0_data, gz cI (A_p0 13) 8 f_p0_dirs_16, gz cI (A_p0 0) 2000 f_p0_file, gz cI (A_p0 18) 120 f_p0_many, gz cI (A_p0 16) 512 f_p0_nibs, gz cI (A_p0 17) 120 f_p0_start] H := hP
  have hD : va_D A [oM a_p0 A_p0 I_p0_16, gz cI (A_p0 15) 256 f_p0_data, gz cI (A_p0 13) 8 f_p0_dirs_16, gz cI (A_p0 0) 2000 f_p0_file, gz cI (A_p0 18) 120 f_p0_many, gz cI (A_p0 16) 512 f_p0_nibs, gz cI (A_p0 17) 120 f_p0_start] := hD
  refine lv_lstore (lv' := [(5, .long r16), (3, .long r6), (0, .ref a_p0), (1, .int x1), (2, .int x2)]) hx hb d_M_strip_19 hl (by decide) rfl (fun ls hl => ?_)
  refine lv_lload_n hx hb d_M_strip_21 rfl (lv_at hl 1 rfl) ?_
  refine lv_lload hx hb d_M_strip_22 (lv_at hl 0 rfl) ?_
  refine lv_ladd hx hb d_M_strip_24 ?_
  refine lv_aload_n hx hb d_M_strip_25 rfl (lv_at hl 2 rfl) ?_
  refine va_get (D := (dC, dI)) (ci := 10) (v := .int (I_p0_16 1)) (C := R_M) (T := T_M) (N := 30) hx hb hg in_M hown hK hP 0 rfl rfl 1 (by decide) (hg _ t_759) (fun _ h9 => h9) rfl d_M_strip_26 ?_
  refine lv_i2l hx hb d_M_strip_29 rfl ?_
  refine W.lcmp hx hb d_M_strip_30 ?_
  refine lv_if_le hx hb d_M_strip_31 rfl (fun hc => ?_) (fun hc => ?_)
  · have hw := hw.1 ((lg_cmp_le _ _).mp hc)
    refine lv_aload_n hx hb d_M_strip_36 rfl (lv_at hl 2 rfl) ?_
    refine va_get (D := (dC, dI)) (ci := 10) (v := .int (I_p0_16 24)) (C := R_M) (T := T_M) (N := 30) hx hb hg in_M hown hK hP 0 rfl rfl 24 (by decide) (hg _ t_782) (fun _ h9 => h9) rfl d_M_strip_37 ?_
    refine lv_iload_n hx hb d_M_strip_40 rfl (lv_at hl 4 rfl) ?_
    refine lv_aload_n hx hb d_M_strip_41 rfl (lv_at hl 2 rfl) ?_
    refine va_get (D := (dC, dI)) (ci := 10) (v := .int (I_p0_16 27)) (C := R_M) (T := T_M) (N := 30) hx hb hg in_M hown hK hP 0 rfl rfl 27 (by decide) (hg _ t_785) (fun _ h9 => h9) rfl d_M_strip_42 ?_
    refine lv_imul hx hb d_M_strip_45 ?_
    refine lv_isub hx hb d_M_strip_46 ?_
    refine lv_aload_n hx hb d_M_strip_47 rfl (lv_at hl 2 rfl) ?_
    refine va_get (D := (dC, dI)) (ci := 10) (v := .int (I_p0_16 27)) (C := R_M) (T := T_M) (N := 30) hx hb hg in_M hown hK hP 0 rfl rfl 27 (by decide) (hg _ t_785) (fun _ h9 => h9) rfl d_M_strip_48 ?_
    refine lv_icmp_ge hx hb d_M_strip_51 rfl (fun hc => ?_) (fun hc => ?_)
    · have hw := hw.1 hc
      refine lv_aload_n hx hb d_M_strip_68 rfl (lv_at hl 2 rfl) ?_
      refine va_get (D := (dC, dI)) (ci := 10) (v := .int (I_p0_16 27)) (C := R_M) (T := T_M) (N := 30) hx hb hg in_M hown hK hP 0 rfl rfl 27 (by decide) (hg _ t_785) (fun _ h9 => h9) rfl d_M_strip_69 ?_
      exact b72 _ _ _ I_p0_16 f_p0_data f_p0_dirs_16 f_p0_many f_p0_nibs f_p0_start r6 r16 (I_p0_16 27) hP hD hS (lv_sub hl [2, 1, 0] rfl) hw
    · have hw := hw.2 hc
      refine lv_aload_n hx hb d_M_strip_54 rfl (lv_at hl 2 rfl) ?_
      refine va_get (D := (dC, dI)) (ci := 10) (v := .int (I_p0_16 24)) (C := R_M) (T := T_M) (N := 30) hx hb hg in_M hown hK hP 0 rfl rfl 24 (by decide) (hg _ t_782) (fun _ h9 => h9) rfl d_M_strip_55 ?_
      refine lv_iload_n hx hb d_M_strip_58 rfl (lv_at hl 4 rfl) ?_
      refine lv_aload_n hx hb d_M_strip_59 rfl (lv_at hl 2 rfl) ?_
      refine va_get (D := (dC, dI)) (ci := 10) (v := .int (I_p0_16 27)) (C := R_M) (T := T_M) (N := 30) hx hb hg in_M hown hK hP 0 rfl rfl 27 (by decide) (hg _ t_785) (fun _ h9 => h9) rfl d_M_strip_60 ?_
      refine lv_imul hx hb d_M_strip_63 ?_
      refine lv_isub hx hb d_M_strip_64 ?_
      refine lv_goto hx hb d_M_strip_65 rfl ?_
      exact b72 _ _ _ I_p0_16 f_p0_data f_p0_dirs_16 f_p0_many f_p0_nibs f_p0_start r6 r16 ((I_p0_16 24) - (x2 * (I_p0_16 27))) hP hD hS (lv_sub hl [2, 1, 0] rfl) hw
  · have hw := hw.2 (fun h9 => hc ((lg_cmp_le _ _).mpr h9))
    refine lv_iconst (v := 0) hx hb d_M_strip_34 (by decide) ?_
    exact hret _ _ _ _ _ (I_p0_16, f_p0_data, f_p0_dirs_16, f_p0_many, f_p0_nibs, f_p0_start) d_M_strip_35 rfl hP hD hS hw
