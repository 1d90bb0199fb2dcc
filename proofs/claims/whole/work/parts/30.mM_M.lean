theorem d_M_gather_0 : decode b_M_gather 0 = .ok (.aload_n 0, 1) := by decide +kernel
theorem d_M_gather_1 : decode b_M_gather 1 = .ok (.getfield 13, 3) := by decide +kernel
theorem d_M_gather_4 : decode b_M_gather 4 = .ok (.aload_n 0, 1) := by decide +kernel
theorem d_M_gather_5 : decode b_M_gather 5 = .ok (.getfield 20, 3) := by decide +kernel
theorem d_M_gather_8 : decode b_M_gather 8 = .ok (.invokestatic 132, 3) := by decide +kernel
theorem d_M_gather_11 : decode b_M_gather 11 = .ok (.istore 4, 2) := by decide +kernel
theorem d_M_gather_13 : decode b_M_gather 13 = .ok (.iconst 0, 1) := by decide +kernel
theorem d_M_gather_14 : decode b_M_gather 14 = .ok (.istore 5, 2) := by decide +kernel
theorem d_M_gather_16 : decode b_M_gather 16 = .ok (.iload 5, 2) := by decide +kernel
theorem d_M_gather_18 : decode b_M_gather 18 = .ok (.sipush 256, 3) := by decide +kernel
theorem d_M_gather_21 : decode b_M_gather 21 = .ok (.if_icmp .ge 17, 3) := by decide +kernel
theorem d_M_gather_24 : decode b_M_gather 24 = .ok (.aload_n 0, 1) := by decide +kernel
theorem d_M_gather_25 : decode b_M_gather 25 = .ok (.getfield 38, 3) := by decide +kernel
theorem d_M_gather_28 : decode b_M_gather 28 = .ok (.iload 5, 2) := by decide +kernel
theorem d_M_gather_30 : decode b_M_gather 30 = .ok (.iconst 0, 1) := by decide +kernel
theorem d_M_gather_31 : decode b_M_gather 31 = .ok (.iastore, 1) := by decide +kernel
theorem d_M_gather_32 : decode b_M_gather 32 = .ok (.iinc 5 1, 3) := by decide +kernel
theorem d_M_gather_35 : decode b_M_gather 35 = .ok (.goto (-19), 3) := by decide +kernel
theorem d_M_gather_38 : decode b_M_gather 38 = .ok (.iload_n 1, 1) := by decide +kernel
theorem d_M_gather_39 : decode b_M_gather 39 = .ok (.istore 5, 2) := by decide +kernel
theorem d_M_gather_41 : decode b_M_gather 41 = .ok (.iload 5, 2) := by decide +kernel
theorem d_M_gather_43 : decode b_M_gather 43 = .ok (.iload_n 2, 1) := by decide +kernel
theorem d_M_gather_44 : decode b_M_gather 44 = .ok (.if_icmp .ge 139, 3) := by decide +kernel
theorem d_M_gather_47 : decode b_M_gather 47 = .ok (.iconst 0, 1) := by decide +kernel
theorem d_M_gather_48 : decode b_M_gather 48 = .ok (.istore 6, 2) := by decide +kernel
theorem d_M_gather_50 : decode b_M_gather 50 = .ok (.iload 6, 2) := by decide +kernel
theorem d_M_gather_52 : decode b_M_gather 52 = .ok (.aload_n 0, 1) := by decide +kernel
theorem d_M_gather_53 : decode b_M_gather 53 = .ok (.getfield 13, 3) := by decide +kernel
theorem d_M_gather_56 : decode b_M_gather 56 = .ok (.if_icmp .ge 121, 3) := by decide +kernel
theorem d_M_gather_59 : decode b_M_gather 59 = .ok (.aload_n 0, 1) := by decide +kernel
theorem d_M_gather_60 : decode b_M_gather 60 = .ok (.getfield 23, 3) := by decide +kernel
theorem d_M_gather_63 : decode b_M_gather 63 = .ok (.bipush 16, 2) := by decide +kernel
theorem d_M_gather_65 : decode b_M_gather 65 = .ok (.iload 5, 2) := by decide +kernel
theorem d_M_gather_67 : decode b_M_gather 67 = .ok (.imul, 1) := by decide +kernel
theorem d_M_gather_68 : decode b_M_gather 68 = .ok (.iload 6, 2) := by decide +kernel
theorem d_M_gather_70 : decode b_M_gather 70 = .ok (.iadd, 1) := by decide +kernel
theorem d_M_gather_71 : decode b_M_gather 71 = .ok (.iaload, 1) := by decide +kernel
theorem d_M_gather_72 : decode b_M_gather 72 = .ok (.istore 7, 2) := by decide +kernel
theorem d_M_gather_74 : decode b_M_gather 74 = .ok (.iload_n 3, 1) := by decide +kernel
theorem d_M_gather_75 : decode b_M_gather 75 = .ok (.iconst 2, 1) := by decide +kernel
theorem d_M_gather_76 : decode b_M_gather 76 = .ok (.if_icmp .ne 49, 3) := by decide +kernel
theorem d_M_gather_79 : decode b_M_gather 79 = .ok (.iload 6, 2) := by decide +kernel
theorem d_M_gather_81 : decode b_M_gather 81 = .ok (.ifCond .le 44, 3) := by decide +kernel
theorem d_M_gather_84 : decode b_M_gather 84 = .ok (.iload 7, 2) := by decide +kernel
theorem d_M_gather_86 : decode b_M_gather 86 = .ok (.aload_n 0, 1) := by decide +kernel
theorem d_M_gather_87 : decode b_M_gather 87 = .ok (.getfield 23, 3) := by decide +kernel
theorem d_M_gather_90 : decode b_M_gather 90 = .ok (.bipush 16, 2) := by decide +kernel
theorem d_M_gather_92 : decode b_M_gather 92 = .ok (.iload 5, 2) := by decide +kernel
theorem d_M_gather_94 : decode b_M_gather 94 = .ok (.imul, 1) := by decide +kernel
theorem d_M_gather_95 : decode b_M_gather 95 = .ok (.iload 6, 2) := by decide +kernel
theorem d_M_gather_97 : decode b_M_gather 97 = .ok (.iadd, 1) := by decide +kernel
theorem d_M_gather_98 : decode b_M_gather 98 = .ok (.iconst 1, 1) := by decide +kernel
theorem d_M_gather_99 : decode b_M_gather 99 = .ok (.isub, 1) := by decide +kernel
theorem d_M_gather_100 : decode b_M_gather 100 = .ok (.iaload, 1) := by decide +kernel
theorem d_M_gather_101 : decode b_M_gather 101 = .ok (.isub, 1) := by decide +kernel
theorem d_M_gather_102 : decode b_M_gather 102 = .ok (.istore 7, 2) := by decide +kernel
theorem d_M_gather_104 : decode b_M_gather 104 = .ok (.iload 7, 2) := by decide +kernel
theorem d_M_gather_106 : decode b_M_gather 106 = .ok (.ifCond .ge 15, 3) := by decide +kernel
theorem d_M_gather_109 : decode b_M_gather 109 = .ok (.iload 7, 2) := by decide +kernel
theorem d_M_gather_111 : decode b_M_gather 111 = .ok (.iconst 1, 1) := by decide +kernel
theorem d_M_gather_112 : decode b_M_gather 112 = .ok (.aload_n 0, 1) := by decide +kernel
theorem d_M_gather_113 : decode b_M_gather 113 = .ok (.getfield 20, 3) := by decide +kernel
theorem d_M_gather_116 : decode b_M_gather 116 = .ok (.ishl, 1) := by decide +kernel
theorem d_M_gather_117 : decode b_M_gather 117 = .ok (.iadd, 1) := by decide +kernel
theorem d_M_gather_118 : decode b_M_gather 118 = .ok (.goto 5, 3) := by decide +kernel
theorem d_M_gather_121 : decode b_M_gather 121 = .ok (.iload 7, 2) := by decide +kernel
theorem d_M_gather_123 : decode b_M_gather 123 = .ok (.istore 7, 2) := by decide +kernel
theorem d_M_gather_125 : decode b_M_gather 125 = .ok (.iload 6, 2) := by decide +kernel
theorem d_M_gather_127 : decode b_M_gather 127 = .ok (.aload_n 0, 1) := by decide +kernel
theorem d_M_gather_128 : decode b_M_gather 128 = .ok (.getfield 20, 3) := by decide +kernel
theorem d_M_gather_131 : decode b_M_gather 131 = .ok (.imul, 1) := by decide +kernel
theorem d_M_gather_132 : decode b_M_gather 132 = .ok (.istore 8, 2) := by decide +kernel
theorem d_M_gather_134 : decode b_M_gather 134 = .ok (.aload_n 0, 1) := by decide +kernel
theorem d_M_gather_135 : decode b_M_gather 135 = .ok (.getfield 38, 3) := by decide +kernel
theorem d_M_gather_138 : decode b_M_gather 138 = .ok (.iload 5, 2) := by decide +kernel
theorem d_M_gather_140 : decode b_M_gather 140 = .ok (.iload_n 1, 1) := by decide +kernel
theorem d_M_gather_141 : decode b_M_gather 141 = .ok (.isub, 1) := by decide +kernel
theorem d_M_gather_142 : decode b_M_gather 142 = .ok (.iload 4, 2) := by decide +kernel
theorem d_M_gather_144 : decode b_M_gather 144 = .ok (.imul, 1) := by decide +kernel
theorem d_M_gather_145 : decode b_M_gather 145 = .ok (.iload 8, 2) := by decide +kernel
theorem d_M_gather_147 : decode b_M_gather 147 = .ok (.bipush 8, 2) := by decide +kernel
theorem d_M_gather_149 : decode b_M_gather 149 = .ok (.idiv, 1) := by decide +kernel
theorem d_M_gather_150 : decode b_M_gather 150 = .ok (.iadd, 1) := by decide +kernel
theorem d_M_gather_151 : decode b_M_gather 151 = .ok (.dup2, 1) := by decide +kernel
theorem d_M_gather_152 : decode b_M_gather 152 = .ok (.iaload, 1) := by decide +kernel
theorem d_M_gather_153 : decode b_M_gather 153 = .ok (.iload 7, 2) := by decide +kernel
theorem d_M_gather_155 : decode b_M_gather 155 = .ok (.bipush 8, 2) := by decide +kernel
theorem d_M_gather_157 : decode b_M_gather 157 = .ok (.aload_n 0, 1) := by decide +kernel
theorem d_M_gather_158 : decode b_M_gather 158 = .ok (.getfield 20, 3) := by decide +kernel
theorem d_M_gather_161 : decode b_M_gather 161 = .ok (.isub, 1) := by decide +kernel
theorem d_M_gather_162 : decode b_M_gather 162 = .ok (.iload 8, 2) := by decide +kernel
theorem d_M_gather_164 : decode b_M_gather 164 = .ok (.bipush 8, 2) := by decide +kernel
theorem d_M_gather_166 : decode b_M_gather 166 = .ok (.irem, 1) := by decide +kernel
theorem d_M_gather_167 : decode b_M_gather 167 = .ok (.isub, 1) := by decide +kernel
theorem d_M_gather_168 : decode b_M_gather 168 = .ok (.ishl, 1) := by decide +kernel
theorem d_M_gather_169 : decode b_M_gather 169 = .ok (.iadd, 1) := by decide +kernel
theorem d_M_gather_170 : decode b_M_gather 170 = .ok (.iastore, 1) := by decide +kernel
theorem d_M_gather_171 : decode b_M_gather 171 = .ok (.iinc 6 1, 3) := by decide +kernel
theorem d_M_gather_174 : decode b_M_gather 174 = .ok (.goto (-124), 3) := by decide +kernel
theorem d_M_gather_177 : decode b_M_gather 177 = .ok (.iinc 5 1, 3) := by decide +kernel
theorem d_M_gather_180 : decode b_M_gather 180 = .ok (.goto (-139), 3) := by decide +kernel
theorem d_M_gather_183 : decode b_M_gather 183 = .ok (.return_, 1) := by decide +kernel
def wp_M_gather_b125 (post : (Nat → Int32) → Prop) (k41 : (Nat → Int32) → Int32 → Int32 → Int32 → Int32 → Int32 → Prop) (k50 : (Nat → Int32) → Int32 → Int32 → Int32 → Int32 → Int32 → Int32 → Prop) (I_p0 : Nat → Int32) (f_p0_samples : Nat → Int32) (f_p0_data : Nat → Int32) (x1 : Int32) (x2 : Int32) (x3 : Int32) (x4 : Int32) (x5 : Int32) (x6 : Int32) (x7 : Int32) : Prop :=
  vp_in (((x5 - x1) * x4) + ((x6 * (I_p0 5)) / 8)) 256 ∧
  ∀ v : Int32, v = ((f_p0_data (((x5 - x1) * x4) + ((x6 * (I_p0 5)) / 8)).toNatClampNeg) + (x7 <<< (((8 - (I_p0 5)) - ((x6 * (I_p0 5)) - (x6 * (I_p0 5)) / 8 * 8)) &&& 31))) →
  vp_in (((x5 - x1) * x4) + ((x6 * (I_p0 5)) / 8)) 256 ∧
  k50 (upd f_p0_data (((x5 - x1) * x4) + ((x6 * (I_p0 5)) / 8)).toNatClampNeg v) x1 x2 x3 x4 x5 (x6 + 1)
def wp_M_gather_b123 (post : (Nat → Int32) → Prop) (k41 : (Nat → Int32) → Int32 → Int32 → Int32 → Int32 → Int32 → Prop) (k50 : (Nat → Int32) → Int32 → Int32 → Int32 → Int32 → Int32 → Int32 → Prop) (I_p0 : Nat → Int32) (f_p0_samples : Nat → Int32) (f_p0_data : Nat → Int32) (x1 : Int32) (x2 : Int32) (x3 : Int32) (x4 : Int32) (x5 : Int32) (x6 : Int32) (s0 : Int32) : Prop :=
  wp_M_gather_b125 post k41 k50 I_p0 f_p0_samples f_p0_data x1 x2 x3 x4 x5 x6 s0
def wp_M_gather_l50 (post : (Nat → Int32) → Prop) (k41 : (Nat → Int32) → Int32 → Int32 → Int32 → Int32 → Int32 → Prop) (I_p0 : Nat → Int32) (f_p0_samples : Nat → Int32) : Nat → (Nat → Int32) → Int32 → Int32 → Int32 → Int32 → Int32 → Int32 → Prop
  | 0, _, _, _, _, _, _, _ => False
  | n + 1, f_p0_data, x1, x2, x3, x4, x5, x6 =>
    (((I_p0 3) ≤ x6 →
      k41 f_p0_data x1 x2 x3 x4 (x5 + 1)) ∧
     (¬ (I_p0 3) ≤ x6 →
      vp_in ((16 * x5) + x6) 256 ∧
      ((x3 = 2 →
        ((x6 ≤ 0 →
          wp_M_gather_b125 post k41 (wp_M_gather_l50 post k41 I_p0 f_p0_samples n) I_p0 f_p0_samples f_p0_data x1 x2 x3 x4 x5 x6 (f_p0_samples ((16 * x5) + x6).toNatClampNeg)) ∧
         (¬ x6 ≤ 0 →
          vp_in (((16 * x5) + x6) - 1) 256 ∧
          ∀ v : Int32, v = ((f_p0_samples ((16 * x5) + x6).toNatClampNeg) - (f_p0_samples (((16 * x5) + x6) - 1).toNatClampNeg)) →
          ((0 ≤ v →
            wp_M_gather_b123 post k41 (wp_M_gather_l50 post k41 I_p0 f_p0_samples n) I_p0 f_p0_samples f_p0_data x1 x2 x3 x4 x5 x6 v) ∧
           (¬ 0 ≤ v →
            wp_M_gather_b123 post k41 (wp_M_gather_l50 post k41 I_p0 f_p0_samples n) I_p0 f_p0_samples f_p0_data x1 x2 x3 x4 x5 x6 (v + (1 <<< ((I_p0 5) &&& 31)))))))) ∧
       (¬ x3 = 2 →
        wp_M_gather_b125 post k41 (wp_M_gather_l50 post k41 I_p0 f_p0_samples n) I_p0 f_p0_samples f_p0_data x1 x2 x3 x4 x5 x6 (f_p0_samples ((16 * x5) + x6).toNatClampNeg)))))
def wp_M_gather_l41 (post : (Nat → Int32) → Prop) (I_p0 : Nat → Int32) (f_p0_samples : Nat → Int32) : Nat → (Nat → Int32) → Int32 → Int32 → Int32 → Int32 → Int32 → Prop
  | 0, _, _, _, _, _, _ => False
  | n + 1, f_p0_data, x1, x2, x3, x4, x5 =>
    ((x2 ≤ x5 →
      post f_p0_data) ∧
     (¬ x2 ≤ x5 →
      (∃ n1 : Nat, wp_M_gather_l50 post (wp_M_gather_l41 post I_p0 f_p0_samples n) I_p0 f_p0_samples n1 f_p0_data x1 x2 x3 x4 x5 0)))
def wp_M_gather_l16 (post : (Nat → Int32) → Prop) (I_p0 : Nat → Int32) (f_p0_samples : Nat → Int32) : Nat → (Nat → Int32) → Int32 → Int32 → Int32 → Int32 → Int32 → Prop
  | 0, _, _, _, _, _, _ => False
  | n + 1, f_p0_data, x1, x2, x3, x4, x5 =>
    ((256 ≤ x5 →
      (∃ n1 : Nat, wp_M_gather_l41 post I_p0 f_p0_samples n1 f_p0_data x1 x2 x3 x4 x1)) ∧
     (¬ 256 ≤ x5 →
      vp_in x5 256 ∧
      wp_M_gather_l16 post I_p0 f_p0_samples n (upd f_p0_data (x5).toNatClampNeg 0) x1 x2 x3 x4 (x5 + 1)))
def wp_M_gather (post : (Nat → Int32) → Prop) (I_p0 : Nat → Int32) (f_p0_samples : Nat → Int32) (f_p0_data : Nat → Int32) (x1 : Int32) (x2 : Int32) (x3 : Int32) : Prop :=
  wp_M_rowBytes (fun (r8 : Int32) =>
    (∃ n1 : Nat, wp_M_gather_l16 post I_p0 f_p0_samples n1 f_p0_data x1 x2 x3 r8 0)) (I_p0 3) (I_p0 5)
set_option maxRecDepth 100000 in
set_option maxHeartbeats 4000000 in
theorem c_M_gather (l : Launch) (dC : Nat → ClassId) (dI : Nat → Nat → Nat) (cI : ClassId) (a_p0 : Nat) (A_p0 : Nat → Nat) (I_p0 : Nat → Int32) (f_p0_samples : Nat → Int32) (f_p0_data : Nat → Int32) (x1 : Int32) (x2 : Int32) (x3 : Int32) {post : (Nat → Int32) → Prop} (hw : wp_M_gather post I_p0 f_p0_samples f_p0_data x1 x2 x3) : gm_v l y_M_gather ws_M_gather ({ frames := 1, cells := 0, slots := 0, locals := 21 } : Room) (dC, dI) vwCl [(cI, .int)] [.ref a_p0, .int x1, .int x2, .int x3] [oM a_p0 A_p0 I_p0, gz cI (A_p0 15) 256 f_p0_data, gz cI (A_p0 6) 256 f_p0_samples] (fun (u : (Nat → Int32)) => [oM a_p0 A_p0 I_p0, gz cI (A_p0 15) 256 u, gz cI (A_p0 6) 256 f_p0_samples]) (fun (u : (Nat → Int32)) => post  u) := by
  refine gm_vof (cc := b_M_gather) (maxL := 9) (by decide) rfl (Nat.le_of_ble_eq_true rfl) ?_
  intro p e s m args below meth c A Q hx hb hml hown hg hK hN hA hnm hret
  have hown : s.vm.findClass R_M = some m.cls := hown
  have b125 : ∀ (k41 : (Nat → Int32) → Int32 → Int32 → Int32 → Int32 → Int32 → Prop), (∀ (H : Heap) (locs : List Loc) (ls : Array Slot) (f_p0_data : Nat → Int32) (x1 : Int32) (x2 : Int32) (x3 : Int32) (x4 : Int32) (x5 : Int32), va_P (dC, dI) vwCl [oM a_p0 A_p0 I_p0, gz cI (A_p0 15) 256 f_p0_data, gz cI (A_p0 6) 256 f_p0_samples] H → va_D A [oM a_p0 A_p0 I_p0, gz cI (A_p0 15) 256 f_p0_data, gz cI (A_p0 6) 256 f_p0_samples] → va_S A s.heap H locs → lv_has ls 9 [(0, .ref a_p0), (1, .int x1), (2, .int x2), (3, .int x3), (4, .int x4), (5, .int x5)] → k41 f_p0_data x1 x2 x3 x4 x5 → W p l e ({ frames := 1, cells := 0, slots := 0, locals := 21 } : Room) s m args below meth c H locs 0 0 Q (F0 m 41 ls [])) → ∀ (k50 : (Nat → Int32) → Int32 → Int32 → Int32 → Int32 → Int32 → Int32 → Prop), (∀ (H : Heap) (locs : List Loc) (ls : Array Slot) (f_p0_data : Nat → Int32) (x1 : Int32) (x2 : Int32) (x3 : Int32) (x4 : Int32) (x5 : Int32) (x6 : Int32), va_P (dC, dI) vwCl [oM a_p0 A_p0 I_p0, gz cI (A_p0 15) 256 f_p0_data, gz cI (A_p0 6) 256 f_p0_samples] H → va_D A [oM a_p0 A_p0 I_p0, gz cI (A_p0 15) 256 f_p0_data, gz cI (A_p0 6) 256 f_p0_samples] → va_S A s.heap H locs → lv_has ls 9 [(0, .ref a_p0), (1, .int x1), (2, .int x2), (3, .int x3), (4, .int x4), (5, .int x5), (6, .int x6)] → k50 f_p0_data x1 x2 x3 x4 x5 x6 → W p l e ({ frames := 1, cells := 0, slots := 0, locals := 21 } : Room) s m args below meth c H locs 0 0 Q (F0 m 50 ls [])) → ∀ (H : Heap) (locs : List Loc) (ls : Array Slot) (f_p0_data : Nat → Int32) (x1 : Int32) (x2 : Int32) (x3 : Int32) (x4 : Int32) (x5 : Int32) (x6 : Int32) (x7 : Int32), va_P (dC, dI) vwCl [oM a_p0 A_p0 I_p0, gz cI (A_p0 15) 256 f_p0_data, gz cI (A_p0 6) 256 f_p0_samples] H → va_D A [oM a_p0 A_p0 I_p0, gz cI (A_p0 15) 256 f_p0_data, gz cI (A_p0 6) 256 f_p0_samples] → va_S A s.heap H locs → lv_has ls 9 [(0, .ref a_p0), (1, .int x1), (2, .int x2), (3, .int x3), (4, .int x4), (5, .int x5), (6, .int x6), (7, .int x7)] → wp_M_gather_b125 post k41 k50 I_p0 f_p0_samples f_p0_data x1 x2 x3 x4 x5 x6 x7 → W p l e ({ frames := 1, cells := 0, slots := 0, locals := 21 } : Room) s m args below meth c H locs 0 0 Q (F0 m 125 ls []) := by
    intro k41 hk41 k50 hk50 H locs ls f_p0_data x1 x2 x3 x4 x5 x6 x7 hP hD hS hl hw
    unfold wp_M_gather_b125 at hw
    refine lv_iload hx hb d_M_gather_125 (lv_at hl 6 rfl) ?_
    refine lv_aload_n hx hb d_M_gather_127 rfl (lv_at hl 0 rfl) ?_
    refine va_get (D := (dC, dI)) (ci := 10) (v := .int (I_p0 5)) (C := R_M) (T := T_M) (N := 30) hx hb hg in_M hown hK hP 0 rfl rfl 5 (by decide) (hg _ t_763) (fun _ h9 => h9) rfl d_M_gather_128 ?_
    refine lv_imul hx hb d_M_gather_131 ?_
    refine lv_istore (lv' := [(8, .int (x6 * (I_p0 5))), (0, .ref a_p0), (1, .int x1), (2, .int x2), (3, .int x3), (4, .int x4), (5, .int x5), (6, .int x6), (7, .int x7)]) hx hb d_M_gather_132 hl (by decide) rfl (fun ls hl => ?_)
    refine lv_aload_n hx hb d_M_gather_134 rfl (lv_at hl 1 rfl) ?_
    refine va_get (D := (dC, dI)) (ci := 10) (v := .ref (A_p0 15)) (C := R_M) (T := T_M) (N := 30) hx hb hg in_M hown hK hP 0 rfl rfl 15 (by decide) (hg _ t_773) (fun _ h9 => h9) rfl d_M_gather_135 ?_
    refine lv_iload hx hb d_M_gather_138 (lv_at hl 6 rfl) ?_
    refine lv_iload_n hx hb d_M_gather_140 rfl (lv_at hl 2 rfl) ?_
    refine lv_isub hx hb d_M_gather_141 ?_
    refine lv_iload hx hb d_M_gather_142 (lv_at hl 5 rfl) ?_
    refine lv_imul hx hb d_M_gather_144 ?_
    refine lv_iload hx hb d_M_gather_145 (lv_at hl 0 rfl) ?_
    refine lv_bipush (v := 8) hx hb d_M_gather_147 (by decide) ?_
    refine lv_idiv hx hb d_M_gather_149 (by decide) ?_
    refine lv_iadd hx hb d_M_gather_150 ?_
    refine lv_dup2_11 hx hb d_M_gather_151 rfl rfl ?_
    obtain ⟨hin, hw⟩ := hw
    refine va_iald hx hb hK hP 1 0 rfl rfl hin d_M_gather_152 ?_
    refine lv_iload hx hb d_M_gather_153 (lv_at hl 8 rfl) ?_
    refine lv_bipush (v := 8) hx hb d_M_gather_155 (by decide) ?_
    refine lv_aload_n hx hb d_M_gather_157 rfl (lv_at hl 1 rfl) ?_
    refine va_get (D := (dC, dI)) (ci := 10) (v := .int (I_p0 5)) (C := R_M) (T := T_M) (N := 30) hx hb hg in_M hown hK hP 0 rfl rfl 5 (by decide) (hg _ t_763) (fun _ h9 => h9) rfl d_M_gather_158 ?_
    refine lv_isub hx hb d_M_gather_161 ?_
    refine lv_iload hx hb d_M_gather_162 (lv_at hl 0 rfl) ?_
    refine lv_bipush (v := 8) hx hb d_M_gather_164 (by decide) ?_
    refine lv_irem hx hb d_M_gather_166 (by decide) ?_
    refine lv_isub hx hb d_M_gather_167 ?_
    refine lv_ishl hx hb d_M_gather_168 ?_
    refine lv_iadd hx hb d_M_gather_169 ?_
    refine lv_topi (fun v e_v => ?_)
    have hw := hw v e_v
    obtain ⟨hin, hw⟩ := hw
    refine va_iast hx hb hK hP hD hS 1 0 rfl rfl hin d_M_gather_170 (fun H locs hP hD hS => ?_)
    have hP : va_P (dC, dI) vwCl [oM a_p0 A_p0 I_p0, gz cI (A_p0 15) 256 (upd f_p0_data (((x5 - x1) * x4) + ((x6 * (I_p0 5)) / 8)).toNatClampNeg v), gz cI (A_p0 6) 256 f_p0_samples] H := hP
    have hD : va_D A [oM a_p0 A_p0 I_p0, gz cI (A_p0 15) 256 (upd f_p0_data (((x5 - x1) * x4) + ((x6 * (I_p0 5)) / 8)).toNatClampNeg v), gz cI (A_p0 6) 256 f_p0_samples] := hD
    refine lv_iinc (k := 7) (v := (x6 + 1)) (lv' := [(6, .int (x6 + 1)), (8, .int (x6 * (I_p0 5))), (0, .ref a_p0), (1, .int x1), (2, .int x2), (3, .int x3), (4, .int x4), (5, .int x5), (7, .int x7)]) hx hb d_M_gather_171 hl rfl (congrArg (fun z => x6 + z) (by decide : Int32.ofInt 1 = 1)) (by decide) rfl (fun ls hl => ?_)
    refine lv_goto hx hb d_M_gather_174 rfl ?_
    exact hk50 _ _ _ (upd f_p0_data (((x5 - x1) * x4) + ((x6 * (I_p0 5)) / 8)).toNatClampNeg v) x1 x2 x3 x4 x5 (x6 + 1) hP hD hS (lv_sub hl [2, 3, 4, 5, 6, 7, 0] rfl) hw
  have b123 : ∀ (k41 : (Nat → Int32) → Int32 → Int32 → Int32 → Int32 → Int32 → Prop), (∀ (H : Heap) (locs : List Loc) (ls : Array Slot) (f_p0_data : Nat → Int32) (x1 : Int32) (x2 : Int32) (x3 : Int32) (x4 : Int32) (x5 : Int32), va_P (dC, dI) vwCl [oM a_p0 A_p0 I_p0, gz cI (A_p0 15) 256 f_p0_data, gz cI (A_p0 6) 256 f_p0_samples] H → va_D A [oM a_p0 A_p0 I_p0, gz cI (A_p0 15) 256 f_p0_data, gz cI (A_p0 6) 256 f_p0_samples] → va_S A s.heap H locs → lv_has ls 9 [(0, .ref a_p0), (1, .int x1), (2, .int x2), (3, .int x3), (4, .int x4), (5, .int x5)] → k41 f_p0_data x1 x2 x3 x4 x5 → W p l e ({ frames := 1, cells := 0, slots := 0, locals := 21 } : Room) s m args below meth c H locs 0 0 Q (F0 m 41 ls [])) → ∀ (k50 : (Nat → Int32) → Int32 → Int32 → Int32 → Int32 → Int32 → Int32 → Prop), (∀ (H : Heap) (locs : List Loc) (ls : Array Slot) (f_p0_data : Nat → Int32) (x1 : Int32) (x2 : Int32) (x3 : Int32) (x4 : Int32) (x5 : Int32) (x6 : Int32), va_P (dC, dI) vwCl [oM a_p0 A_p0 I_p0, gz cI (A_p0 15) 256 f_p0_data, gz cI (A_p0 6) 256 f_p0_samples] H → va_D A [oM a_p0 A_p0 I_p0, gz cI (A_p0 15) 256 f_p0_data, gz cI (A_p0 6) 256 f_p0_samples] → va_S A s.heap H locs → lv_has ls 9 [(0, .ref a_p0), (1, .int x1), (2, .int x2), (3, .int x3), (4, .int x4), (5, .int x5), (6, .int x6)] → k50 f_p0_data x1 x2 x3 x4 x5 x6 → W p l e ({ frames := 1, cells := 0, slots := 0, locals := 21 } : Room) s m args below meth c H locs 0 0 Q (F0 m 50 ls [])) → ∀ (H : Heap) (locs : List Loc) (ls : Array Slot) (f_p0_data : Nat → Int32) (x1 : Int32) (x2 : Int32) (x3 : Int32) (x4 : Int32) (x5 : Int32) (x6 : Int32) (s0 : Int32), va_P (dC, dI) vwCl [oM a_p0 A_p0 I_p0, gz cI (A_p0 15) 256 f_p0_data, gz cI (A_p0 6) 256 f_p0_samples] H → va_D A [oM a_p0 A_p0 I_p0, gz cI (A_p0 15) 256 f_p0_data, gz cI (A_p0 6) 256 f_p0_samples] → va_S A s.heap H locs → lv_has ls 9 [(0, .ref a_p0), (1, .int x1), (2, .int x2), (3, .int x3), (4, .int x4), (5, .int x5), (6, .int x6)] → wp_M_gather_b123 post k41 k50 I_p0 f_p0_samples f_p0_data x1 x2 x3 x4 x5 x6 s0 → W p l e ({ frames := 1, cells := 0, slots := 0, locals := 21 } : Room) s m args below meth c H locs 0 0 Q (F0 m 123 ls [.int s0]) := by
    intro k41 hk41 k50 hk50 H locs ls f_p0_data x1 x2 x3 x4 x5 x6 s0 hP hD hS hl hw
    unfold wp_M_gather_b123 at hw
    refine lv_istore (lv' := [(7, .int s0), (0, .ref a_p0), (1, .int x1), (2, .int x2), (3, .int x3), (4, .int x4), (5, .int x5), (6, .int x6)]) hx hb d_M_gather_123 hl (by decide) rfl (fun ls hl => ?_)
    exact b125 _ hk41 _ hk50 _ _ _ f_p0_data x1 x2 x3 x4 x5 x6 s0 hP hD hS (lv_sub hl [1, 2, 3, 4, 5, 6, 7, 0] rfl) hw
  have l50 : ∀ (k41 : (Nat → Int32) → Int32 → Int32 → Int32 → Int32 → Int32 → Prop), (∀ (H : Heap) (locs : List Loc) (ls : Array Slot) (f_p0_data : Nat → Int32) (x1 : Int32) (x2 : Int32) (x3 : Int32) (x4 : Int32) (x5 : Int32), va_P (dC, dI) vwCl [oM a_p0 A_p0 I_p0, gz cI (A_p0 15) 256 f_p0_data, gz cI (A_p0 6) 256 f_p0_samples] H → va_D A [oM a_p0 A_p0 I_p0, gz cI (A_p0 15) 256 f_p0_data, gz cI (A_p0 6) 256 f_p0_samples] → va_S A s.heap H locs → lv_has ls 9 [(0, .ref a_p0), (1, .int x1), (2, .int x2), (3, .int x3), (4, .int x4), (5, .int x5)] → k41 f_p0_data x1 x2 x3 x4 x5 → W p l e ({ frames := 1, cells := 0, slots := 0, locals := 21 } : Room) s m args below meth c H locs 0 0 Q (F0 m 41 ls [])) → ∀ n : Nat, ∀ (H : Heap) (locs : List Loc) (ls : Array Slot) (f_p0_data : Nat → Int32) (x1 : Int32) (x2 : Int32) (x3 : Int32) (x4 : Int32) (x5 : Int32) (x6 : Int32), va_P (dC, dI) vwCl [oM a_p0 A_p0 I_p0, gz cI (A_p0 15) 256 f_p0_data, gz cI (A_p0 6) 256 f_p0_samples] H → va_D A [oM a_p0 A_p0 I_p0, gz cI (A_p0 15) 256 f_p0_data, gz cI (A_p0 6) 256 f_p0_samples] → va_S A s.heap H locs → lv_has ls 9 [(0, .ref a_p0), (1, .int x1), (2, .int x2), (3, .int x3), (4, .int x4), (5, .int x5), (6, .int x6)] → wp_M_gather_l50 post k41 I_p0 f_p0_samples n f_p0_data x1 x2 x3 x4 x5 x6 → W p l e ({ frames := 1, cells := 0, slots := 0, locals := 21 } : Room) s m args below meth c H locs 0 0 Q (F0 m 50 ls []) := by
    intro k41 hk41 n
    induction n with
    | zero => intro H locs ls f_p0_data x1 x2 x3 x4 x5 x6 hP hD hS hl hw; exact hw.elim
    | succ n ih =>
      intro H locs ls f_p0_data x1 x2 x3 x4 x5 x6 hP hD hS hl hw
      unfold wp_M_gather_l50 at hw
      refine lv_iload hx hb d_M_gather_50 (lv_at hl 6 rfl) ?_
      refine lv_aload_n hx hb d_M_gather_52 rfl (lv_at hl 0 rfl) ?_
      refine va_get (D := (dC, dI)) (ci := 10) (v := .int (I_p0 3)) (C := R_M) (T := T_M) (N := 30) hx hb hg in_M hown hK hP 0 rfl rfl 3 (by decide) (hg _ t_761) (fun _ h9 => h9) rfl d_M_gather_53 ?_
      refine lv_icmp_ge hx hb d_M_gather_56 rfl (fun hc => ?_) (fun hc => ?_)
      · have hw := hw.1 hc
        refine lv_iinc (k := 5) (v := (x5 + 1)) (lv' := [(5, .int (x5 + 1)), (0, .ref a_p0), (1, .int x1), (2, .int x2), (3, .int x3), (4, .int x4), (6, .int x6)]) hx hb d_M_gather_177 hl rfl (congrArg (fun z => x5 + z) (by decide : Int32.ofInt 1 = 1)) (by decide) rfl (fun ls hl => ?_)
        refine lv_goto hx hb d_M_gather_180 rfl ?_
        exact hk41 _ _ _ f_p0_data x1 x2 x3 x4 (x5 + 1) hP hD hS (lv_sub hl [1, 2, 3, 4, 5, 0] rfl) hw
      · have hw := hw.2 hc
        refine lv_aload_n hx hb d_M_gather_59 rfl (lv_at hl 0 rfl) ?_
        refine va_get (D := (dC, dI)) (ci := 10) (v := .ref (A_p0 6)) (C := R_M) (T := T_M) (N := 30) hx hb hg in_M hown hK hP 0 rfl rfl 6 (by decide) (hg _ t_764) (fun _ h9 => h9) rfl d_M_gather_60 ?_
        refine lv_bipush (v := 16) hx hb d_M_gather_63 (by decide) ?_
        refine lv_iload hx hb d_M_gather_65 (lv_at hl 5 rfl) ?_
        refine lv_imul hx hb d_M_gather_67 ?_
        refine lv_iload hx hb d_M_gather_68 (lv_at hl 6 rfl) ?_
        refine lv_iadd hx hb d_M_gather_70 ?_
        obtain ⟨hin, hw⟩ := hw
        refine va_iald hx hb hK hP 2 0 rfl rfl hin d_M_gather_71 ?_
        refine lv_istore (lv' := [(7, .int (f_p0_samples ((16 * x5) + x6).toNatClampNeg)), (0, .ref a_p0), (1, .int x1), (2, .int x2), (3, .int x3), (4, .int x4), (5, .int x5), (6, .int x6)]) hx hb d_M_gather_72 hl (by decide) rfl (fun ls hl => ?_)
        refine lv_iload_n hx hb d_M_gather_74 rfl (lv_at hl 4 rfl) ?_
        refine lv_iconst (v := 2) hx hb d_M_gather_75 (by decide) ?_
        refine lv_icmp_ne hx hb d_M_gather_76 rfl (fun hc => ?_) (fun hc => ?_)
        · have hw := hw.2 hc
          exact b125 _ hk41 _ ih _ _ _ f_p0_data x1 x2 x3 x4 x5 x6 (f_p0_samples ((16 * x5) + x6).toNatClampNeg) hP hD hS (lv_sub hl [1, 2, 3, 4, 5, 6, 7, 0] rfl) hw
        · have hw := hw.1 hc
          refine lv_iload hx hb d_M_gather_79 (lv_at hl 7 rfl) ?_
          refine lv_if_le hx hb d_M_gather_81 rfl (fun hc => ?_) (fun hc => ?_)
          · have hw := hw.1 hc
            exact b125 _ hk41 _ ih _ _ _ f_p0_data x1 x2 x3 x4 x5 x6 (f_p0_samples ((16 * x5) + x6).toNatClampNeg) hP hD hS (lv_sub hl [1, 2, 3, 4, 5, 6, 7, 0] rfl) hw
          · have hw := hw.2 hc
            refine lv_iload hx hb d_M_gather_84 (lv_at hl 0 rfl) ?_
            refine lv_aload_n hx hb d_M_gather_86 rfl (lv_at hl 1 rfl) ?_
            refine va_get (D := (dC, dI)) (ci := 10) (v := .ref (A_p0 6)) (C := R_M) (T := T_M) (N := 30) hx hb hg in_M hown hK hP 0 rfl rfl 6 (by decide) (hg _ t_764) (fun _ h9 => h9) rfl d_M_gather_87 ?_
            refine lv_bipush (v := 16) hx hb d_M_gather_90 (by decide) ?_
            refine lv_iload hx hb d_M_gather_92 (lv_at hl 6 rfl) ?_
            refine lv_imul hx hb d_M_gather_94 ?_
            refine lv_iload hx hb d_M_gather_95 (lv_at hl 7 rfl) ?_
            refine lv_iadd hx hb d_M_gather_97 ?_
            refine lv_iconst (v := 1) hx hb d_M_gather_98 (by decide) ?_
            refine lv_isub hx hb d_M_gather_99 ?_
            obtain ⟨hin, hw⟩ := hw
            refine va_iald hx hb hK hP 2 0 rfl rfl hin d_M_gather_100 ?_
            refine lv_isub hx hb d_M_gather_101 ?_
            refine lv_topi (fun v e_v => ?_)
            have hw := hw v e_v
            refine lv_istore (lv' := [(7, .int v), (0, .ref a_p0), (1, .int x1), (2, .int x2), (3, .int x3), (4, .int x4), (5, .int x5), (6, .int x6)]) hx hb d_M_gather_102 hl (by decide) rfl (fun ls hl => ?_)
            refine lv_iload hx hb d_M_gather_104 (lv_at hl 0 rfl) ?_
            refine lv_if_ge hx hb d_M_gather_106 rfl (fun hc => ?_) (fun hc => ?_)
            · have hw := hw.1 hc
              refine lv_iload hx hb d_M_gather_121 (lv_at hl 0 rfl) ?_
              exact b123 _ hk41 _ ih _ _ _ f_p0_data x1 x2 x3 x4 x5 x6 v hP hD hS (lv_sub hl [1, 2, 3, 4, 5, 6, 7] rfl) hw
            · have hw := hw.2 hc
              refine lv_iload hx hb d_M_gather_109 (lv_at hl 0 rfl) ?_
              refine lv_iconst (v := 1) hx hb d_M_gather_111 (by decide) ?_
              refine lv_aload_n hx hb d_M_gather_112 rfl (lv_at hl 1 rfl) ?_
              refine va_get (D := (dC, dI)) (ci := 10) (v := .int (I_p0 5)) (C := R_M) (T := T_M) (N := 30) hx hb hg in_M hown hK hP 0 rfl rfl 5 (by decide) (hg _ t_763) (fun _ h9 => h9) rfl d_M_gather_113 ?_
              refine lv_ishl hx hb d_M_gather_116 ?_
              refine lv_iadd hx hb d_M_gather_117 ?_
              refine lv_goto hx hb d_M_gather_118 rfl ?_
              exact b123 _ hk41 _ ih _ _ _ f_p0_data x1 x2 x3 x4 x5 x6 (v + (1 <<< ((I_p0 5) &&& 31))) hP hD hS (lv_sub hl [1, 2, 3, 4, 5, 6, 7] rfl) hw
  have l41 : ∀ n : Nat, ∀ (H : Heap) (locs : List Loc) (ls : Array Slot) (f_p0_data : Nat → Int32) (x1 : Int32) (x2 : Int32) (x3 : Int32) (x4 : Int32) (x5 : Int32), va_P (dC, dI) vwCl [oM a_p0 A_p0 I_p0, gz cI (A_p0 15) 256 f_p0_data, gz cI (A_p0 6) 256 f_p0_samples] H → va_D A [oM a_p0 A_p0 I_p0, gz cI (A_p0 15) 256 f_p0_data, gz cI (A_p0 6) 256 f_p0_samples] → va_S A s.heap H locs → lv_has ls 9 [(0, .ref a_p0), (1, .int x1), (2, .int x2), (3, .int x3), (4, .int x4), (5, .int x5)] → wp_M_gather_l41 post I_p0 f_p0_samples n f_p0_data x1 x2 x3 x4 x5 → W p l e ({ frames := 1, cells := 0, slots := 0, locals := 21 } : Room) s m args below meth c H locs 0 0 Q (F0 m 41 ls []) := by
    intro n
    induction n with
    | zero => intro H locs ls f_p0_data x1 x2 x3 x4 x5 hP hD hS hl hw; exact hw.elim
    | succ n ih =>
      intro H locs ls f_p0_data x1 x2 x3 x4 x5 hP hD hS hl hw
      unfold wp_M_gather_l41 at hw
      refine lv_iload hx hb d_M_gather_41 (lv_at hl 5 rfl) ?_
      refine lv_iload_n hx hb d_M_gather_43 rfl (lv_at hl 2 rfl) ?_
      refine lv_icmp_ge hx hb d_M_gather_44 rfl (fun hc => ?_) (fun hc => ?_)
      · have hw := hw.1 hc
        exact hret _ _ _ _ f_p0_data d_M_gather_183 hP hD hS hw
      · have hw := hw.2 hc
        refine lv_iconst (v := 0) hx hb d_M_gather_47 (by decide) ?_
        refine lv_istore (lv' := [(6, .int 0), (0, .ref a_p0), (1, .int x1), (2, .int x2), (3, .int x3), (4, .int x4), (5, .int x5)]) hx hb d_M_gather_48 hl (by decide) rfl (fun ls hl => ?_)
        obtain ⟨n1, hw⟩ := hw
        exact l50 _ ih n1 _ _ _ f_p0_data x1 x2 x3 x4 x5 0 hP hD hS (lv_sub hl [1, 2, 3, 4, 5, 6, 0] rfl) hw
  have l16 : ∀ n : Nat, ∀ (H : Heap) (locs : List Loc) (ls : Array Slot) (f_p0_data : Nat → Int32) (x1 : Int32) (x2 : Int32) (x3 : Int32) (x4 : Int32) (x5 : Int32), va_P (dC, dI) vwCl [oM a_p0 A_p0 I_p0, gz cI (A_p0 15) 256 f_p0_data, gz cI (A_p0 6) 256 f_p0_samples] H → va_D A [oM a_p0 A_p0 I_p0, gz cI (A_p0 15) 256 f_p0_data, gz cI (A_p0 6) 256 f_p0_samples] → va_S A s.heap H locs → lv_has ls 9 [(0, .ref a_p0), (1, .int x1), (2, .int x2), (3, .int x3), (4, .int x4), (5, .int x5)] → wp_M_gather_l16 post I_p0 f_p0_samples n f_p0_data x1 x2 x3 x4 x5 → W p l e ({ frames := 1, cells := 0, slots := 0, locals := 21 } : Room) s m args below meth c H locs 0 0 Q (F0 m 16 ls []) := by
    intro n
    induction n with
    | zero => intro H locs ls f_p0_data x1 x2 x3 x4 x5 hP hD hS hl hw; exact hw.elim
    | succ n ih =>
      intro H locs ls f_p0_data x1 x2 x3 x4 x5 hP hD hS hl hw
      unfold wp_M_gather_l16 at hw
      refine lv_iload hx hb d_M_gather_16 (lv_at hl 5 rfl) ?_
      refine lv_sipush (v := 256) hx hb d_M_gather_18 (by decide) ?_
      refine lv_icmp_ge hx hb d_M_gather_21 rfl (fun hc => ?_) (fun hc => ?_)
      · have hw := hw.1 hc
        refine lv_iload_n hx hb d_M_gather_38 rfl (lv_at hl 1 rfl) ?_
        refine lv_istore (lv' := [(5, .int x1), (0, .ref a_p0), (1, .int x1), (2, .int x2), (3, .int x3), (4, .int x4)]) hx hb d_M_gather_39 hl (by decide) rfl (fun ls hl => ?_)
        obtain ⟨n1, hw⟩ := hw
        exact l41 n1 _ _ _ f_p0_data x1 x2 x3 x4 x1 hP hD hS (lv_sub hl [1, 2, 3, 4, 5, 0] rfl) hw
      · have hw := hw.2 hc
        refine lv_aload_n hx hb d_M_gather_24 rfl (lv_at hl 0 rfl) ?_
        refine va_get (D := (dC, dI)) (ci := 10) (v := .ref (A_p0 15)) (C := R_M) (T := T_M) (N := 30) hx hb hg in_M hown hK hP 0 rfl rfl 15 (by decide) (hg _ t_773) (fun _ h9 => h9) rfl d_M_gather_25 ?_
        refine lv_iload hx hb d_M_gather_28 (lv_at hl 5 rfl) ?_
        refine lv_iconst (v := 0) hx hb d_M_gather_30 (by decide) ?_
        obtain ⟨hin, hw⟩ := hw
        refine va_iast hx hb hK hP hD hS 1 0 rfl rfl hin d_M_gather_31 (fun H locs hP hD hS => ?_)
        have hP : va_P (dC, dI) vwCl [oM a_p0 A_p0 I_p0, gz cI (A_p0 15) 256 (upd f_p0_data (x5).toNatClampNeg 0), gz cI (A_p0 6) 256 f_p0_samples] H := hP
        have hD : va_D A [oM a_p0 A_p0 I_p0, gz cI (A_p0 15) 256 (upd f_p0_data (x5).toNatClampNeg 0), gz cI (A_p0 6) 256 f_p0_samples] := hD
        refine lv_iinc (k := 5) (v := (x5 + 1)) (lv' := [(5, .int (x5 + 1)), (0, .ref a_p0), (1, .int x1), (2, .int x2), (3, .int x3), (4, .int x4)]) hx hb d_M_gather_32 hl rfl (congrArg (fun z => x5 + z) (by decide : Int32.ofInt 1 = 1)) (by decide) rfl (fun ls hl => ?_)
        refine lv_goto hx hb d_M_gather_35 rfl ?_
        exact ih _ _ _ (upd f_p0_data (x5).toNatClampNeg 0) x1 x2 x3 x4 (x5 + 1) hP hD hS (lv_sub hl [1, 2, 3, 4, 5, 0] rfl) hw
  intro ls hl hP hD hS
  have hl : lv_has ls 9 [(0, .ref a_p0), (1, .int x1), (2, .int x2), (3, .int x3)] := hl
  unfold wp_M_gather at hw
  refine lv_aload_n hx hb d_M_gather_0 rfl (lv_at hl 0 rfl) ?_
  refine va_get (D := (dC, dI)) (ci := 10) (v := .int (I_p0 3)) (C := R_M) (T := T_M) (N := 30) hx hb hg in_M hown hK hP 0 rfl rfl 3 (by decide) (hg _ t_761) (fun _ h9 => h9) rfl d_M_gather_1 ?_
  refine lv_aload_n hx hb d_M_gather_4 rfl (lv_at hl 0 rfl) ?_
  refine va_get (D := (dC, dI)) (ci := 10) (v := .int (I_p0 5)) (C := R_M) (T := T_M) (N := 30) hx hb hg in_M hown hK hP 0 rfl rfl 5 (by decide) (hg _ t_763) (fun _ h9 => h9) rfl d_M_gather_5 ?_
  refine gc_i (wn := fun (_ : Unit) => [oM a_p0 A_p0 I_p0, gz cI (A_p0 15) 256 f_p0_data, gz cI (A_p0 6) 256 f_p0_samples]) (wr := [oM a_p0 A_p0 I_p0, gz cI (A_p0 15) 256 f_p0_data, gz cI (A_p0 6) 256 f_p0_samples]) (gr_S (As := [.int (I_p0 3), .int (I_p0 5)]) (rest := []) ⟨hx, hb, hml, hown, hg⟩ (c_M_rowBytes l dC dI cI (I_p0 3) (I_p0 5) hw _) (va_cwS 2 hg (gg_S t_962 t_963 t_71 t_964) rfl rfl rfl (by decide +kernel) ⟨Nat.le_of_ble_eq_true rfl, Nat.le_of_ble_eq_true rfl⟩) hK hN hP hD [] (by decide) rfl rfl hl.1 rfl (Nat.le_of_ble_eq_true rfl) d_M_gather_8 ⟨Nat.le_of_ble_eq_true rfl, Nat.le_of_ble_eq_true rfl⟩) rfl rfl hP hD hS hA [] [0, 1, 2] [0, 1, 2] rfl rfl (by decide) (by decide) (by decide) (fun _ => rfl) ?_
  intro r8 _ H locs hw hP hD hS
  try dsimp only at hw
  have hP : va_P (dC, dI) vwCl [oM a_p0 A_p0 I_p0, gz cI (A_p0 15) 256 f_p0_data, gz cI (A_p0 6) 256 f_p0_samples] H := hP
  have hD : va_D A [oM a_p0 A_p0 I_p0, gz cI (A_p0 15) 256 f_p0_data, gz cI (A_p0 6) 256 f_p0_samples] := hD
  refine lv_istore (lv' := [(4, .int r8), (0, .ref a_p0), (1, .int x1), (2, .int x2), (3, .int x3)]) hx hb d_M_gather_11 hl (by decide) rfl (fun ls hl => ?_)
  refine lv_iconst (v := 0) hx hb d_M_gather_13 (by decide) ?_
  refine lv_istore (lv' := [(5, .int 0), (4, .int r8), (0, .ref a_p0), (1, .int x1), (2, .int x2), (3, .int x3)]) hx hb d_M_gather_14 hl (by decide) rfl (fun ls hl => ?_)
  obtain ⟨n1, hw⟩ := hw
  exact l16 n1 _ _ _ f_p0_data x1 x2 x3 r8 0 hP hD hS (lv_sub hl [2, 3, 4, 5, 1, 0] rfl) hw
theorem d_M_label_0 : decode b_M_label 0 = .ok (.iload_n 1, 1) := by decide +kernel
theorem d_M_label_1 : decode b_M_label 1 = .ok (.ldc 67, 2) := by decide +kernel
theorem d_M_label_3 : decode b_M_label 3 = .ok (.if_icmp .lt 20, 3) := by decide +kernel
theorem d_M_label_6 : decode b_M_label 6 = .ok (.iload_n 1, 1) := by decide +kernel
theorem d_M_label_7 : decode b_M_label 7 = .ok (.ldc 68, 2) := by decide +kernel
theorem d_M_label_9 : decode b_M_label 9 = .ok (.if_icmp .gt 14, 3) := by decide +kernel
theorem d_M_label_12 : decode b_M_label 12 = .ok (.iload_n 2, 1) := by decide +kernel
theorem d_M_label_13 : decode b_M_label 13 = .ok (.iconst 1, 1) := by decide +kernel
theorem d_M_label_14 : decode b_M_label 14 = .ok (.if_icmp .lt 9, 3) := by decide +kernel
theorem d_M_label_17 : decode b_M_label 17 = .ok (.iload_n 2, 1) := by decide +kernel
theorem d_M_label_18 : decode b_M_label 18 = .ok (.bipush 127, 2) := by decide +kernel
theorem d_M_label_20 : decode b_M_label 20 = .ok (.if_icmp .le 5, 3) := by decide +kernel
theorem d_M_label_23 : decode b_M_label 23 = .ok (.iconst 0, 1) := by decide +kernel
theorem d_M_label_24 : decode b_M_label 24 = .ok (.ireturn, 1) := by decide +kernel
theorem d_M_label_25 : decode b_M_label 25 = .ok (.iconst 0, 1) := by decide +kernel
theorem d_M_label_26 : decode b_M_label 26 = .ok (.istore_n 3, 1) := by decide +kernel
theorem d_M_label_27 : decode b_M_label 27 = .ok (.iload_n 3, 1) := by decide +kernel
theorem d_M_label_28 : decode b_M_label 28 = .ok (.aload_n 0, 1) := by decide +kernel
theorem d_M_label_29 : decode b_M_label 29 = .ok (.getfield 69, 3) := by decide +kernel
theorem d_M_label_32 : decode b_M_label 32 = .ok (.if_icmp .ge 19, 3) := by decide +kernel
theorem d_M_label_35 : decode b_M_label 35 = .ok (.aload_n 0, 1) := by decide +kernel
theorem d_M_label_36 : decode b_M_label 36 = .ok (.getfield 26, 3) := by decide +kernel
theorem d_M_label_39 : decode b_M_label 39 = .ok (.iload_n 3, 1) := by decide +kernel
theorem d_M_label_40 : decode b_M_label 40 = .ok (.iaload, 1) := by decide +kernel
theorem d_M_label_41 : decode b_M_label 41 = .ok (.iload_n 1, 1) := by decide +kernel
theorem d_M_label_42 : decode b_M_label 42 = .ok (.if_icmp .eq 9, 3) := by decide +kernel
theorem d_M_label_45 : decode b_M_label 45 = .ok (.iinc 3 1, 3) := by decide +kernel
theorem d_M_label_48 : decode b_M_label 48 = .ok (.goto (-21), 3) := by decide +kernel
theorem d_M_label_51 : decode b_M_label 51 = .ok (.iload_n 3, 1) := by decide +kernel
theorem d_M_label_52 : decode b_M_label 52 = .ok (.iconst 2, 1) := by decide +kernel
theorem d_M_label_53 : decode b_M_label 53 = .ok (.if_icmp .eq 22, 3) := by decide +kernel
theorem d_M_label_56 : decode b_M_label 56 = .ok (.iload_n 3, 1) := by decide +kernel
theorem d_M_label_57 : decode b_M_label 57 = .ok (.aload_n 0, 1) := by decide +kernel
theorem d_M_label_58 : decode b_M_label 58 = .ok (.getfield 69, 3) := by decide +kernel
theorem d_M_label_61 : decode b_M_label 61 = .ok (.if_icmp .ge 16, 3) := by decide +kernel
theorem d_M_label_64 : decode b_M_label 64 = .ok (.aload_n 0, 1) := by decide +kernel
theorem d_M_label_65 : decode b_M_label 65 = .ok (.getfield 29, 3) := by decide +kernel
theorem d_M_label_68 : decode b_M_label 68 = .ok (.iload_n 3, 1) := by decide +kernel
theorem d_M_label_69 : decode b_M_label 69 = .ok (.iaload, 1) := by decide +kernel
theorem d_M_label_70 : decode b_M_label 70 = .ok (.bipush 12, 2) := by decide +kernel
theorem d_M_label_72 : decode b_M_label 72 = .ok (.if_icmp .ne 5, 3) := by decide +kernel
theorem d_M_label_75 : decode b_M_label 75 = .ok (.iconst 0, 1) := by decide +kernel
theorem d_M_label_76 : decode b_M_label 76 = .ok (.ireturn, 1) := by decide +kernel
theorem d_M_label_77 : decode b_M_label 77 = .ok (.iload_n 3, 1) := by decide +kernel
theorem d_M_label_78 : decode b_M_label 78 = .ok (.aload_n 0, 1) := by decide +kernel
theorem d_M_label_79 : decode b_M_label 79 = .ok (.getfield 69, 3) := by decide +kernel
theorem d_M_label_82 : decode b_M_label 82 = .ok (.if_icmp .ne 27, 3) := by decide +kernel
theorem d_M_label_85 : decode b_M_label 85 = .ok (.aload_n 0, 1) := by decide +kernel
theorem d_M_label_86 : decode b_M_label 86 = .ok (.getfield 26, 3) := by decide +kernel
theorem d_M_label_89 : decode b_M_label 89 = .ok (.iload_n 3, 1) := by decide +kernel
theorem d_M_label_90 : decode b_M_label 90 = .ok (.iload_n 1, 1) := by decide +kernel
theorem d_M_label_91 : decode b_M_label 91 = .ok (.iastore, 1) := by decide +kernel
theorem d_M_label_92 : decode b_M_label 92 = .ok (.aload_n 0, 1) := by decide +kernel
theorem d_M_label_93 : decode b_M_label 93 = .ok (.getfield 29, 3) := by decide +kernel
theorem d_M_label_96 : decode b_M_label 96 = .ok (.iload_n 3, 1) := by decide +kernel
theorem d_M_label_97 : decode b_M_label 97 = .ok (.iconst 0, 1) := by decide +kernel
theorem d_M_label_98 : decode b_M_label 98 = .ok (.iastore, 1) := by decide +kernel
theorem d_M_label_99 : decode b_M_label 99 = .ok (.aload_n 0, 1) := by decide +kernel
theorem d_M_label_100 : decode b_M_label 100 = .ok (.dup, 1) := by decide +kernel
theorem d_M_label_101 : decode b_M_label 101 = .ok (.getfield 69, 3) := by decide +kernel
theorem d_M_label_104 : decode b_M_label 104 = .ok (.iconst 1, 1) := by decide +kernel
theorem d_M_label_105 : decode b_M_label 105 = .ok (.iadd, 1) := by decide +kernel
theorem d_M_label_106 : decode b_M_label 106 = .ok (.putfield 69, 3) := by decide +kernel
theorem d_M_label_109 : decode b_M_label 109 = .ok (.aload_n 0, 1) := by decide +kernel
theorem d_M_label_110 : decode b_M_label 110 = .ok (.getfield 32, 3) := by decide +kernel
theorem d_M_label_113 : decode b_M_label 113 = .ok (.bipush 12, 2) := by decide +kernel
theorem d_M_label_115 : decode b_M_label 115 = .ok (.iload_n 3, 1) := by decide +kernel
theorem d_M_label_116 : decode b_M_label 116 = .ok (.imul, 1) := by decide +kernel
theorem d_M_label_117 : decode b_M_label 117 = .ok (.aload_n 0, 1) := by decide +kernel
theorem d_M_label_118 : decode b_M_label 118 = .ok (.getfield 29, 3) := by decide +kernel
theorem d_M_label_121 : decode b_M_label 121 = .ok (.iload_n 3, 1) := by decide +kernel
theorem d_M_label_122 : decode b_M_label 122 = .ok (.iaload, 1) := by decide +kernel
theorem d_M_label_123 : decode b_M_label 123 = .ok (.iadd, 1) := by decide +kernel
theorem d_M_label_124 : decode b_M_label 124 = .ok (.iload_n 2, 1) := by decide +kernel
theorem d_M_label_125 : decode b_M_label 125 = .ok (.iastore, 1) := by decide +kernel
theorem d_M_label_126 : decode b_M_label 126 = .ok (.aload_n 0, 1) := by decide +kernel
theorem d_M_label_127 : decode b_M_label 127 = .ok (.getfield 29, 3) := by decide +kernel
theorem d_M_label_130 : decode b_M_label 130 = .ok (.iload_n 3, 1) := by decide +kernel
theorem d_M_label_131 : decode b_M_label 131 = .ok (.dup2, 1) := by decide +kernel
theorem d_M_label_132 : decode b_M_label 132 = .ok (.iaload, 1) := by decide +kernel
theorem d_M_label_133 : decode b_M_label 133 = .ok (.iconst 1, 1) := by decide +kernel
theorem d_M_label_134 : decode b_M_label 134 = .ok (.iadd, 1) := by decide +kernel
theorem d_M_label_135 : decode b_M_label 135 = .ok (.iastore, 1) := by decide +kernel
theorem d_M_label_136 : decode b_M_label 136 = .ok (.iconst 1, 1) := by decide +kernel
theorem d_M_label_137 : decode b_M_label 137 = .ok (.ireturn, 1) := by decide +kernel
def wp_M_label_b109 (post : Int32 → (Nat → Int32) → (Nat → Int32) → (Nat → Int32) → (Nat → Int32) → Prop) (I_p0 : Nat → Int32) (f_p0_lengths : Nat → Int32) (f_p0_letters : Nat → Int32) (f_p0_tags : Nat → Int32) (x2 : Int32) (x3 : Int32) : Prop :=
  vp_in x3 2 ∧
  vp_in ((12 * x3) + (f_p0_lengths (x3).toNatClampNeg)) 24 ∧
  vp_in x3 2 ∧
  vp_in x3 2 ∧
  post 1 I_p0 (upd f_p0_lengths (x3).toNatClampNeg ((f_p0_lengths (x3).toNatClampNeg) + 1)) (upd f_p0_letters ((12 * x3) + (f_p0_lengths (x3).toNatClampNeg)).toNatClampNeg x2) f_p0_tags
def wp_M_label_b77 (post : Int32 → (Nat → Int32) → (Nat → Int32) → (Nat → Int32) → (Nat → Int32) → Prop) (I_p0 : Nat → Int32) (f_p0_lengths : Nat → Int32) (f_p0_letters : Nat → Int32) (f_p0_tags : Nat → Int32) (x1 : Int32) (x2 : Int32) (x3 : Int32) : Prop :=
  ((x3 = (I_p0 7) →
    vp_in x3 2 ∧
    vp_in x3 2 ∧
    wp_M_label_b109 post (upd I_p0 7 ((I_p0 7) + 1)) (upd f_p0_lengths (x3).toNatClampNeg 0) f_p0_letters (upd f_p0_tags (x3).toNatClampNeg x1) x2 x3) ∧
   (¬ x3 = (I_p0 7) →
    wp_M_label_b109 post I_p0 f_p0_lengths f_p0_letters f_p0_tags x2 x3))
def wp_M_label_b51 (post : Int32 → (Nat → Int32) → (Nat → Int32) → (Nat → Int32) → (Nat → Int32) → Prop) (I_p0 : Nat → Int32) (f_p0_lengths : Nat → Int32) (f_p0_letters : Nat → Int32) (f_p0_tags : Nat → Int32) (x1 : Int32) (x2 : Int32) (x3 : Int32) : Prop :=
  ((x3 = 2 →
    post 0 I_p0 f_p0_lengths f_p0_letters f_p0_tags) ∧
   (¬ x3 = 2 →
    (((I_p0 7) ≤ x3 →
      wp_M_label_b77 post I_p0 f_p0_lengths f_p0_letters f_p0_tags x1 x2 x3) ∧
     (¬ (I_p0 7) ≤ x3 →
      vp_in x3 2 ∧
      (((f_p0_lengths (x3).toNatClampNeg) = 12 →
        post 0 I_p0 f_p0_lengths f_p0_letters f_p0_tags) ∧
       (¬ (f_p0_lengths (x3).toNatClampNeg) = 12 →
        wp_M_label_b77 post I_p0 f_p0_lengths f_p0_letters f_p0_tags x1 x2 x3))))))
def wp_M_label_l27 (post : Int32 → (Nat → Int32) → (Nat → Int32) → (Nat → Int32) → (Nat → Int32) → Prop) : Nat → (Nat → Int32) → (Nat → Int32) → (Nat → Int32) → (Nat → Int32) → Int32 → Int32 → Int32 → Prop
  | 0, _, _, _, _, _, _, _ => False
  | n + 1, I_p0, f_p0_lengths, f_p0_letters, f_p0_tags, x1, x2, x3 =>
    (((I_p0 7) ≤ x3 →
      wp_M_label_b51 post I_p0 f_p0_lengths f_p0_letters f_p0_tags x1 x2 x3) ∧
     (¬ (I_p0 7) ≤ x3 →
      vp_in x3 2 ∧
      (((f_p0_tags (x3).toNatClampNeg) = x1 →
        wp_M_label_b51 post I_p0 f_p0_lengths f_p0_letters f_p0_tags x1 x2 x3) ∧
       (¬ (f_p0_tags (x3).toNatClampNeg) = x1 →
        wp_M_label_l27 post n I_p0 f_p0_lengths f_p0_letters f_p0_tags x1 x2 (x3 + 1)))))
def wp_M_label (post : Int32 → (Nat → Int32) → (Nat → Int32) → (Nat → Int32) → (Nat → Int32) → Prop) (I_p0 : Nat → Int32) (f_p0_lengths : Nat → Int32) (f_p0_letters : Nat → Int32) (f_p0_tags : Nat → Int32) (x1 : Int32) (x2 : Int32) : Prop :=
  ((x1 < 32768 →
    post 0 I_p0 f_p0_lengths f_p0_letters f_p0_tags) ∧
   (¬ x1 < 32768 →
    ((65535 < x1 →
      post 0 I_p0 f_p0_lengths f_p0_letters f_p0_tags) ∧
     (¬ 65535 < x1 →
      ((x2 < 1 →
        post 0 I_p0 f_p0_lengths f_p0_letters f_p0_tags) ∧
       (¬ x2 < 1 →
        ((x2 ≤ 127 →
          (∃ n1 : Nat, wp_M_label_l27 post n1 I_p0 f_p0_lengths f_p0_letters f_p0_tags x1 x2 0)) ∧
         (¬ x2 ≤ 127 →
          post 0 I_p0 f_p0_lengths f_p0_letters f_p0_tags))))))))
set_option maxRecDepth 100000 in
set_option maxHeartbeats 4000000 in
theorem c_M_label (l : Launch) (dC : Nat → ClassId) (dI : Nat → Nat → Nat) (cI : ClassId) (a_p0 : Nat) (A_p0 : Nat → Nat) (I_p0 : Nat → Int32) (f_p0_lengths : Nat → Int32) (f_p0_letters : Nat → Int32) (f_p0_tags : Nat → Int32) (x1 : Int32) (x2 : Int32) {post : Int32 → (Nat → Int32) → (Nat → Int32) → (Nat → Int32) → (Nat → Int32) → Prop} (hw : wp_M_label post I_p0 f_p0_lengths f_p0_letters f_p0_tags x1 x2) : gm_i l y_M_label ws_M_label ({ frames := 0, cells := 0, slots := 0, locals := 0 } : Room) (dC, dI) vwCl [(cI, .int)] [.ref a_p0, .int x1, .int x2] [oM a_p0 A_p0 I_p0, gz cI (A_p0 9) 2 f_p0_lengths, gz cI (A_p0 10) 24 f_p0_letters, gz cI (A_p0 8) 2 f_p0_tags] (fun (u : (Nat → Int32) × (Nat → Int32) × (Nat → Int32) × (Nat → Int32)) => [oM a_p0 A_p0 u.1, gz cI (A_p0 9) 2 u.2.1, gz cI (A_p0 10) 24 u.2.2.1, gz cI (A_p0 8) 2 u.2.2.2]) (fun (r : Int32) (u : (Nat → Int32) × (Nat → Int32) × (Nat → Int32) × (Nat → Int32)) => post r u.1 u.2.1 u.2.2.1 u.2.2.2) := by
  refine gm_iof (cc := b_M_label) (maxL := 4) (ty := .boolean) (by decide) rfl (Nat.le_of_ble_eq_true rfl) ?_
  intro p e s m args below meth c A Q hx hb hml hown hg hK hN hA hret
  have hown : s.vm.findClass R_M = some m.cls := hown
  have b109 : ∀ (H : Heap) (locs : List Loc) (ls : Array Slot) (I_p0 : Nat → Int32) (f_p0_lengths : Nat → Int32) (f_p0_letters : Nat → Int32) (f_p0_tags : Nat → Int32) (x2 : Int32) (x3 : Int32), va_P (dC, dI) vwCl [oM a_p0 A_p0 I_p0, gz cI (A_p0 9) 2 f_p0_lengths, gz cI (A_p0 10) 24 f_p0_letters, gz cI (A_p0 8) 2 f_p0_tags] H → va_D A [oM a_p0 A_p0 I_p0, gz cI (A_p0 9) 2 f_p0_lengths, gz cI (A_p0 10) 24 f_p0_letters, gz cI (A_p0 8) 2 f_p0_tags] → va_S A s.heap H locs → lv_has ls 4 [(0, .ref a_p0), (2, .int x2), (3, .int x3)] → wp_M_label_b109 post I_p0 f_p0_lengths f_p0_letters f_p0_tags x2 x3 → W p l e ({ frames := 0, cells := 0, slots := 0, locals := 0 } : Room) s m args below meth c H locs 0 0 Q (F0 m 109 ls []) := by
    intro H locs ls I_p0 f_p0_lengths f_p0_letters f_p0_tags x2 x3 hP hD hS hl hw
    unfold wp_M_label_b109 at hw
    refine lv_aload_n hx hb d_M_label_109 rfl (lv_at hl 0 rfl) ?_
    refine va_get (D := (dC, dI)) (ci := 10) (v := .ref (A_p0 10)) (C := R_M) (T := T_M) (N := 30) hx hb hg in_M hown hK hP 0 rfl rfl 10 (by decide) (hg _ t_768) (fun _ h9 => h9) rfl d_M_label_110 ?_
    refine lv_bipush (v := 12) hx hb d_M_label_113 (by decide) ?_
    refine lv_iload_n hx hb d_M_label_115 rfl (lv_at hl 2 rfl) ?_
    refine lv_imul hx hb d_M_label_116 ?_
    refine lv_aload_n hx hb d_M_label_117 rfl (lv_at hl 0 rfl) ?_
    refine va_get (D := (dC, dI)) (ci := 10) (v := .ref (A_p0 9)) (C := R_M) (T := T_M) (N := 30) hx hb hg in_M hown hK hP 0 rfl rfl 9 (by decide) (hg _ t_767) (fun _ h9 => h9) rfl d_M_label_118 ?_
    refine lv_iload_n hx hb d_M_label_121 rfl (lv_at hl 2 rfl) ?_
    obtain ⟨hin, hw⟩ := hw
    refine va_iald hx hb hK hP 1 0 rfl rfl hin d_M_label_122 ?_
    refine lv_iadd hx hb d_M_label_123 ?_
    refine lv_iload_n hx hb d_M_label_124 rfl (lv_at hl 1 rfl) ?_
    obtain ⟨hin, hw⟩ := hw
    refine va_iast hx hb hK hP hD hS 2 0 rfl rfl hin d_M_label_125 (fun H locs hP hD hS => ?_)
    have hP : va_P (dC, dI) vwCl [oM a_p0 A_p0 I_p0, gz cI (A_p0 9) 2 f_p0_lengths, gz cI (A_p0 10) 24 (upd f_p0_letters ((12 * x3) + (f_p0_lengths (x3).toNatClampNeg)).toNatClampNeg x2), gz cI (A_p0 8) 2 f_p0_tags] H := hP
    have hD : va_D A [oM a_p0 A_p0 I_p0, gz cI (A_p0 9) 2 f_p0_lengths, gz cI (A_p0 10) 24 (upd f_p0_letters ((12 * x3) + (f_p0_lengths (x3).toNatClampNeg)).toNatClampNeg x2), gz cI (A_p0 8) 2 f_p0_tags] := hD
    refine lv_aload_n hx hb d_M_label_126 rfl (lv_at hl 0 rfl) ?_
    refine va_get (D := (dC, dI)) (ci := 10) (v := .ref (A_p0 9)) (C := R_M) (T := T_M) (N := 30) hx hb hg in_M hown hK hP 0 rfl rfl 9 (by decide) (hg _ t_767) (fun _ h9 => h9) rfl d_M_label_127 ?_
    refine lv_iload_n hx hb d_M_label_130 rfl (lv_at hl 2 rfl) ?_
    refine lv_dup2_11 hx hb d_M_label_131 rfl rfl ?_
    obtain ⟨hin, hw⟩ := hw
    refine va_iald hx hb hK hP 1 0 rfl rfl hin d_M_label_132 ?_
    refine lv_iconst (v := 1) hx hb d_M_label_133 (by decide) ?_
    refine lv_iadd hx hb d_M_label_134 ?_
    obtain ⟨hin, hw⟩ := hw
    refine va_iast hx hb hK hP hD hS 1 0 rfl rfl hin d_M_label_135 (fun H locs hP hD hS => ?_)
    have hP : va_P (dC, dI) vwCl [oM a_p0 A_p0 I_p0, gz cI (A_p0 9) 2 (upd f_p0_lengths (x3).toNatClampNeg ((f_p0_lengths (x3).toNatClampNeg) + 1)), gz cI (A_p0 10) 24 (upd f_p0_letters ((12 * x3) + (f_p0_lengths (x3).toNatClampNeg)).toNatClampNeg x2), gz cI (A_p0 8) 2 f_p0_tags] H := hP
    have hD : va_D A [oM a_p0 A_p0 I_p0, gz cI (A_p0 9) 2 (upd f_p0_lengths (x3).toNatClampNeg ((f_p0_lengths (x3).toNatClampNeg) + 1)), gz cI (A_p0 10) 24 (upd f_p0_letters ((12 * x3) + (f_p0_lengths (x3).toNatClampNeg)).toNatClampNeg x2), gz cI (A_p0 8) 2 f_p0_tags] := hD
    refine lv_iconst (v := 1) hx hb d_M_label_136 (by decide) ?_
    exact hret _ _ _ _ _ (I_p0, (upd f_p0_lengths (x3).toNatClampNeg ((f_p0_lengths (x3).toNatClampNeg) + 1)), (upd f_p0_letters ((12 * x3) + (f_p0_lengths (x3).toNatClampNeg)).toNatClampNeg x2), f_p0_tags) d_M_label_137 rfl hP hD hS hw
  have b77 : ∀ (H : Heap) (locs : List Loc) (ls : Array Slot) (I_p0 : Nat → Int32) (f_p0_lengths : Nat → Int32) (f_p0_letters : Nat → Int32) (f_p0_tags : Nat → Int32) (x1 : Int32) (x2 : Int32) (x3 : Int32), va_P (dC, dI) vwCl [oM a_p0 A_p0 I_p0, gz cI (A_p0 9) 2 f_p0_lengths, gz cI (A_p0 10) 24 f_p0_letters, gz cI (A_p0 8) 2 f_p0_tags] H → va_D A [oM a_p0 A_p0 I_p0, gz cI (A_p0 9) 2 f_p0_lengths, gz cI (A_p0 10) 24 f_p0_letters, gz cI (A_p0 8) 2 f_p0_tags] → va_S A s.heap H locs → lv_has ls 4 [(0, .ref a_p0), (1, .int x1), (2, .int x2), (3, .int x3)] → wp_M_label_b77 post I_p0 f_p0_lengths f_p0_letters f_p0_tags x1 x2 x3 → W p l e ({ frames := 0, cells := 0, slots := 0, locals := 0 } : Room) s m args below meth c H locs 0 0 Q (F0 m 77 ls []) := by
    intro H locs ls I_p0 f_p0_lengths f_p0_letters f_p0_tags x1 x2 x3 hP hD hS hl hw
    unfold wp_M_label_b77 at hw
    refine lv_iload_n hx hb d_M_label_77 rfl (lv_at hl 3 rfl) ?_
    refine lv_aload_n hx hb d_M_label_78 rfl (lv_at hl 0 rfl) ?_
    refine va_get (D := (dC, dI)) (ci := 10) (v := .int (I_p0 7)) (C := R_M) (T := T_M) (N := 30) hx hb hg in_M hown hK hP 0 rfl rfl 7 (by decide) (hg _ t_765) (fun _ h9 => h9) rfl d_M_label_79 ?_
    refine lv_icmp_ne hx hb d_M_label_82 rfl (fun hc => ?_) (fun hc => ?_)
    · have hw := hw.2 hc
      exact b109 _ _ _ I_p0 f_p0_lengths f_p0_letters f_p0_tags x2 x3 hP hD hS (lv_sub hl [0, 2, 3] rfl) hw
    · have hw := hw.1 hc
      refine lv_aload_n hx hb d_M_label_85 rfl (lv_at hl 0 rfl) ?_
      refine va_get (D := (dC, dI)) (ci := 10) (v := .ref (A_p0 8)) (C := R_M) (T := T_M) (N := 30) hx hb hg in_M hown hK hP 0 rfl rfl 8 (by decide) (hg _ t_766) (fun _ h9 => h9) rfl d_M_label_86 ?_
      refine lv_iload_n hx hb d_M_label_89 rfl (lv_at hl 3 rfl) ?_
      refine lv_iload_n hx hb d_M_label_90 rfl (lv_at hl 1 rfl) ?_
      obtain ⟨hin, hw⟩ := hw
      refine va_iast hx hb hK hP hD hS 3 0 rfl rfl hin d_M_label_91 (fun H locs hP hD hS => ?_)
      have hP : va_P (dC, dI) vwCl [oM a_p0 A_p0 I_p0, gz cI (A_p0 9) 2 f_p0_lengths, gz cI (A_p0 10) 24 f_p0_letters, gz cI (A_p0 8) 2 (upd f_p0_tags (x3).toNatClampNeg x1)] H := hP
      have hD : va_D A [oM a_p0 A_p0 I_p0, gz cI (A_p0 9) 2 f_p0_lengths, gz cI (A_p0 10) 24 f_p0_letters, gz cI (A_p0 8) 2 (upd f_p0_tags (x3).toNatClampNeg x1)] := hD
      refine lv_aload_n hx hb d_M_label_92 rfl (lv_at hl 0 rfl) ?_
      refine va_get (D := (dC, dI)) (ci := 10) (v := .ref (A_p0 9)) (C := R_M) (T := T_M) (N := 30) hx hb hg in_M hown hK hP 0 rfl rfl 9 (by decide) (hg _ t_767) (fun _ h9 => h9) rfl d_M_label_93 ?_
      refine lv_iload_n hx hb d_M_label_96 rfl (lv_at hl 3 rfl) ?_
      refine lv_iconst (v := 0) hx hb d_M_label_97 (by decide) ?_
      obtain ⟨hin, hw⟩ := hw
      refine va_iast hx hb hK hP hD hS 1 0 rfl rfl hin d_M_label_98 (fun H locs hP hD hS => ?_)
      have hP : va_P (dC, dI) vwCl [oM a_p0 A_p0 I_p0, gz cI (A_p0 9) 2 (upd f_p0_lengths (x3).toNatClampNeg 0), gz cI (A_p0 10) 24 f_p0_letters, gz cI (A_p0 8) 2 (upd f_p0_tags (x3).toNatClampNeg x1)] H := hP
      have hD : va_D A [oM a_p0 A_p0 I_p0, gz cI (A_p0 9) 2 (upd f_p0_lengths (x3).toNatClampNeg 0), gz cI (A_p0 10) 24 f_p0_letters, gz cI (A_p0 8) 2 (upd f_p0_tags (x3).toNatClampNeg x1)] := hD
      refine lv_aload_n hx hb d_M_label_99 rfl (lv_at hl 0 rfl) ?_
      refine lv_dup hx hb d_M_label_100 rfl ?_
      refine va_get (D := (dC, dI)) (ci := 10) (v := .int (I_p0 7)) (C := R_M) (T := T_M) (N := 30) hx hb hg in_M hown hK hP 0 rfl rfl 7 (by decide) (hg _ t_765) (fun _ h9 => h9) rfl d_M_label_101 ?_
      refine lv_iconst (v := 1) hx hb d_M_label_104 (by decide) ?_
      refine lv_iadd hx hb d_M_label_105 ?_
      refine va_put (D := (dC, dI)) (ci := 10) (v := .int ((I_p0 7) + 1)) (ty := .int) (C := R_M) (T := T_M) (N := 30) hx hb hg in_M t_M tok_M nok_M hown hK hP hD hS 0 rfl rfl 7 (by decide) (hg _ t_765) (fun _ h9 => h9) rfl (by decide +kernel) rfl rfl (Nat.le_of_ble_eq_true rfl) d_M_label_106 (fun H locs hP hD hS => ?_)
      have hP : va_P (dC, dI) vwCl [oM a_p0 A_p0 (upd I_p0 7 ((I_p0 7) + 1)), gz cI (A_p0 9) 2 (upd f_p0_lengths (x3).toNatClampNeg 0), gz cI (A_p0 10) 24 f_p0_letters, gz cI (A_p0 8) 2 (upd f_p0_tags (x3).toNatClampNeg x1)] H := hP
      have hD : va_D A [oM a_p0 A_p0 (upd I_p0 7 ((I_p0 7) + 1)), gz cI (A_p0 9) 2 (upd f_p0_lengths (x3).toNatClampNeg 0), gz cI (A_p0 10) 24 f_p0_letters, gz cI (A_p0 8) 2 (upd f_p0_tags (x3).toNatClampNeg x1)] := hD
      exact b109 _ _ _ (upd I_p0 7 ((I_p0 7) + 1)) (upd f_p0_lengths (x3).toNatClampNeg 0) f_p0_letters (upd f_p0_tags (x3).toNatClampNeg x1) x2 x3 hP hD hS (lv_sub hl [0, 2, 3] rfl) hw
  have b51 : ∀ (H : Heap) (locs : List Loc) (ls : Array Slot) (I_p0 : Nat → Int32) (f_p0_lengths : Nat → Int32) (f_p0_letters : Nat → Int32) (f_p0_tags : Nat → Int32) (x1 : Int32) (x2 : Int32) (x3 : Int32), va_P (dC, dI) vwCl [oM a_p0 A_p0 I_p0, gz cI (A_p0 9) 2 f_p0_lengths, gz cI (A_p0 10) 24 f_p0_letters, gz cI (A_p0 8) 2 f_p0_tags] H → va_D A [oM a_p0 A_p0 I_p0, gz cI (A_p0 9) 2 f_p0_lengths, gz cI (A_p0 10) 24 f_p0_letters, gz cI (A_p0 8) 2 f_p0_tags] → va_S A s.heap H locs → lv_has ls 4 [(0, .ref a_p0), (1, .int x1), (2, .int x2), (3, .int x3)] → wp_M_label_b51 post I_p0 f_p0_lengths f_p0_letters f_p0_tags x1 x2 x3 → W p l e ({ frames := 0, cells := 0, slots := 0, locals := 0 } : Room) s m args below meth c H locs 0 0 Q (F0 m 51 ls []) := by
    intro H locs ls I_p0 f_p0_lengths f_p0_letters f_p0_tags x1 x2 x3 hP hD hS hl hw
    unfold wp_M_label_b51 at hw
    refine lv_iload_n hx hb d_M_label_51 rfl (lv_at hl 3 rfl) ?_
    refine lv_iconst (v := 2) hx hb d_M_label_52 (by decide) ?_
    refine lv_icmp_eq hx hb d_M_label_53 rfl (fun hc => ?_) (fun hc => ?_)
    · have hw := hw.1 hc
      refine lv_iconst (v := 0) hx hb d_M_label_75 (by decide) ?_
      exact hret _ _ _ _ _ (I_p0, f_p0_lengths, f_p0_letters, f_p0_tags) d_M_label_76 rfl hP hD hS hw
    · have hw := hw.2 hc
      refine lv_iload_n hx hb d_M_label_56 rfl (lv_at hl 3 rfl) ?_
      refine lv_aload_n hx hb d_M_label_57 rfl (lv_at hl 0 rfl) ?_
      refine va_get (D := (dC, dI)) (ci := 10) (v := .int (I_p0 7)) (C := R_M) (T := T_M) (N := 30) hx hb hg in_M hown hK hP 0 rfl rfl 7 (by decide) (hg _ t_765) (fun _ h9 => h9) rfl d_M_label_58 ?_
      refine lv_icmp_ge hx hb d_M_label_61 rfl (fun hc => ?_) (fun hc => ?_)
      · have hw := hw.1 hc
        exact b77 _ _ _ I_p0 f_p0_lengths f_p0_letters f_p0_tags x1 x2 x3 hP hD hS (lv_sub hl [0, 1, 2, 3] rfl) hw
      · have hw := hw.2 hc
        refine lv_aload_n hx hb d_M_label_64 rfl (lv_at hl 0 rfl) ?_
        refine va_get (D := (dC, dI)) (ci := 10) (v := .ref (A_p0 9)) (C := R_M) (T := T_M) (N := 30) hx hb hg in_M hown hK hP 0 rfl rfl 9 (by decide) (hg _ t_767) (fun _ h9 => h9) rfl d_M_label_65 ?_
        refine lv_iload_n hx hb d_M_label_68 rfl (lv_at hl 3 rfl) ?_
        obtain ⟨hin, hw⟩ := hw
        refine va_iald hx hb hK hP 1 0 rfl rfl hin d_M_label_69 ?_
        refine lv_bipush (v := 12) hx hb d_M_label_70 (by decide) ?_
        refine lv_icmp_ne hx hb d_M_label_72 rfl (fun hc => ?_) (fun hc => ?_)
        · have hw := hw.2 hc
          exact b77 _ _ _ I_p0 f_p0_lengths f_p0_letters f_p0_tags x1 x2 x3 hP hD hS (lv_sub hl [0, 1, 2, 3] rfl) hw
        · have hw := hw.1 hc
          refine lv_iconst (v := 0) hx hb d_M_label_75 (by decide) ?_
          exact hret _ _ _ _ _ (I_p0, f_p0_lengths, f_p0_letters, f_p0_tags) d_M_label_76 rfl hP hD hS hw
  have l27 : ∀ n : Nat, ∀ (H : Heap) (locs : List Loc) (ls : Array Slot) (I_p0 : Nat → Int32) (f_p0_lengths : Nat → Int32) (f_p0_letters : Nat → Int32) (f_p0_tags : Nat → Int32) (x1 : Int32) (x2 : Int32) (x3 : Int32), va_P (dC, dI) vwCl [oM a_p0 A_p0 I_p0, gz cI (A_p0 9) 2 f_p0_lengths, gz cI (A_p0 10) 24 f_p0_letters, gz cI (A_p0 8) 2 f_p0_tags] H → va_D A [oM a_p0 A_p0 I_p0, gz cI (A_p0 9) 2 f_p0_lengths, gz cI (A_p0 10) 24 f_p0_letters, gz cI (A_p0 8) 2 f_p0_tags] → va_S A s.heap H locs → lv_has ls 4 [(0, .ref a_p0), (1, .int x1), (2, .int x2), (3, .int x3)] → wp_M_label_l27 post n I_p0 f_p0_lengths f_p0_letters f_p0_tags x1 x2 x3 → W p l e ({ frames := 0, cells := 0, slots := 0, locals := 0 } : Room) s m args below meth c H locs 0 0 Q (F0 m 27 ls []) := by
    intro n
    induction n with
    | zero => intro H locs ls I_p0 f_p0_lengths f_p0_letters f_p0_tags x1 x2 x3 hP hD hS hl hw; exact hw.elim
    | succ n ih =>
      intro H locs ls I_p0 f_p0_lengths f_p0_letters f_p0_tags x1 x2 x3 hP hD hS hl hw
      unfold wp_M_label_l27 at hw
      refine lv_iload_n hx hb d_M_label_27 rfl (lv_at hl 3 rfl) ?_
      refine lv_aload_n hx hb d_M_label_28 rfl (lv_at hl 0 rfl) ?_
      refine va_get (D := (dC, dI)) (ci := 10) (v := .int (I_p0 7)) (C := R_M) (T := T_M) (N := 30) hx hb hg in_M hown hK hP 0 rfl rfl 7 (by decide) (hg _ t_765) (fun _ h9 => h9) rfl d_M_label_29 ?_
      refine lv_icmp_ge hx hb d_M_label_32 rfl (fun hc => ?_) (fun hc => ?_)
      · have hw := hw.1 hc
        exact b51 _ _ _ I_p0 f_p0_lengths f_p0_letters f_p0_tags x1 x2 x3 hP hD hS (lv_sub hl [0, 1, 2, 3] rfl) hw
      · have hw := hw.2 hc
        refine lv_aload_n hx hb d_M_label_35 rfl (lv_at hl 0 rfl) ?_
        refine va_get (D := (dC, dI)) (ci := 10) (v := .ref (A_p0 8)) (C := R_M) (T := T_M) (N := 30) hx hb hg in_M hown hK hP 0 rfl rfl 8 (by decide) (hg _ t_766) (fun _ h9 => h9) rfl d_M_label_36 ?_
        refine lv_iload_n hx hb d_M_label_39 rfl (lv_at hl 3 rfl) ?_
        obtain ⟨hin, hw⟩ := hw
        refine va_iald hx hb hK hP 3 0 rfl rfl hin d_M_label_40 ?_
        refine lv_iload_n hx hb d_M_label_41 rfl (lv_at hl 1 rfl) ?_
        refine lv_icmp_eq hx hb d_M_label_42 rfl (fun hc => ?_) (fun hc => ?_)
        · have hw := hw.1 hc
          exact b51 _ _ _ I_p0 f_p0_lengths f_p0_letters f_p0_tags x1 x2 x3 hP hD hS (lv_sub hl [0, 1, 2, 3] rfl) hw
        · have hw := hw.2 hc
          refine lv_iinc (k := 3) (v := (x3 + 1)) (lv' := [(3, .int (x3 + 1)), (0, .ref a_p0), (1, .int x1), (2, .int x2)]) hx hb d_M_label_45 hl rfl (congrArg (fun z => x3 + z) (by decide : Int32.ofInt 1 = 1)) (by decide) rfl (fun ls hl => ?_)
          refine lv_goto hx hb d_M_label_48 rfl ?_
          exact ih _ _ _ I_p0 f_p0_lengths f_p0_letters f_p0_tags x1 x2 (x3 + 1) hP hD hS (lv_sub hl [1, 2, 3, 0] rfl) hw
  intro ls hl hP hD hS
  have hl : lv_has ls 4 [(0, .ref a_p0), (1, .int x1), (2, .int x2)] := hl
  unfold wp_M_label at hw
  refine lv_iload_n hx hb d_M_label_0 rfl (lv_at hl 1 rfl) ?_
  refine lv_ldc (v := 32768) hx hb hown (hg _ t_887) d_M_label_1 ?_
  refine lv_icmp_lt hx hb d_M_label_3 rfl (fun hc => ?_) (fun hc => ?_)
  · have hw := hw.1 hc
    refine lv_iconst (v := 0) hx hb d_M_label_23 (by decide) ?_
    exact hret _ _ _ _ _ (I_p0, f_p0_lengths, f_p0_letters, f_p0_tags) d_M_label_24 rfl hP hD hS hw
  · have hw := hw.2 hc
    refine lv_iload_n hx hb d_M_label_6 rfl (lv_at hl 1 rfl) ?_
    refine lv_ldc (v := 65535) hx hb hown (hg _ t_888) d_M_label_7 ?_
    refine lv_icmp_gt hx hb d_M_label_9 rfl (fun hc => ?_) (fun hc => ?_)
    · have hw := hw.1 hc
      refine lv_iconst (v := 0) hx hb d_M_label_23 (by decide) ?_
      exact hret _ _ _ _ _ (I_p0, f_p0_lengths, f_p0_letters, f_p0_tags) d_M_label_24 rfl hP hD hS hw
    · have hw := hw.2 hc
      refine lv_iload_n hx hb d_M_label_12 rfl (lv_at hl 2 rfl) ?_
      refine lv_iconst (v := 1) hx hb d_M_label_13 (by decide) ?_
      refine lv_icmp_lt hx hb d_M_label_14 rfl (fun hc => ?_) (fun hc => ?_)
      · have hw := hw.1 hc
        refine lv_iconst (v := 0) hx hb d_M_label_23 (by decide) ?_
        exact hret _ _ _ _ _ (I_p0, f_p0_lengths, f_p0_letters, f_p0_tags) d_M_label_24 rfl hP hD hS hw
      · have hw := hw.2 hc
        refine lv_iload_n hx hb d_M_label_17 rfl (lv_at hl 2 rfl) ?_
        refine lv_bipush (v := 127) hx hb d_M_label_18 (by decide) ?_
        refine lv_icmp_le hx hb d_M_label_20 rfl (fun hc => ?_) (fun hc => ?_)
        · have hw := hw.1 hc
          refine lv_iconst (v := 0) hx hb d_M_label_25 (by decide) ?_
          refine lv_istore_n (lv' := [(3, .int 0), (0, .ref a_p0), (1, .int x1), (2, .int x2)]) hx hb d_M_label_26 rfl hl (by decide) rfl (fun ls hl => ?_)
          obtain ⟨n1, hw⟩ := hw
          exact l27 n1 _ _ _ I_p0 f_p0_lengths f_p0_letters f_p0_tags x1 x2 0 hP hD hS (lv_sub hl [1, 2, 3, 0] rfl) hw
        · have hw := hw.2 hc
          refine lv_iconst (v := 0) hx hb d_M_label_23 (by decide) ?_
          exact hret _ _ _ _ _ (I_p0, f_p0_lengths, f_p0_letters, f_p0_tags) d_M_label_24 rfl hP hD hS hw
theorem d_M_run_0 : decode b_M_run 0 = .ok (.iconst 0, 1) := by decide +kernel
theorem d_M_run_1 : decode b_M_run 1 = .ok (.istore_n 3, 1) := by decide +kernel
theorem d_M_run_2 : decode b_M_run 2 = .ok (.iload_n 1, 1) := by decide +kernel
theorem d_M_run_3 : decode b_M_run 3 = .ok (.iload_n 3, 1) := by decide +kernel
theorem d_M_run_4 : decode b_M_run 4 = .ok (.iadd, 1) := by decide +kernel
theorem d_M_run_5 : decode b_M_run 5 = .ok (.iload_n 2, 1) := by decide +kernel
theorem d_M_run_6 : decode b_M_run 6 = .ok (.if_icmp .ge 26, 3) := by decide +kernel
theorem d_M_run_9 : decode b_M_run 9 = .ok (.aload_n 0, 1) := by decide +kernel
theorem d_M_run_10 : decode b_M_run 10 = .ok (.getfield 38, 3) := by decide +kernel
theorem d_M_run_13 : decode b_M_run 13 = .ok (.iload_n 1, 1) := by decide +kernel
theorem d_M_run_14 : decode b_M_run 14 = .ok (.iload_n 3, 1) := by decide +kernel
theorem d_M_run_15 : decode b_M_run 15 = .ok (.iadd, 1) := by decide +kernel
theorem d_M_run_16 : decode b_M_run 16 = .ok (.iaload, 1) := by decide +kernel
theorem d_M_run_17 : decode b_M_run 17 = .ok (.aload_n 0, 1) := by decide +kernel
theorem d_M_run_18 : decode b_M_run 18 = .ok (.getfield 38, 3) := by decide +kernel
theorem d_M_run_21 : decode b_M_run 21 = .ok (.iload_n 1, 1) := by decide +kernel
theorem d_M_run_22 : decode b_M_run 22 = .ok (.iaload, 1) := by decide +kernel
theorem d_M_run_23 : decode b_M_run 23 = .ok (.if_icmp .ne 9, 3) := by decide +kernel
theorem d_M_run_26 : decode b_M_run 26 = .ok (.iinc 3 1, 3) := by decide +kernel
theorem d_M_run_29 : decode b_M_run 29 = .ok (.goto (-27), 3) := by decide +kernel
theorem d_M_run_32 : decode b_M_run 32 = .ok (.iload_n 3, 1) := by decide +kernel
theorem d_M_run_33 : decode b_M_run 33 = .ok (.ireturn, 1) := by decide +kernel
def wp_M_run_l2 (post : Int32 → Prop) (I_p0 : Nat → Int32) (f_p0_data : Nat → Int32) : Nat → Int32 → Int32 → Int32 → Prop
  | 0, _, _, _ => False
  | n + 1, x1, x2, x3 =>
    ((x2 ≤ (x1 + x3) →
      post x3) ∧
     (¬ x2 ≤ (x1 + x3) →
      vp_in (x1 + x3) 256 ∧
      vp_in x1 256 ∧
      (((f_p0_data (x1 + x3).toNatClampNeg) = (f_p0_data (x1).toNatClampNeg) →
        wp_M_run_l2 post I_p0 f_p0_data n x1 x2 (x3 + 1)) ∧
       (¬ (f_p0_data (x1 + x3).toNatClampNeg) = (f_p0_data (x1).toNatClampNeg) →
        post x3))))
def wp_M_run (post : Int32 → Prop) (I_p0 : Nat → Int32) (f_p0_data : Nat → Int32) (x1 : Int32) (x2 : Int32) : Prop :=
  (∃ n1 : Nat, wp_M_run_l2 post I_p0 f_p0_data n1 x1 x2 0)
set_option maxRecDepth 100000 in
set_option maxHeartbeats 4000000 in
theorem c_M_run (l : Launch) (dC : Nat → ClassId) (dI : Nat → Nat → Nat) (cI : ClassId) (a_p0 : Nat) (A_p0 : Nat → Nat) (I_p0 : Nat → Int32) (f_p0_data : Nat → Int32) (x1 : Int32) (x2 : Int32) {post : Int32 → Prop} (hw : wp_M_run post I_p0 f_p0_data x1 x2) : gm_i l y_M_run ws_M_run ({ frames := 0, cells := 0, slots := 0, locals := 0 } : Room) (dC, dI) vwCl [(cI, .int)] [.ref a_p0, .int x1, .int x2] [oM a_p0 A_p0 I_p0, gz cI (A_p0 15) 256 f_p0_data] (fun (_ : Unit) => [oM a_p0 A_p0 I_p0, gz cI (A_p0 15) 256 f_p0_data]) (fun (r : Int32) (_ : Unit) => post r) := by
  refine gm_iof (cc := b_M_run) (maxL := 4) (ty := .int) (by decide) rfl (Nat.le_of_ble_eq_true rfl) ?_
  intro p e s m args below meth c A Q hx hb hml hown hg hK hN hA hret
  have hown : s.vm.findClass R_M = some m.cls := hown
  have l2 : ∀ n : Nat, ∀ (H : Heap) (locs : List Loc) (ls : Array Slot) (x1 : Int32) (x2 : Int32) (x3 : Int32), va_P (dC, dI) vwCl [oM a_p0 A_p0 I_p0, gz cI (A_p0 15) 256 f_p0_data] H → va_D A [oM a_p0 A_p0 I_p0, gz cI (A_p0 15) 256 f_p0_data] → va_S A s.heap H locs → lv_has ls 4 [(0, .ref a_p0), (1, .int x1), (2, .int x2), (3, .int x3)] → wp_M_run_l2 post I_p0 f_p0_data n x1 x2 x3 → W p l e ({ frames := 0, cells := 0, slots := 0, locals := 0 } : Room) s m args below meth c H locs 0 0 Q (F0 m 2 ls []) := by
    intro n
    induction n with
    | zero => intro H locs ls x1 x2 x3 hP hD hS hl hw; exact hw.elim
    | succ n ih =>
      intro H locs ls x1 x2 x3 hP hD hS hl hw
      unfold wp_M_run_l2 at hw
      refine lv_iload_n hx hb d_M_run_2 rfl (lv_at hl 1 rfl) ?_
      refine lv_iload_n hx hb d_M_run_3 rfl (lv_at hl 3 rfl) ?_
      refine lv_iadd hx hb d_M_run_4 ?_
      refine lv_iload_n hx hb d_M_run_5 rfl (lv_at hl 2 rfl) ?_
      refine lv_icmp_ge hx hb d_M_run_6 rfl (fun hc => ?_) (fun hc => ?_)
      · have hw := hw.1 hc
        refine lv_iload_n hx hb d_M_run_32 rfl (lv_at hl 3 rfl) ?_
        exact hret _ _ _ _ _ () d_M_run_33 rfl hP hD hS hw
      · have hw := hw.2 hc
        refine lv_aload_n hx hb d_M_run_9 rfl (lv_at hl 0 rfl) ?_
        refine va_get (D := (dC, dI)) (ci := 10) (v := .ref (A_p0 15)) (C := R_M) (T := T_M) (N := 30) hx hb hg in_M hown hK hP 0 rfl rfl 15 (by decide) (hg _ t_773) (fun _ h9 => h9) rfl d_M_run_10 ?_
        refine lv_iload_n hx hb d_M_run_13 rfl (lv_at hl 1 rfl) ?_
        refine lv_iload_n hx hb d_M_run_14 rfl (lv_at hl 3 rfl) ?_
        refine lv_iadd hx hb d_M_run_15 ?_
        obtain ⟨hin, hw⟩ := hw
        refine va_iald hx hb hK hP 1 0 rfl rfl hin d_M_run_16 ?_
        refine lv_aload_n hx hb d_M_run_17 rfl (lv_at hl 0 rfl) ?_
        refine va_get (D := (dC, dI)) (ci := 10) (v := .ref (A_p0 15)) (C := R_M) (T := T_M) (N := 30) hx hb hg in_M hown hK hP 0 rfl rfl 15 (by decide) (hg _ t_773) (fun _ h9 => h9) rfl d_M_run_18 ?_
        refine lv_iload_n hx hb d_M_run_21 rfl (lv_at hl 1 rfl) ?_
        obtain ⟨hin, hw⟩ := hw
        refine va_iald hx hb hK hP 1 0 rfl rfl hin d_M_run_22 ?_
        refine lv_icmp_ne hx hb d_M_run_23 rfl (fun hc => ?_) (fun hc => ?_)
        · have hw := hw.2 hc
          refine lv_iload_n hx hb d_M_run_32 rfl (lv_at hl 3 rfl) ?_
          exact hret _ _ _ _ _ () d_M_run_33 rfl hP hD hS hw
        · have hw := hw.1 hc
          refine lv_iinc (k := 3) (v := (x3 + 1)) (lv' := [(3, .int (x3 + 1)), (0, .ref a_p0), (1, .int x1), (2, .int x2)]) hx hb d_M_run_26 hl rfl (congrArg (fun z => x3 + z) (by decide : Int32.ofInt 1 = 1)) (by decide) rfl (fun ls hl => ?_)
          refine lv_goto hx hb d_M_run_29 rfl ?_
          exact ih _ _ _ x1 x2 (x3 + 1) hP hD hS (lv_sub hl [1, 2, 3, 0] rfl) hw
  intro ls hl hP hD hS
  have hl : lv_has ls 4 [(0, .ref a_p0), (1, .int x1), (2, .int x2)] := hl
  unfold wp_M_run at hw
  refine lv_iconst (v := 0) hx hb d_M_run_0 (by decide) ?_
  refine lv_istore_n (lv' := [(3, .int 0), (0, .ref a_p0), (1, .int x1), (2, .int x2)]) hx hb d_M_run_1 rfl hl (by decide) rfl (fun ls hl => ?_)
  obtain ⟨n1, hw⟩ := hw
  exact l2 n1 _ _ _ x1 x2 0 hP hD hS (lv_sub hl [1, 2, 3, 0] rfl) hw
