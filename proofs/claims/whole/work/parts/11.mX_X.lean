theorem d_X_init_0 : decode b_X_init 0 = .ok (.aload_n 0, 1) := by decide +kernel
theorem d_X_init_1 : decode b_X_init 1 = .ok (.invokespecial 1, 3) := by decide +kernel
theorem d_X_init_4 : decode b_X_init 4 = .ok (.aload_n 0, 1) := by decide +kernel
theorem d_X_init_5 : decode b_X_init 5 = .ok (.new 7, 3) := by decide +kernel
theorem d_X_init_8 : decode b_X_init 8 = .ok (.dup, 1) := by decide +kernel
theorem d_X_init_9 : decode b_X_init 9 = .ok (.invokespecial 9, 3) := by decide +kernel
theorem d_X_init_12 : decode b_X_init 12 = .ok (.putfield 10, 3) := by decide +kernel
theorem d_X_init_15 : decode b_X_init 15 = .ok (.aload_n 0, 1) := by decide +kernel
theorem d_X_init_16 : decode b_X_init 16 = .ok (.new 16, 3) := by decide +kernel
theorem d_X_init_19 : decode b_X_init 19 = .ok (.dup, 1) := by decide +kernel
theorem d_X_init_20 : decode b_X_init 20 = .ok (.invokespecial 18, 3) := by decide +kernel
theorem d_X_init_23 : decode b_X_init 23 = .ok (.putfield 19, 3) := by decide +kernel
theorem d_X_init_26 : decode b_X_init 26 = .ok (.aload_n 0, 1) := by decide +kernel
theorem d_X_init_27 : decode b_X_init 27 = .ok (.new 23, 3) := by decide +kernel
theorem d_X_init_30 : decode b_X_init 30 = .ok (.dup, 1) := by decide +kernel
theorem d_X_init_31 : decode b_X_init 31 = .ok (.invokespecial 25, 3) := by decide +kernel
theorem d_X_init_34 : decode b_X_init 34 = .ok (.putfield 26, 3) := by decide +kernel
theorem d_X_init_37 : decode b_X_init 37 = .ok (.aload_n 0, 1) := by decide +kernel
theorem d_X_init_38 : decode b_X_init 38 = .ok (.new 30, 3) := by decide +kernel
theorem d_X_init_41 : decode b_X_init 41 = .ok (.dup, 1) := by decide +kernel
theorem d_X_init_42 : decode b_X_init 42 = .ok (.invokespecial 32, 3) := by decide +kernel
theorem d_X_init_45 : decode b_X_init 45 = .ok (.putfield 33, 3) := by decide +kernel
theorem d_X_init_48 : decode b_X_init 48 = .ok (.aload_n 0, 1) := by decide +kernel
theorem d_X_init_49 : decode b_X_init 49 = .ok (.new 37, 3) := by decide +kernel
theorem d_X_init_52 : decode b_X_init 52 = .ok (.dup, 1) := by decide +kernel
theorem d_X_init_53 : decode b_X_init 53 = .ok (.invokespecial 39, 3) := by decide +kernel
theorem d_X_init_56 : decode b_X_init 56 = .ok (.putfield 40, 3) := by decide +kernel
theorem d_X_init_59 : decode b_X_init 59 = .ok (.aload_n 0, 1) := by decide +kernel
theorem d_X_init_60 : decode b_X_init 60 = .ok (.new 44, 3) := by decide +kernel
theorem d_X_init_63 : decode b_X_init 63 = .ok (.dup, 1) := by decide +kernel
theorem d_X_init_64 : decode b_X_init 64 = .ok (.invokespecial 46, 3) := by decide +kernel
theorem d_X_init_67 : decode b_X_init 67 = .ok (.putfield 47, 3) := by decide +kernel
theorem d_X_init_70 : decode b_X_init 70 = .ok (.aload_n 0, 1) := by decide +kernel
theorem d_X_init_71 : decode b_X_init 71 = .ok (.new 51, 3) := by decide +kernel
theorem d_X_init_74 : decode b_X_init 74 = .ok (.dup, 1) := by decide +kernel
theorem d_X_init_75 : decode b_X_init 75 = .ok (.invokespecial 53, 3) := by decide +kernel
theorem d_X_init_78 : decode b_X_init 78 = .ok (.putfield 54, 3) := by decide +kernel
theorem d_X_init_81 : decode b_X_init 81 = .ok (.aload_n 0, 1) := by decide +kernel
theorem d_X_init_82 : decode b_X_init 82 = .ok (.new 58, 3) := by decide +kernel
theorem d_X_init_85 : decode b_X_init 85 = .ok (.dup, 1) := by decide +kernel
theorem d_X_init_86 : decode b_X_init 86 = .ok (.invokespecial 60, 3) := by decide +kernel
theorem d_X_init_89 : decode b_X_init 89 = .ok (.putfield 61, 3) := by decide +kernel
theorem d_X_init_92 : decode b_X_init 92 = .ok (.aload_n 0, 1) := by decide +kernel
theorem d_X_init_93 : decode b_X_init 93 = .ok (.new 65, 3) := by decide +kernel
theorem d_X_init_96 : decode b_X_init 96 = .ok (.dup, 1) := by decide +kernel
theorem d_X_init_97 : decode b_X_init 97 = .ok (.invokespecial 67, 3) := by decide +kernel
theorem d_X_init_100 : decode b_X_init 100 = .ok (.putfield 68, 3) := by decide +kernel
theorem d_X_init_103 : decode b_X_init 103 = .ok (.aload_n 0, 1) := by decide +kernel
theorem d_X_init_104 : decode b_X_init 104 = .ok (.new 65, 3) := by decide +kernel
theorem d_X_init_107 : decode b_X_init 107 = .ok (.dup, 1) := by decide +kernel
theorem d_X_init_108 : decode b_X_init 108 = .ok (.invokespecial 67, 3) := by decide +kernel
theorem d_X_init_111 : decode b_X_init 111 = .ok (.putfield 72, 3) := by decide +kernel
theorem d_X_init_114 : decode b_X_init 114 = .ok (.aload_n 0, 1) := by decide +kernel
theorem d_X_init_115 : decode b_X_init 115 = .ok (.new 65, 3) := by decide +kernel
theorem d_X_init_118 : decode b_X_init 118 = .ok (.dup, 1) := by decide +kernel
theorem d_X_init_119 : decode b_X_init 119 = .ok (.invokespecial 67, 3) := by decide +kernel
theorem d_X_init_122 : decode b_X_init 122 = .ok (.putfield 75, 3) := by decide +kernel
theorem d_X_init_125 : decode b_X_init 125 = .ok (.aload_n 0, 1) := by decide +kernel
theorem d_X_init_126 : decode b_X_init 126 = .ok (.bipush 16, 2) := by decide +kernel
theorem d_X_init_128 : decode b_X_init 128 = .ok (.newarray .int, 2) := by decide +kernel
theorem d_X_init_130 : decode b_X_init 130 = .ok (.putfield 78, 3) := by decide +kernel
theorem d_X_init_133 : decode b_X_init 133 = .ok (.aload_n 0, 1) := by decide +kernel
theorem d_X_init_134 : decode b_X_init 134 = .ok (.bipush 16, 2) := by decide +kernel
theorem d_X_init_136 : decode b_X_init 136 = .ok (.newarray .int, 2) := by decide +kernel
theorem d_X_init_138 : decode b_X_init 138 = .ok (.putfield 82, 3) := by decide +kernel
theorem d_X_init_141 : decode b_X_init 141 = .ok (.aload_n 0, 1) := by decide +kernel
theorem d_X_init_142 : decode b_X_init 142 = .ok (.iconst 2, 1) := by decide +kernel
theorem d_X_init_143 : decode b_X_init 143 = .ok (.newarray .int, 2) := by decide +kernel
theorem d_X_init_145 : decode b_X_init 145 = .ok (.putfield 85, 3) := by decide +kernel
theorem d_X_init_148 : decode b_X_init 148 = .ok (.aload_n 0, 1) := by decide +kernel
theorem d_X_init_149 : decode b_X_init 149 = .ok (.getfield 10, 3) := by decide +kernel
theorem d_X_init_152 : decode b_X_init 152 = .ok (.iconst 0, 1) := by decide +kernel
theorem d_X_init_153 : decode b_X_init 153 = .ok (.invokevirtual 88, 3) := by decide +kernel
theorem d_X_init_156 : decode b_X_init 156 = .ok (.aload_n 0, 1) := by decide +kernel
theorem d_X_init_157 : decode b_X_init 157 = .ok (.getfield 26, 3) := by decide +kernel
theorem d_X_init_160 : decode b_X_init 160 = .ok (.iconst 1, 1) := by decide +kernel
theorem d_X_init_161 : decode b_X_init 161 = .ok (.iconst 1, 1) := by decide +kernel
theorem d_X_init_162 : decode b_X_init 162 = .ok (.iconst 1, 1) := by decide +kernel
theorem d_X_init_163 : decode b_X_init 163 = .ok (.invokevirtual 92, 3) := by decide +kernel
theorem d_X_init_166 : decode b_X_init 166 = .ok (.return_, 1) := by decide +kernel
def wp_X_init (post : (Nat → Int32) → (Nat → Int32) → (Nat → Int32) → (Nat → Int32) → (Nat → Int32) → (Nat → Int32) → (Nat → Int32) → (Nat → Int32) → (Nat → Int32) → (Nat → Int64) → (Nat → Int32) → (Nat → Int32) → (Nat → Int32) → (Nat → Int32) → (Nat → Int32) → (Nat → Int32) → (Nat → Int32) → (Nat → Int32) → (Nat → Int32) → (Nat → Int32) → (Nat → Int64) → (Nat → Int32) → (Nat → Int64) → (Nat → Int32) → (Nat → Int32) → (Nat → Int32) → (Nat → Int32) → (Nat → Int32) → Prop) : Prop :=
  wp_St_init (fun (I_n5 : Nat → Int32) (f_n5_bytes : Nat → Int32) =>
    wp_Wk_init (fun (I_n16 : Nat → Int32) (f_n16_places : Nat → Int32) =>
      wp_Pi_init (fun (I_n27 : Nat → Int32) (f_n27_samples : Nat → Int32) =>
        wp_Lb_init (fun (I_n38 : Nat → Int32) (f_n38_characters : Nat → Int32) (f_n38_sizes : Nat → Int32) (f_n38_tags : Nat → Int32) =>
          wp_Ly_init (fun (I_n49 : Nat → Int32) =>
            wp_Da_init (fun (f_n60_bytes : Nat → Int32) =>
              wp_Ne_init (fun (I_n71 : Nat → Int32) (f_n71_firstChild : Nat → Int32) (f_n71_lastNibble : Nat → Int32) (f_n71_nextSibling : Nat → Int32) =>
                wp_Nd_init (fun (I_n82 : Nat → Int32) (f_n82_sizes : Nat → Int32) (f_n82_starts : Nat → Int32) =>
                  wp_En_init (fun (I_n93 : Nat → Int32) (L_n93 : Nat → Int64) =>
                    wp_En_init (fun (I_n104 : Nat → Int32) (L_n104 : Nat → Int64) =>
                      wp_En_init (fun (I_n115 : Nat → Int32) (L_n115 : Nat → Int64) =>
                        wp_St_restart (fun (I_n5_153 : Nat → Int32) (f_n5_bytes_153 : Nat → Int32) =>
                          wp_Pi_become (fun (I_n27_163 : Nat → Int32) (f_n27_samples_163 : Nat → Int32) =>
                            post f_n60_bytes I_n82 f_n82_sizes f_n82_starts I_n71 f_n71_firstChild f_n71_lastNibble f_n71_nextSibling I_n93 L_n93 I_n5_153 f_n5_bytes_153 I_n38 f_n38_characters f_n38_sizes f_n38_tags I_n49 I_n27_163 f_n27_samples_163 I_n115 L_n115 I_n104 L_n104 I_n16 f_n16_places (fun _ => 0) (fun _ => 0) (fun _ => 0)) I_n27 f_n27_samples 1 1 1) I_n5 f_n5_bytes 0)))))))))))
set_option maxRecDepth 100000 in
set_option maxHeartbeats 8000000 in
theorem c_X_init (l : Launch) (dC : Nat → ClassId) (dI : Nat → Nat → Nat) (cI : ClassId) (a_p0 : Nat) {post : (Nat → Int32) → (Nat → Int32) → (Nat → Int32) → (Nat → Int32) → (Nat → Int32) → (Nat → Int32) → (Nat → Int32) → (Nat → Int32) → (Nat → Int32) → (Nat → Int64) → (Nat → Int32) → (Nat → Int32) → (Nat → Int32) → (Nat → Int32) → (Nat → Int32) → (Nat → Int32) → (Nat → Int32) → (Nat → Int32) → (Nat → Int32) → (Nat → Int32) → (Nat → Int64) → (Nat → Int32) → (Nat → Int64) → (Nat → Int32) → (Nat → Int32) → (Nat → Int32) → (Nat → Int32) → (Nat → Int32) → Prop} (hw : wp_X_init post) : gm_v l y_X_init ws_X_init ({ frames := 3, cells := 26, slots := 2126, locals := 67 } : Room) (dC, dI) vwCl [(cI, .int)] [.ref a_p0] [(a_p0, .inr (9, [.null, .null, .null, .null, .null, .null, .null, .null, .null, .null, .null, .null, .null, .null]))] (fun (u : (Nat → Nat) × (Nat → Nat) × (Nat → Int32) × (Nat → Nat) × (Nat → Int32) × (Nat → Int32) × (Nat → Int32) × (Nat → Nat) × (Nat → Int32) × (Nat → Int32) × (Nat → Int32) × (Nat → Int32) × (Nat → Int32) × (Nat → Int64) × (Nat → Nat) × (Nat → Int32) × (Nat → Int32) × (Nat → Nat) × (Nat → Int32) × (Nat → Int32) × (Nat → Int32) × (Nat → Int32) × (Nat → Int32) × (Nat → Nat) × (Nat → Int32) × (Nat → Int32) × (Nat → Int32) × (Nat → Int64) × (Nat → Int32) × (Nat → Int64) × (Nat → Nat) × (Nat → Int32) × (Nat → Int32) × (Nat → Int32) × (Nat → Int32) × (Nat → Int32)) => [oX a_p0 u.1, oDa (u.1 5) u.2.1, gz cI (u.2.1 0) 256 u.2.2.1, oNd (u.1 7) u.2.2.2.1 u.2.2.2.2.1, gz cI (u.2.2.2.1 1) 110 u.2.2.2.2.2.1, gz cI (u.2.2.2.1 0) 110 u.2.2.2.2.2.2.1, oNe (u.1 6) u.2.2.2.2.2.2.2.1 u.2.2.2.2.2.2.2.2.1, gz cI (u.2.2.2.2.2.2.2.1 0) 127 u.2.2.2.2.2.2.2.2.2.1, gz cI (u.2.2.2.2.2.2.2.1 2) 127 u.2.2.2.2.2.2.2.2.2.2.1, gz cI (u.2.2.2.2.2.2.2.1 1) 127 u.2.2.2.2.2.2.2.2.2.2.2.1, oEn (u.1 8) u.2.2.2.2.2.2.2.2.2.2.2.2.1 u.2.2.2.2.2.2.2.2.2.2.2.2.2.1, oSt (u.1 0) u.2.2.2.2.2.2.2.2.2.2.2.2.2.2.1 u.2.2.2.2.2.2.2.2.2.2.2.2.2.2.2.1, gz cI (u.2.2.2.2.2.2.2.2.2.2.2.2.2.2.1 0) 900 u.2.2.2.2.2.2.2.2.2.2.2.2.2.2.2.2.1, oLb (u.1 3) u.2.2.2.2.2.2.2.2.2.2.2.2.2.2.2.2.2.1 u.2.2.2.2.2.2.2.2.2.2.2.2.2.2.2.2.2.2.1, gz cI (u.2.2.2.2.2.2.2.2.2.2.2.2.2.2.2.2.2.1 2) 24 u.2.2.2.2.2.2.2.2.2.2.2.2.2.2.2.2.2.2.2.1, gz cI (u.2.2.2.2.2.2.2.2.2.2.2.2.2.2.2.2.2.1 1) 2 u.2.2.2.2.2.2.2.2.2.2.2.2.2.2.2.2.2.2.2.2.1, gz cI (u.2.2.2.2.2.2.2.2.2.2.2.2.2.2.2.2.2.1 0) 2 u.2.2.2.2.2.2.2.2.2.2.2.2.2.2.2.2.2.2.2.2.2.1, oLy (u.1 4) u.2.2.2.2.2.2.2.2.2.2.2.2.2.2.2.2.2.2.2.2.2.2.1, oPi (u.1 2) u.2.2.2.2.2.2.2.2.2.2.2.2.2.2.2.2.2.2.2.2.2.2.2.1 u.2.2.2.2.2.2.2.2.2.2.2.2.2.2.2.2.2.2.2.2.2.2.2.2.1, gz cI (u.2.2.2.2.2.2.2.2.2.2.2.2.2.2.2.2.2.2.2.2.2.2.2.1 0) 256 u.2.2.2.2.2.2.2.2.2.2.2.2.2.2.2.2.2.2.2.2.2.2.2.2.2.1, oEn (u.1 10) u.2.2.2.2.2.2.2.2.2.2.2.2.2.2.2.2.2.2.2.2.2.2.2.2.2.2.1 u.2.2.2.2.2.2.2.2.2.2.2.2.2.2.2.2.2.2.2.2.2.2.2.2.2.2.2.1, oEn (u.1 9) u.2.2.2.2.2.2.2.2.2.2.2.2.2.2.2.2.2.2.2.2.2.2.2.2.2.2.2.2.1 u.2.2.2.2.2.2.2.2.2.2.2.2.2.2.2.2.2.2.2.2.2.2.2.2.2.2.2.2.2.1, oWk (u.1 1) u.2.2.2.2.2.2.2.2.2.2.2.2.2.2.2.2.2.2.2.2.2.2.2.2.2.2.2.2.2.2.1 u.2.2.2.2.2.2.2.2.2.2.2.2.2.2.2.2.2.2.2.2.2.2.2.2.2.2.2.2.2.2.2.1, gz cI (u.2.2.2.2.2.2.2.2.2.2.2.2.2.2.2.2.2.2.2.2.2.2.2.2.2.2.2.2.2.2.1 0) 8 u.2.2.2.2.2.2.2.2.2.2.2.2.2.2.2.2.2.2.2.2.2.2.2.2.2.2.2.2.2.2.2.2.1, gz cI (u.1 12) 16 u.2.2.2.2.2.2.2.2.2.2.2.2.2.2.2.2.2.2.2.2.2.2.2.2.2.2.2.2.2.2.2.2.2.1, gz cI (u.1 11) 16 u.2.2.2.2.2.2.2.2.2.2.2.2.2.2.2.2.2.2.2.2.2.2.2.2.2.2.2.2.2.2.2.2.2.2.1, gz cI (u.1 13) 2 u.2.2.2.2.2.2.2.2.2.2.2.2.2.2.2.2.2.2.2.2.2.2.2.2.2.2.2.2.2.2.2.2.2.2.2]) (fun (u : (Nat → Nat) × (Nat → Nat) × (Nat → Int32) × (Nat → Nat) × (Nat → Int32) × (Nat → Int32) × (Nat → Int32) × (Nat → Nat) × (Nat → Int32) × (Nat → Int32) × (Nat → Int32) × (Nat → Int32) × (Nat → Int32) × (Nat → Int64) × (Nat → Nat) × (Nat → Int32) × (Nat → Int32) × (Nat → Nat) × (Nat → Int32) × (Nat → Int32) × (Nat → Int32) × (Nat → Int32) × (Nat → Int32) × (Nat → Nat) × (Nat → Int32) × (Nat → Int32) × (Nat → Int32) × (Nat → Int64) × (Nat → Int32) × (Nat → Int64) × (Nat → Nat) × (Nat → Int32) × (Nat → Int32) × (Nat → Int32) × (Nat → Int32) × (Nat → Int32)) => post u.2.2.1 u.2.2.2.2.1 u.2.2.2.2.2.1 u.2.2.2.2.2.2.1 u.2.2.2.2.2.2.2.2.1 u.2.2.2.2.2.2.2.2.2.1 u.2.2.2.2.2.2.2.2.2.2.1 u.2.2.2.2.2.2.2.2.2.2.2.1 u.2.2.2.2.2.2.2.2.2.2.2.2.1 u.2.2.2.2.2.2.2.2.2.2.2.2.2.1 u.2.2.2.2.2.2.2.2.2.2.2.2.2.2.2.1 u.2.2.2.2.2.2.2.2.2.2.2.2.2.2.2.2.1 u.2.2.2.2.2.2.2.2.2.2.2.2.2.2.2.2.2.2.1 u.2.2.2.2.2.2.2.2.2.2.2.2.2.2.2.2.2.2.2.1 u.2.2.2.2.2.2.2.2.2.2.2.2.2.2.2.2.2.2.2.2.1 u.2.2.2.2.2.2.2.2.2.2.2.2.2.2.2.2.2.2.2.2.2.1 u.2.2.2.2.2.2.2.2.2.2.2.2.2.2.2.2.2.2.2.2.2.2.1 u.2.2.2.2.2.2.2.2.2.2.2.2.2.2.2.2.2.2.2.2.2.2.2.2.1 u.2.2.2.2.2.2.2.2.2.2.2.2.2.2.2.2.2.2.2.2.2.2.2.2.2.1 u.2.2.2.2.2.2.2.2.2.2.2.2.2.2.2.2.2.2.2.2.2.2.2.2.2.2.1 u.2.2.2.2.2.2.2.2.2.2.2.2.2.2.2.2.2.2.2.2.2.2.2.2.2.2.2.1 u.2.2.2.2.2.2.2.2.2.2.2.2.2.2.2.2.2.2.2.2.2.2.2.2.2.2.2.2.1 u.2.2.2.2.2.2.2.2.2.2.2.2.2.2.2.2.2.2.2.2.2.2.2.2.2.2.2.2.2.1 u.2.2.2.2.2.2.2.2.2.2.2.2.2.2.2.2.2.2.2.2.2.2.2.2.2.2.2.2.2.2.2.1 u.2.2.2.2.2.2.2.2.2.2.2.2.2.2.2.2.2.2.2.2.2.2.2.2.2.2.2.2.2.2.2.2.1 u.2.2.2.2.2.2.2.2.2.2.2.2.2.2.2.2.2.2.2.2.2.2.2.2.2.2.2.2.2.2.2.2.2.1 u.2.2.2.2.2.2.2.2.2.2.2.2.2.2.2.2.2.2.2.2.2.2.2.2.2.2.2.2.2.2.2.2.2.2.1 u.2.2.2.2.2.2.2.2.2.2.2.2.2.2.2.2.2.2.2.2.2.2.2.2.2.2.2.2.2.2.2.2.2.2.2) := by
  refine gm_vof (cc := b_X_init) (maxL := 1) (by decide) rfl (Nat.le_of_ble_eq_true rfl) ?_
  intro p e s m args below meth c A Q hx hb hml hown hg hK hN hA hnm hret
  have hown : s.vm.findClass R_X = some m.cls := hown
  intro ls hl hP hD hS
  have hl : lv_has ls 1 [(0, .ref a_p0)] := hl
  unfold wp_X_init at hw
  refine lv_aload_n hx hb d_X_init_0 rfl (lv_at hl 0 rfl) ?_
  refine W.objInit hx hb hown (hg _ t_79) (hg _ t_80) (hg _ t_81) rfl (by rw [hml]; exact hl.1) rfl d_X_init_1 (Nat.le_of_ble_eq_true rfl) (Nat.le_of_ble_eq_true rfl) ?_
  refine W.eq (g2 := F0 m 4 ls []) rfl ?_
  refine lv_aload_n hx hb d_X_init_4 rfl (lv_at hl 0 rfl) ?_
  refine va_new (ci := 7) (fs := [.null, .int 0, .int 0]) (C := R_St) (T := T_St) (N := 3) hx hb hg in_St t_St tok_St hown (hg _ t_82) (hg _ t_83) (hg _ t_61) hK hP hD hS hA rfl gz_defSt (Nat.le_of_ble_eq_true rfl) (Nat.le_of_ble_eq_true rfl) d_X_init_5 (fun a_n5 H hP hD hS => ?_)
  have hP : va_P (dC, dI) vwCl [(a_p0, .inr (9, [.null, .null, .null, .null, .null, .null, .null, .null, .null, .null, .null, .null, .null, .null])), (a_n5, .inr (7, [.null, .int 0, .int 0]))] H := hP
  have hD : va_D A [(a_p0, .inr (9, [.null, .null, .null, .null, .null, .null, .null, .null, .null, .null, .null, .null, .null, .null])), (a_n5, .inr (7, [.null, .int 0, .int 0]))] := hD
  refine lv_dup hx hb d_X_init_8 rfl ?_
  refine gc_v (wn := fun u => [(a_p0, .inr (9, [.null, .null, .null, .null, .null, .null, .null, .null, .null, .null, .null, .null, .null, .null])), oSt a_n5 u.1 u.2.1, gz cI (u.1 0) 900 u.2.2]) (wr := [(a_p0, .inr (9, [.null, .null, .null, .null, .null, .null, .null, .null, .null, .null, .null, .null, .null, .null]))]) (gr_IN (As := []) (rest := [.ref a_n5, .ref a_p0]) ⟨hx, hb, hml, hown, hg⟩ (c_St_init l dC dI cI a_n5 hw _) ⟨va_cnB (host := "TaggedRaster") 0 hg (gg_B t_86) rfl rfl rfl (hN _ nw_0) (hg _ t_61) (by decide +kernel) ⟨Nat.le_of_ble_eq_true rfl, Nat.le_of_ble_eq_true rfl⟩, rfl, hg _ t_85⟩ hK hN hP hD [1] (by decide) rfl rfl hl.1 rfl (Nat.le_of_ble_eq_true rfl) d_X_init_9 ⟨Nat.le_of_ble_eq_true rfl, Nat.le_of_ble_eq_true rfl⟩) rfl rfl hP hD hS hA [1] [0] [0, 1, 2] rfl rfl (by decide) (by decide) (by decide) (fun _ => rfl) ?_
  intro u9 H locs hw hP hD hS
  obtain ⟨A_n5, I_n5, f_n5_bytes⟩ := u9
  try dsimp only at hw
  have hP : va_P (dC, dI) vwCl [(a_p0, .inr (9, [.null, .null, .null, .null, .null, .null, .null, .null, .null, .null, .null, .null, .null, .null])), oSt a_n5 A_n5 I_n5, gz cI (A_n5 0) 900 f_n5_bytes] H := hP
  have hD : va_D A [(a_p0, .inr (9, [.null, .null, .null, .null, .null, .null, .null, .null, .null, .null, .null, .null, .null, .null])), oSt a_n5 A_n5 I_n5, gz cI (A_n5 0) 900 f_n5_bytes] := hD
  refine va_putF (D := (dC, dI)) (ci := 9) (v := .ref a_n5) (ty := (.object "TaggedRaster$Store")) (C := R_X) (T := T_X) (N := 14) hx hb hg in_X t_X tok_X nok_X hown hK hP hD hS 0 rfl rfl 0 (by decide) (hg _ t_307) (fun _ h9 => h9) rfl hnm rfl (by decide +kernel) rfl rfl (Nat.le_of_ble_eq_true rfl) d_X_init_12 (fun H locs hP hD hS => ?_)
  have hP : va_P (dC, dI) vwCl [(a_p0, .inr (9, [.ref a_n5, .null, .null, .null, .null, .null, .null, .null, .null, .null, .null, .null, .null, .null])), oSt a_n5 A_n5 I_n5, gz cI (A_n5 0) 900 f_n5_bytes] H := hP
  have hD : va_D A [(a_p0, .inr (9, [.ref a_n5, .null, .null, .null, .null, .null, .null, .null, .null, .null, .null, .null, .null, .null])), oSt a_n5 A_n5 I_n5, gz cI (A_n5 0) 900 f_n5_bytes] := hD
  refine lv_aload_n hx hb d_X_init_15 rfl (lv_at hl 0 rfl) ?_
  refine va_new (ci := 8) (fs := [.null, .int 0, .int 0, .int 0]) (C := R_Wk) (T := T_Wk) (N := 4) hx hb hg in_Wk t_Wk tok_Wk hown (hg _ t_106) (hg _ t_107) (hg _ t_62) hK hP hD hS hA rfl gz_defWk (Nat.le_of_ble_eq_true rfl) (Nat.le_of_ble_eq_true rfl) d_X_init_16 (fun a_n16 H hP hD hS => ?_)
  have hP : va_P (dC, dI) vwCl [(a_p0, .inr (9, [.ref a_n5, .null, .null, .null, .null, .null, .null, .null, .null, .null, .null, .null, .null, .null])), oSt a_n5 A_n5 I_n5, gz cI (A_n5 0) 900 f_n5_bytes, (a_n16, .inr (8, [.null, .int 0, .int 0, .int 0]))] H := hP
  have hD : va_D A [(a_p0, .inr (9, [.ref a_n5, .null, .null, .null, .null, .null, .null, .null, .null, .null, .null, .null, .null, .null])), oSt a_n5 A_n5 I_n5, gz cI (A_n5 0) 900 f_n5_bytes, (a_n16, .inr (8, [.null, .int 0, .int 0, .int 0]))] := hD
  refine lv_dup hx hb d_X_init_19 rfl ?_
  refine gc_v (wn := fun u => [(a_p0, .inr (9, [.ref a_n5, .null, .null, .null, .null, .null, .null, .null, .null, .null, .null, .null, .null, .null])), oSt a_n5 A_n5 I_n5, gz cI (A_n5 0) 900 f_n5_bytes, oWk a_n16 u.1 u.2.1, gz cI (u.1 0) 8 u.2.2]) (wr := [(a_p0, .inr (9, [.ref a_n5, .null, .null, .null, .null, .null, .null, .null, .null, .null, .null, .null, .null, .null])), oSt a_n5 A_n5 I_n5, gz cI (A_n5 0) 900 f_n5_bytes]) (gr_IN (As := []) (rest := [.ref a_n16, .ref a_p0]) ⟨hx, hb, hml, hown, hg⟩ (c_Wk_init l dC dI cI a_n16 hw _) ⟨va_cnB (host := "TaggedRaster") 0 hg (gg_B t_110) rfl rfl rfl (hN _ nw_1) (hg _ t_62) (by decide +kernel) ⟨Nat.le_of_ble_eq_true rfl, Nat.le_of_ble_eq_true rfl⟩, rfl, hg _ t_109⟩ hK hN hP hD [3] (by decide) rfl rfl hl.1 rfl (Nat.le_of_ble_eq_true rfl) d_X_init_20 ⟨Nat.le_of_ble_eq_true rfl, Nat.le_of_ble_eq_true rfl⟩) rfl rfl hP hD hS hA [3] [0, 1, 2] [0, 1, 2, 3, 4] rfl rfl (by decide) (by decide) (by decide) (fun _ => rfl) ?_
  intro u9 H locs hw hP hD hS
  obtain ⟨A_n16, I_n16, f_n16_places⟩ := u9
  try dsimp only at hw
  have hP : va_P (dC, dI) vwCl [(a_p0, .inr (9, [.ref a_n5, .null, .null, .null, .null, .null, .null, .null, .null, .null, .null, .null, .null, .null])), oSt a_n5 A_n5 I_n5, gz cI (A_n5 0) 900 f_n5_bytes, oWk a_n16 A_n16 I_n16, gz cI (A_n16 0) 8 f_n16_places] H := hP
  have hD : va_D A [(a_p0, .inr (9, [.ref a_n5, .null, .null, .null, .null, .null, .null, .null, .null, .null, .null, .null, .null, .null])), oSt a_n5 A_n5 I_n5, gz cI (A_n5 0) 900 f_n5_bytes, oWk a_n16 A_n16 I_n16, gz cI (A_n16 0) 8 f_n16_places] := hD
  refine va_putF (D := (dC, dI)) (ci := 9) (v := .ref a_n16) (ty := (.object "TaggedRaster$Walk")) (C := R_X) (T := T_X) (N := 14) hx hb hg in_X t_X tok_X nok_X hown hK hP hD hS 0 rfl rfl 1 (by decide) (hg _ t_308) (fun _ h9 => h9) rfl hnm rfl (by decide +kernel) rfl rfl (Nat.le_of_ble_eq_true rfl) d_X_init_23 (fun H locs hP hD hS => ?_)
  have hP : va_P (dC, dI) vwCl [(a_p0, .inr (9, [.ref a_n5, .ref a_n16, .null, .null, .null, .null, .null, .null, .null, .null, .null, .null, .null, .null])), oSt a_n5 A_n5 I_n5, gz cI (A_n5 0) 900 f_n5_bytes, oWk a_n16 A_n16 I_n16, gz cI (A_n16 0) 8 f_n16_places] H := hP
  have hD : va_D A [(a_p0, .inr (9, [.ref a_n5, .ref a_n16, .null, .null, .null, .null, .null, .null, .null, .null, .null, .null, .null, .null])), oSt a_n5 A_n5 I_n5, gz cI (A_n5 0) 900 f_n5_bytes, oWk a_n16 A_n16 I_n16, gz cI (A_n16 0) 8 f_n16_places] := hD
  refine lv_aload_n hx hb d_X_init_26 rfl (lv_at hl 0 rfl) ?_
  refine va_new (ci := 6) (fs := [.null, .int 0, .int 0, .int 0]) (C := R_Pi) (T := T_Pi) (N := 4) hx hb hg in_Pi t_Pi tok_Pi hown (hg _ t_129) (hg _ t_130) (hg _ t_63) hK hP hD hS hA rfl gz_defPi (Nat.le_of_ble_eq_true rfl) (Nat.le_of_ble_eq_true rfl) d_X_init_27 (fun a_n27 H hP hD hS => ?_)
  have hP : va_P (dC, dI) vwCl [(a_p0, .inr (9, [.ref a_n5, .ref a_n16, .null, .null, .null, .null, .null, .null, .null, .null, .null, .null, .null, .null])), oSt a_n5 A_n5 I_n5, gz cI (A_n5 0) 900 f_n5_bytes, oWk a_n16 A_n16 I_n16, gz cI (A_n16 0) 8 f_n16_places, (a_n27, .inr (6, [.null, .int 0, .int 0, .int 0]))] H := hP
  have hD : va_D A [(a_p0, .inr (9, [.ref a_n5, .ref a_n16, .null, .null, .null, .null, .null, .null, .null, .null, .null, .null, .null, .null])), oSt a_n5 A_n5 I_n5, gz cI (A_n5 0) 900 f_n5_bytes, oWk a_n16 A_n16 I_n16, gz cI (A_n16 0) 8 f_n16_places, (a_n27, .inr (6, [.null, .int 0, .int 0, .int 0]))] := hD
  refine lv_dup hx hb d_X_init_30 rfl ?_
  refine gc_v (wn := fun u => [(a_p0, .inr (9, [.ref a_n5, .ref a_n16, .null, .null, .null, .null, .null, .null, .null, .null, .null, .null, .null, .null])), oSt a_n5 A_n5 I_n5, gz cI (A_n5 0) 900 f_n5_bytes, oWk a_n16 A_n16 I_n16, gz cI (A_n16 0) 8 f_n16_places, oPi a_n27 u.1 u.2.1, gz cI (u.1 0) 256 u.2.2]) (wr := [(a_p0, .inr (9, [.ref a_n5, .ref a_n16, .null, .null, .null, .null, .null, .null, .null, .null, .null, .null, .null, .null])), oSt a_n5 A_n5 I_n5, gz cI (A_n5 0) 900 f_n5_bytes, oWk a_n16 A_n16 I_n16, gz cI (A_n16 0) 8 f_n16_places]) (gr_IN (As := []) (rest := [.ref a_n27, .ref a_p0]) ⟨hx, hb, hml, hown, hg⟩ (c_Pi_init l dC dI cI a_n27 hw _) ⟨va_cnB (host := "TaggedRaster") 0 hg (gg_B t_133) rfl rfl rfl (hN _ nw_2) (hg _ t_63) (by decide +kernel) ⟨Nat.le_of_ble_eq_true rfl, Nat.le_of_ble_eq_true rfl⟩, rfl, hg _ t_132⟩ hK hN hP hD [5] (by decide) rfl rfl hl.1 rfl (Nat.le_of_ble_eq_true rfl) d_X_init_31 ⟨Nat.le_of_ble_eq_true rfl, Nat.le_of_ble_eq_true rfl⟩) rfl rfl hP hD hS hA [5] [0, 1, 2, 3, 4] [0, 1, 2, 3, 4, 5, 6] rfl rfl (by decide) (by decide) (by decide) (fun _ => rfl) ?_
  intro u9 H locs hw hP hD hS
  obtain ⟨A_n27, I_n27, f_n27_samples⟩ := u9
  try dsimp only at hw
  have hP : va_P (dC, dI) vwCl [(a_p0, .inr (9, [.ref a_n5, .ref a_n16, .null, .null, .null, .null, .null, .null, .null, .null, .null, .null, .null, .null])), oSt a_n5 A_n5 I_n5, gz cI (A_n5 0) 900 f_n5_bytes, oWk a_n16 A_n16 I_n16, gz cI (A_n16 0) 8 f_n16_places, oPi a_n27 A_n27 I_n27, gz cI (A_n27 0) 256 f_n27_samples] H := hP
  have hD : va_D A [(a_p0, .inr (9, [.ref a_n5, .ref a_n16, .null, .null, .null, .null, .null, .null, .null, .null, .null, .null, .null, .null])), oSt a_n5 A_n5 I_n5, gz cI (A_n5 0) 900 f_n5_bytes, oWk a_n16 A_n16 I_n16, gz cI (A_n16 0) 8 f_n16_places, oPi a_n27 A_n27 I_n27, gz cI (A_n27 0) 256 f_n27_samples] := hD
  refine va_putF (D := (dC, dI)) (ci := 9) (v := .ref a_n27) (ty := (.object "TaggedRaster$Picture")) (C := R_X) (T := T_X) (N := 14) hx hb hg in_X t_X tok_X nok_X hown hK hP hD hS 0 rfl rfl 2 (by decide) (hg _ t_309) (fun _ h9 => h9) rfl hnm rfl (by decide +kernel) rfl rfl (Nat.le_of_ble_eq_true rfl) d_X_init_34 (fun H locs hP hD hS => ?_)
  have hP : va_P (dC, dI) vwCl [(a_p0, .inr (9, [.ref a_n5, .ref a_n16, .ref a_n27, .null, .null, .null, .null, .null, .null, .null, .null, .null, .null, .null])), oSt a_n5 A_n5 I_n5, gz cI (A_n5 0) 900 f_n5_bytes, oWk a_n16 A_n16 I_n16, gz cI (A_n16 0) 8 f_n16_places, oPi a_n27 A_n27 I_n27, gz cI (A_n27 0) 256 f_n27_samples] H := hP
  have hD : va_D A [(a_p0, .inr (9, [.ref a_n5, .ref a_n16, .ref a_n27, .null, .null, .null, .null, .null, .null, .null, .null, .null, .null, .null])), oSt a_n5 A_n5 I_n5, gz cI (A_n5 0) 900 f_n5_bytes, oWk a_n16 A_n16 I_n16, gz cI (A_n16 0) 8 f_n16_places, oPi a_n27 A_n27 I_n27, gz cI (A_n27 0) 256 f_n27_samples] := hD
  refine lv_aload_n hx hb d_X_init_37 rfl (lv_at hl 0 rfl) ?_
  refine va_new (ci := 2) (fs := [.null, .null, .null, .int 0]) (C := R_Lb) (T := T_Lb) (N := 4) hx hb hg in_Lb t_Lb tok_Lb hown (hg _ t_151) (hg _ t_152) (hg _ t_64) hK hP hD hS hA rfl gz_defLb (Nat.le_of_ble_eq_true rfl) (Nat.le_of_ble_eq_true rfl) d_X_init_38 (fun a_n38 H hP hD hS => ?_)
  have hP : va_P (dC, dI) vwCl [(a_p0, .inr (9, [.ref a_n5, .ref a_n16, .ref a_n27, .null, .null, .null, .null, .null, .null, .null, .null, .null, .null, .null])), oSt a_n5 A_n5 I_n5, gz cI (A_n5 0) 900 f_n5_bytes, oWk a_n16 A_n16 I_n16, gz cI (A_n16 0) 8 f_n16_places, oPi a_n27 A_n27 I_n27, gz cI (A_n27 0) 256 f_n27_samples, (a_n38, .inr (2, [.null, .null, .null, .int 0]))] H := hP
  have hD : va_D A [(a_p0, .inr (9, [.ref a_n5, .ref a_n16, .ref a_n27, .null, .null, .null, .null, .null, .null, .null, .null, .null, .null, .null])), oSt a_n5 A_n5 I_n5, gz cI (A_n5 0) 900 f_n5_bytes, oWk a_n16 A_n16 I_n16, gz cI (A_n16 0) 8 f_n16_places, oPi a_n27 A_n27 I_n27, gz cI (A_n27 0) 256 f_n27_samples, (a_n38, .inr (2, [.null, .null, .null, .int 0]))] := hD
  refine lv_dup hx hb d_X_init_41 rfl ?_
  refine gc_v (wn := fun u => [(a_p0, .inr (9, [.ref a_n5, .ref a_n16, .ref a_n27, .null, .null, .null, .null, .null, .null, .null, .null, .null, .null, .null])), oSt a_n5 A_n5 I_n5, gz cI (A_n5 0) 900 f_n5_bytes, oWk a_n16 A_n16 I_n16, gz cI (A_n16 0) 8 f_n16_places, oPi a_n27 A_n27 I_n27, gz cI (A_n27 0) 256 f_n27_samples, oLb a_n38 u.1 u.2.1, gz cI (u.1 2) 24 u.2.2.1, gz cI (u.1 1) 2 u.2.2.2.1, gz cI (u.1 0) 2 u.2.2.2.2]) (wr := [(a_p0, .inr (9, [.ref a_n5, .ref a_n16, .ref a_n27, .null, .null, .null, .null, .null, .null, .null, .null, .null, .null, .null])), oSt a_n5 A_n5 I_n5, gz cI (A_n5 0) 900 f_n5_bytes, oWk a_n16 A_n16 I_n16, gz cI (A_n16 0) 8 f_n16_places, oPi a_n27 A_n27 I_n27, gz cI (A_n27 0) 256 f_n27_samples]) (gr_IN (As := []) (rest := [.ref a_n38, .ref a_p0]) ⟨hx, hb, hml, hown, hg⟩ (c_Lb_init l dC dI cI a_n38 hw _) ⟨va_cnB (host := "TaggedRaster") 0 hg (gg_B t_155) rfl rfl rfl (hN _ nw_3) (hg _ t_64) (by decide +kernel) ⟨Nat.le_of_ble_eq_true rfl, Nat.le_of_ble_eq_true rfl⟩, rfl, hg _ t_154⟩ hK hN hP hD [7] (by decide) rfl rfl hl.1 rfl (Nat.le_of_ble_eq_true rfl) d_X_init_42 ⟨Nat.le_of_ble_eq_true rfl, Nat.le_of_ble_eq_true rfl⟩) rfl rfl hP hD hS hA [7] [0, 1, 2, 3, 4, 5, 6] [0, 1, 2, 3, 4, 5, 6, 7, 8, 9, 10] rfl rfl (by decide) (by decide) (by decide) (fun _ => rfl) ?_
  intro u9 H locs hw hP hD hS
  obtain ⟨A_n38, I_n38, f_n38_characters, f_n38_sizes, f_n38_tags⟩ := u9
  try dsimp only at hw
  have hP : va_P (dC, dI) vwCl [(a_p0, .inr (9, [.ref a_n5, .ref a_n16, .ref a_n27, .null, .null, .null, .null, .null, .null, .null, .null, .null, .null, .null])), oSt a_n5 A_n5 I_n5, gz cI (A_n5 0) 900 f_n5_bytes, oWk a_n16 A_n16 I_n16, gz cI (A_n16 0) 8 f_n16_places, oPi a_n27 A_n27 I_n27, gz cI (A_n27 0) 256 f_n27_samples, oLb a_n38 A_n38 I_n38, gz cI (A_n38 2) 24 f_n38_characters, gz cI (A_n38 1) 2 f_n38_sizes, gz cI (A_n38 0) 2 f_n38_tags] H := hP
  have hD : va_D A [(a_p0, .inr (9, [.ref a_n5, .ref a_n16, .ref a_n27, .null, .null, .null, .null, .null, .null, .null, .null, .null, .null, .null])), oSt a_n5 A_n5 I_n5, gz cI (A_n5 0) 900 f_n5_bytes, oWk a_n16 A_n16 I_n16, gz cI (A_n16 0) 8 f_n16_places, oPi a_n27 A_n27 I_n27, gz cI (A_n27 0) 256 f_n27_samples, oLb a_n38 A_n38 I_n38, gz cI (A_n38 2) 24 f_n38_characters, gz cI (A_n38 1) 2 f_n38_sizes, gz cI (A_n38 0) 2 f_n38_tags] := hD
  refine va_putF (D := (dC, dI)) (ci := 9) (v := .ref a_n38) (ty := (.object "TaggedRaster$Labels")) (C := R_X) (T := T_X) (N := 14) hx hb hg in_X t_X tok_X nok_X hown hK hP hD hS 0 rfl rfl 3 (by decide) (hg _ t_310) (fun _ h9 => h9) rfl hnm rfl (by decide +kernel) rfl rfl (Nat.le_of_ble_eq_true rfl) d_X_init_45 (fun H locs hP hD hS => ?_)
  have hP : va_P (dC, dI) vwCl [(a_p0, .inr (9, [.ref a_n5, .ref a_n16, .ref a_n27, .ref a_n38, .null, .null, .null, .null, .null, .null, .null, .null, .null, .null])), oSt a_n5 A_n5 I_n5, gz cI (A_n5 0) 900 f_n5_bytes, oWk a_n16 A_n16 I_n16, gz cI (A_n16 0) 8 f_n16_places, oPi a_n27 A_n27 I_n27, gz cI (A_n27 0) 256 f_n27_samples, oLb a_n38 A_n38 I_n38, gz cI (A_n38 2) 24 f_n38_characters, gz cI (A_n38 1) 2 f_n38_sizes, gz cI (A_n38 0) 2 f_n38_tags] H := hP
  have hD : va_D A [(a_p0, .inr (9, [.ref a_n5, .ref a_n16, .ref a_n27, .ref a_n38, .null, .null, .null, .null, .null, .null, .null, .null, .null, .null])), oSt a_n5 A_n5 I_n5, gz cI (A_n5 0) 900 f_n5_bytes, oWk a_n16 A_n16 I_n16, gz cI (A_n16 0) 8 f_n16_places, oPi a_n27 A_n27 I_n27, gz cI (A_n27 0) 256 f_n27_samples, oLb a_n38 A_n38 I_n38, gz cI (A_n38 2) 24 f_n38_characters, gz cI (A_n38 1) 2 f_n38_sizes, gz cI (A_n38 0) 2 f_n38_tags] := hD
  refine lv_aload_n hx hb d_X_init_48 rfl (lv_at hl 0 rfl) ?_
  refine va_new (ci := 3) (fs := [.int 0, .int 0, .int 0, .int 0, .int 0, .int 0]) (C := R_Ly) (T := T_Ly) (N := 6) hx hb hg in_Ly t_Ly tok_Ly hown (hg _ t_172) (hg _ t_173) (hg _ t_65) hK hP hD hS hA rfl gz_defLy (Nat.le_of_ble_eq_true rfl) (Nat.le_of_ble_eq_true rfl) d_X_init_49 (fun a_n49 H hP hD hS => ?_)
  have hP : va_P (dC, dI) vwCl [(a_p0, .inr (9, [.ref a_n5, .ref a_n16, .ref a_n27, .ref a_n38, .null, .null, .null, .null, .null, .null, .null, .null, .null, .null])), oSt a_n5 A_n5 I_n5, gz cI (A_n5 0) 900 f_n5_bytes, oWk a_n16 A_n16 I_n16, gz cI (A_n16 0) 8 f_n16_places, oPi a_n27 A_n27 I_n27, gz cI (A_n27 0) 256 f_n27_samples, oLb a_n38 A_n38 I_n38, gz cI (A_n38 2) 24 f_n38_characters, gz cI (A_n38 1) 2 f_n38_sizes, gz cI (A_n38 0) 2 f_n38_tags, (a_n49, .inr (3, [.int 0, .int 0, .int 0, .int 0, .int 0, .int 0]))] H := hP
  have hD : va_D A [(a_p0, .inr (9, [.ref a_n5, .ref a_n16, .ref a_n27, .ref a_n38, .null, .null, .null, .null, .null, .null, .null, .null, .null, .null])), oSt a_n5 A_n5 I_n5, gz cI (A_n5 0) 900 f_n5_bytes, oWk a_n16 A_n16 I_n16, gz cI (A_n16 0) 8 f_n16_places, oPi a_n27 A_n27 I_n27, gz cI (A_n27 0) 256 f_n27_samples, oLb a_n38 A_n38 I_n38, gz cI (A_n38 2) 24 f_n38_characters, gz cI (A_n38 1) 2 f_n38_sizes, gz cI (A_n38 0) 2 f_n38_tags, (a_n49, .inr (3, [.int 0, .int 0, .int 0, .int 0, .int 0, .int 0]))] := hD
  refine lv_dup hx hb d_X_init_52 rfl ?_
  refine gc_v (wn := fun u => [(a_p0, .inr (9, [.ref a_n5, .ref a_n16, .ref a_n27, .ref a_n38, .null, .null, .null, .null, .null, .null, .null, .null, .null, .null])), oSt a_n5 A_n5 I_n5, gz cI (A_n5 0) 900 f_n5_bytes, oWk a_n16 A_n16 I_n16, gz cI (A_n16 0) 8 f_n16_places, oPi a_n27 A_n27 I_n27, gz cI (A_n27 0) 256 f_n27_samples, oLb a_n38 A_n38 I_n38, gz cI (A_n38 2) 24 f_n38_characters, gz cI (A_n38 1) 2 f_n38_sizes, gz cI (A_n38 0) 2 f_n38_tags, oLy a_n49 u]) (wr := [(a_p0, .inr (9, [.ref a_n5, .ref a_n16, .ref a_n27, .ref a_n38, .null, .null, .null, .null, .null, .null, .null, .null, .null, .null])), oSt a_n5 A_n5 I_n5, gz cI (A_n5 0) 900 f_n5_bytes, oWk a_n16 A_n16 I_n16, gz cI (A_n16 0) 8 f_n16_places, oPi a_n27 A_n27 I_n27, gz cI (A_n27 0) 256 f_n27_samples, oLb a_n38 A_n38 I_n38, gz cI (A_n38 2) 24 f_n38_characters, gz cI (A_n38 1) 2 f_n38_sizes, gz cI (A_n38 0) 2 f_n38_tags]) (gr_IN (As := []) (rest := [.ref a_n49, .ref a_p0]) ⟨hx, hb, hml, hown, hg⟩ (c_Ly_init l dC dI cI a_n49 hw _) ⟨va_cnB (host := "TaggedRaster") 0 hg (gg_B t_176) rfl rfl rfl (hN _ nw_4) (hg _ t_65) (by decide +kernel) ⟨Nat.le_of_ble_eq_true rfl, Nat.le_of_ble_eq_true rfl⟩, rfl, hg _ t_175⟩ hK hN hP hD [11] (by decide) rfl rfl hl.1 rfl (Nat.le_of_ble_eq_true rfl) d_X_init_53 ⟨Nat.le_of_ble_eq_true rfl, Nat.le_of_ble_eq_true rfl⟩) rfl rfl hP hD hS hA [11] [0, 1, 2, 3, 4, 5, 6, 7, 8, 9, 10] [0, 1, 2, 3, 4, 5, 6, 7, 8, 9, 10, 11] rfl rfl (by decide) (by decide) (by decide) (fun _ => rfl) ?_
  intro I_n49 H locs hw hP hD hS
  try dsimp only at hw
  have hP : va_P (dC, dI) vwCl [(a_p0, .inr (9, [.ref a_n5, .ref a_n16, .ref a_n27, .ref a_n38, .null, .null, .null, .null, .null, .null, .null, .null, .null, .null])), oSt a_n5 A_n5 I_n5, gz cI (A_n5 0) 900 f_n5_bytes, oWk a_n16 A_n16 I_n16, gz cI (A_n16 0) 8 f_n16_places, oPi a_n27 A_n27 I_n27, gz cI (A_n27 0) 256 f_n27_samples, oLb a_n38 A_n38 I_n38, gz cI (A_n38 2) 24 f_n38_characters, gz cI (A_n38 1) 2 f_n38_sizes, gz cI (A_n38 0) 2 f_n38_tags, oLy a_n49 I_n49] H := hP
  have hD : va_D A [(a_p0, .inr (9, [.ref a_n5, .ref a_n16, .ref a_n27, .ref a_n38, .null, .null, .null, .null, .null, .null, .null, .null, .null, .null])), oSt a_n5 A_n5 I_n5, gz cI (A_n5 0) 900 f_n5_bytes, oWk a_n16 A_n16 I_n16, gz cI (A_n16 0) 8 f_n16_places, oPi a_n27 A_n27 I_n27, gz cI (A_n27 0) 256 f_n27_samples, oLb a_n38 A_n38 I_n38, gz cI (A_n38 2) 24 f_n38_characters, gz cI (A_n38 1) 2 f_n38_sizes, gz cI (A_n38 0) 2 f_n38_tags, oLy a_n49 I_n49] := hD
  refine va_putF (D := (dC, dI)) (ci := 9) (v := .ref a_n49) (ty := (.object "TaggedRaster$Layout")) (C := R_X) (T := T_X) (N := 14) hx hb hg in_X t_X tok_X nok_X hown hK hP hD hS 0 rfl rfl 4 (by decide) (hg _ t_311) (fun _ h9 => h9) rfl hnm rfl (by decide +kernel) rfl rfl (Nat.le_of_ble_eq_true rfl) d_X_init_56 (fun H locs hP hD hS => ?_)
  have hP : va_P (dC, dI) vwCl [(a_p0, .inr (9, [.ref a_n5, .ref a_n16, .ref a_n27, .ref a_n38, .ref a_n49, .null, .null, .null, .null, .null, .null, .null, .null, .null])), oSt a_n5 A_n5 I_n5, gz cI (A_n5 0) 900 f_n5_bytes, oWk a_n16 A_n16 I_n16, gz cI (A_n16 0) 8 f_n16_places, oPi a_n27 A_n27 I_n27, gz cI (A_n27 0) 256 f_n27_samples, oLb a_n38 A_n38 I_n38, gz cI (A_n38 2) 24 f_n38_characters, gz cI (A_n38 1) 2 f_n38_sizes, gz cI (A_n38 0) 2 f_n38_tags, oLy a_n49 I_n49] H := hP
  have hD : va_D A [(a_p0, .inr (9, [.ref a_n5, .ref a_n16, .ref a_n27, .ref a_n38, .ref a_n49, .null, .null, .null, .null, .null, .null, .null, .null, .null])), oSt a_n5 A_n5 I_n5, gz cI (A_n5 0) 900 f_n5_bytes, oWk a_n16 A_n16 I_n16, gz cI (A_n16 0) 8 f_n16_places, oPi a_n27 A_n27 I_n27, gz cI (A_n27 0) 256 f_n27_samples, oLb a_n38 A_n38 I_n38, gz cI (A_n38 2) 24 f_n38_characters, gz cI (A_n38 1) 2 f_n38_sizes, gz cI (A_n38 0) 2 f_n38_tags, oLy a_n49 I_n49] := hD
  refine lv_aload_n hx hb d_X_init_59 rfl (lv_at hl 0 rfl) ?_
  refine va_new (ci := 0) (fs := [.null]) (C := R_Da) (T := T_Da) (N := 1) hx hb hg in_Da t_Da tok_Da hown (hg _ t_207) (hg _ t_208) (hg _ t_66) hK hP hD hS hA rfl gz_defDa (Nat.le_of_ble_eq_true rfl) (Nat.le_of_ble_eq_true rfl) d_X_init_60 (fun a_n60 H hP hD hS => ?_)
  have hP : va_P (dC, dI) vwCl [(a_p0, .inr (9, [.ref a_n5, .ref a_n16, .ref a_n27, .ref a_n38, .ref a_n49, .null, .null, .null, .null, .null, .null, .null, .null, .null])), oSt a_n5 A_n5 I_n5, gz cI (A_n5 0) 900 f_n5_bytes, oWk a_n16 A_n16 I_n16, gz cI (A_n16 0) 8 f_n16_places, oPi a_n27 A_n27 I_n27, gz cI (A_n27 0) 256 f_n27_samples, oLb a_n38 A_n38 I_n38, gz cI (A_n38 2) 24 f_n38_characters, gz cI (A_n38 1) 2 f_n38_sizes, gz cI (A_n38 0) 2 f_n38_tags, oLy a_n49 I_n49, (a_n60, .inr (0, [.null]))] H := hP
  have hD : va_D A [(a_p0, .inr (9, [.ref a_n5, .ref a_n16, .ref a_n27, .ref a_n38, .ref a_n49, .null, .null, .null, .null, .null, .null, .null, .null, .null])), oSt a_n5 A_n5 I_n5, gz cI (A_n5 0) 900 f_n5_bytes, oWk a_n16 A_n16 I_n16, gz cI (A_n16 0) 8 f_n16_places, oPi a_n27 A_n27 I_n27, gz cI (A_n27 0) 256 f_n27_samples, oLb a_n38 A_n38 I_n38, gz cI (A_n38 2) 24 f_n38_characters, gz cI (A_n38 1) 2 f_n38_sizes, gz cI (A_n38 0) 2 f_n38_tags, oLy a_n49 I_n49, (a_n60, .inr (0, [.null]))] := hD
  refine lv_dup hx hb d_X_init_63 rfl ?_
  refine gc_v (wn := fun u => [(a_p0, .inr (9, [.ref a_n5, .ref a_n16, .ref a_n27, .ref a_n38, .ref a_n49, .null, .null, .null, .null, .null, .null, .null, .null, .null])), oSt a_n5 A_n5 I_n5, gz cI (A_n5 0) 900 f_n5_bytes, oWk a_n16 A_n16 I_n16, gz cI (A_n16 0) 8 f_n16_places, oPi a_n27 A_n27 I_n27, gz cI (A_n27 0) 256 f_n27_samples, oLb a_n38 A_n38 I_n38, gz cI (A_n38 2) 24 f_n38_characters, gz cI (A_n38 1) 2 f_n38_sizes, gz cI (A_n38 0) 2 f_n38_tags, oLy a_n49 I_n49, oDa a_n60 u.1, gz cI (u.1 0) 256 u.2]) (wr := [(a_p0, .inr (9, [.ref a_n5, .ref a_n16, .ref a_n27, .ref a_n38, .ref a_n49, .null, .null, .null, .null, .null, .null, .null, .null, .null])), oSt a_n5 A_n5 I_n5, gz cI (A_n5 0) 900 f_n5_bytes, oWk a_n16 A_n16 I_n16, gz cI (A_n16 0) 8 f_n16_places, oPi a_n27 A_n27 I_n27, gz cI (A_n27 0) 256 f_n27_samples, oLb a_n38 A_n38 I_n38, gz cI (A_n38 2) 24 f_n38_characters, gz cI (A_n38 1) 2 f_n38_sizes, gz cI (A_n38 0) 2 f_n38_tags, oLy a_n49 I_n49]) (gr_IN (As := []) (rest := [.ref a_n60, .ref a_p0]) ⟨hx, hb, hml, hown, hg⟩ (c_Da_init l dC dI cI a_n60 hw _) ⟨va_cnB (host := "TaggedRaster") 0 hg (gg_B t_211) rfl rfl rfl (hN _ nw_5) (hg _ t_66) (by decide +kernel) ⟨Nat.le_of_ble_eq_true rfl, Nat.le_of_ble_eq_true rfl⟩, rfl, hg _ t_210⟩ hK hN hP hD [12] (by decide) rfl rfl hl.1 rfl (Nat.le_of_ble_eq_true rfl) d_X_init_64 ⟨Nat.le_of_ble_eq_true rfl, Nat.le_of_ble_eq_true rfl⟩) rfl rfl hP hD hS hA [12] [0, 1, 2, 3, 4, 5, 6, 7, 8, 9, 10, 11] [0, 1, 2, 3, 4, 5, 6, 7, 8, 9, 10, 11, 12, 13] rfl rfl (by decide) (by decide) (by decide) (fun _ => rfl) ?_
  intro u9 H locs hw hP hD hS
  obtain ⟨A_n60, f_n60_bytes⟩ := u9
  try dsimp only at hw
  have hP : va_P (dC, dI) vwCl [(a_p0, .inr (9, [.ref a_n5, .ref a_n16, .ref a_n27, .ref a_n38, .ref a_n49, .null, .null, .null, .null, .null, .null, .null, .null, .null])), oSt a_n5 A_n5 I_n5, gz cI (A_n5 0) 900 f_n5_bytes, oWk a_n16 A_n16 I_n16, gz cI (A_n16 0) 8 f_n16_places, oPi a_n27 A_n27 I_n27, gz cI (A_n27 0) 256 f_n27_samples, oLb a_n38 A_n38 I_n38, gz cI (A_n38 2) 24 f_n38_characters, gz cI (A_n38 1) 2 f_n38_sizes, gz cI (A_n38 0) 2 f_n38_tags, oLy a_n49 I_n49, oDa a_n60 A_n60, gz cI (A_n60 0) 256 f_n60_bytes] H := hP
  have hD : va_D A [(a_p0, .inr (9, [.ref a_n5, .ref a_n16, .ref a_n27, .ref a_n38, .ref a_n49, .null, .null, .null, .null, .null, .null, .null, .null, .null])), oSt a_n5 A_n5 I_n5, gz cI (A_n5 0) 900 f_n5_bytes, oWk a_n16 A_n16 I_n16, gz cI (A_n16 0) 8 f_n16_places, oPi a_n27 A_n27 I_n27, gz cI (A_n27 0) 256 f_n27_samples, oLb a_n38 A_n38 I_n38, gz cI (A_n38 2) 24 f_n38_characters, gz cI (A_n38 1) 2 f_n38_sizes, gz cI (A_n38 0) 2 f_n38_tags, oLy a_n49 I_n49, oDa a_n60 A_n60, gz cI (A_n60 0) 256 f_n60_bytes] := hD
  refine va_putF (D := (dC, dI)) (ci := 9) (v := .ref a_n60) (ty := (.object "TaggedRaster$Data")) (C := R_X) (T := T_X) (N := 14) hx hb hg in_X t_X tok_X nok_X hown hK hP hD hS 0 rfl rfl 5 (by decide) (hg _ t_312) (fun _ h9 => h9) rfl hnm rfl (by decide +kernel) rfl rfl (Nat.le_of_ble_eq_true rfl) d_X_init_67 (fun H locs hP hD hS => ?_)
  have hP : va_P (dC, dI) vwCl [(a_p0, .inr (9, [.ref a_n5, .ref a_n16, .ref a_n27, .ref a_n38, .ref a_n49, .ref a_n60, .null, .null, .null, .null, .null, .null, .null, .null])), oSt a_n5 A_n5 I_n5, gz cI (A_n5 0) 900 f_n5_bytes, oWk a_n16 A_n16 I_n16, gz cI (A_n16 0) 8 f_n16_places, oPi a_n27 A_n27 I_n27, gz cI (A_n27 0) 256 f_n27_samples, oLb a_n38 A_n38 I_n38, gz cI (A_n38 2) 24 f_n38_characters, gz cI (A_n38 1) 2 f_n38_sizes, gz cI (A_n38 0) 2 f_n38_tags, oLy a_n49 I_n49, oDa a_n60 A_n60, gz cI (A_n60 0) 256 f_n60_bytes] H := hP
  have hD : va_D A [(a_p0, .inr (9, [.ref a_n5, .ref a_n16, .ref a_n27, .ref a_n38, .ref a_n49, .ref a_n60, .null, .null, .null, .null, .null, .null, .null, .null])), oSt a_n5 A_n5 I_n5, gz cI (A_n5 0) 900 f_n5_bytes, oWk a_n16 A_n16 I_n16, gz cI (A_n16 0) 8 f_n16_places, oPi a_n27 A_n27 I_n27, gz cI (A_n27 0) 256 f_n27_samples, oLb a_n38 A_n38 I_n38, gz cI (A_n38 2) 24 f_n38_characters, gz cI (A_n38 1) 2 f_n38_sizes, gz cI (A_n38 0) 2 f_n38_tags, oLy a_n49 I_n49, oDa a_n60 A_n60, gz cI (A_n60 0) 256 f_n60_bytes] := hD
  refine lv_aload_n hx hb d_X_init_70 rfl (lv_at hl 0 rfl) ?_
  refine va_new (ci := 5) (fs := [.null, .null, .null, .int 0, .int 0, .int 0]) (C := R_Ne) (T := T_Ne) (N := 6) hx hb hg in_Ne t_Ne tok_Ne hown (hg _ t_218) (hg _ t_219) (hg _ t_67) hK hP hD hS hA rfl gz_defNe (Nat.le_of_ble_eq_true rfl) (Nat.le_of_ble_eq_true rfl) d_X_init_71 (fun a_n71 H hP hD hS => ?_)
  have hP : va_P (dC, dI) vwCl [(a_p0, .inr (9, [.ref a_n5, .ref a_n16, .ref a_n27, .ref a_n38, .ref a_n49, .ref a_n60, .null, .null, .null, .null, .null, .null, .null, .null])), oSt a_n5 A_n5 I_n5, gz cI (A_n5 0) 900 f_n5_bytes, oWk a_n16 A_n16 I_n16, gz cI (A_n16 0) 8 f_n16_places, oPi a_n27 A_n27 I_n27, gz cI (A_n27 0) 256 f_n27_samples, oLb a_n38 A_n38 I_n38, gz cI (A_n38 2) 24 f_n38_characters, gz cI (A_n38 1) 2 f_n38_sizes, gz cI (A_n38 0) 2 f_n38_tags, oLy a_n49 I_n49, oDa a_n60 A_n60, gz cI (A_n60 0) 256 f_n60_bytes, (a_n71, .inr (5, [.null, .null, .null, .int 0, .int 0, .int 0]))] H := hP
  have hD : va_D A [(a_p0, .inr (9, [.ref a_n5, .ref a_n16, .ref a_n27, .ref a_n38, .ref a_n49, .ref a_n60, .null, .null, .null, .null, .null, .null, .null, .null])), oSt a_n5 A_n5 I_n5, gz cI (A_n5 0) 900 f_n5_bytes, oWk a_n16 A_n16 I_n16, gz cI (A_n16 0) 8 f_n16_places, oPi a_n27 A_n27 I_n27, gz cI (A_n27 0) 256 f_n27_samples, oLb a_n38 A_n38 I_n38, gz cI (A_n38 2) 24 f_n38_characters, gz cI (A_n38 1) 2 f_n38_sizes, gz cI (A_n38 0) 2 f_n38_tags, oLy a_n49 I_n49, oDa a_n60 A_n60, gz cI (A_n60 0) 256 f_n60_bytes, (a_n71, .inr (5, [.null, .null, .null, .int 0, .int 0, .int 0]))] := hD
  refine lv_dup hx hb d_X_init_74 rfl ?_
  refine gc_v (wn := fun u => [(a_p0, .inr (9, [.ref a_n5, .ref a_n16, .ref a_n27, .ref a_n38, .ref a_n49, .ref a_n60, .null, .null, .null, .null, .null, .null, .null, .null])), oSt a_n5 A_n5 I_n5, gz cI (A_n5 0) 900 f_n5_bytes, oWk a_n16 A_n16 I_n16, gz cI (A_n16 0) 8 f_n16_places, oPi a_n27 A_n27 I_n27, gz cI (A_n27 0) 256 f_n27_samples, oLb a_n38 A_n38 I_n38, gz cI (A_n38 2) 24 f_n38_characters, gz cI (A_n38 1) 2 f_n38_sizes, gz cI (A_n38 0) 2 f_n38_tags, oLy a_n49 I_n49, oDa a_n60 A_n60, gz cI (A_n60 0) 256 f_n60_bytes, oNe a_n71 u.1 u.2.1, gz cI (u.1 0) 127 u.2.2.1, gz cI (u.1 2) 127 u.2.2.2.1, gz cI (u.1 1) 127 u.2.2.2.2]) (wr := [(a_p0, .inr (9, [.ref a_n5, .ref a_n16, .ref a_n27, .ref a_n38, .ref a_n49, .ref a_n60, .null, .null, .null, .null, .null, .null, .null, .null])), oSt a_n5 A_n5 I_n5, gz cI (A_n5 0) 900 f_n5_bytes, oWk a_n16 A_n16 I_n16, gz cI (A_n16 0) 8 f_n16_places, oPi a_n27 A_n27 I_n27, gz cI (A_n27 0) 256 f_n27_samples, oLb a_n38 A_n38 I_n38, gz cI (A_n38 2) 24 f_n38_characters, gz cI (A_n38 1) 2 f_n38_sizes, gz cI (A_n38 0) 2 f_n38_tags, oLy a_n49 I_n49, oDa a_n60 A_n60, gz cI (A_n60 0) 256 f_n60_bytes]) (gr_IN (As := []) (rest := [.ref a_n71, .ref a_p0]) ⟨hx, hb, hml, hown, hg⟩ (c_Ne_init l dC dI cI a_n71 hw _) ⟨va_cnB (host := "TaggedRaster") 0 hg (gg_B t_222) rfl rfl rfl (hN _ nw_6) (hg _ t_67) (by decide +kernel) ⟨Nat.le_of_ble_eq_true rfl, Nat.le_of_ble_eq_true rfl⟩, rfl, hg _ t_221⟩ hK hN hP hD [14] (by decide) rfl rfl hl.1 rfl (Nat.le_of_ble_eq_true rfl) d_X_init_75 ⟨Nat.le_of_ble_eq_true rfl, Nat.le_of_ble_eq_true rfl⟩) rfl rfl hP hD hS hA [14] [0, 1, 2, 3, 4, 5, 6, 7, 8, 9, 10, 11, 12, 13] [0, 1, 2, 3, 4, 5, 6, 7, 8, 9, 10, 11, 12, 13, 14, 15, 16, 17] rfl rfl (by decide) (by decide) (by decide) (fun _ => rfl) ?_
  intro u9 H locs hw hP hD hS
  obtain ⟨A_n71, I_n71, f_n71_firstChild, f_n71_lastNibble, f_n71_nextSibling⟩ := u9
  try dsimp only at hw
  have hP : va_P (dC, dI) vwCl [(a_p0, .inr (9, [.ref a_n5, .ref a_n16, .ref a_n27, .ref a_n38, .ref a_n49, .ref a_n60, .null, .null, .null, .null, .null, .null, .null, .null])), oSt a_n5 A_n5 I_n5, gz cI (A_n5 0) 900 f_n5_bytes, oWk a_n16 A_n16 I_n16, gz cI (A_n16 0) 8 f_n16_places, oPi a_n27 A_n27 I_n27, gz cI (A_n27 0) 256 f_n27_samples, oLb a_n38 A_n38 I_n38, gz cI (A_n38 2) 24 f_n38_characters, gz cI (A_n38 1) 2 f_n38_sizes, gz cI (A_n38 0) 2 f_n38_tags, oLy a_n49 I_n49, oDa a_n60 A_n60, gz cI (A_n60 0) 256 f_n60_bytes, oNe a_n71 A_n71 I_n71, gz cI (A_n71 0) 127 f_n71_firstChild, gz cI (A_n71 2) 127 f_n71_lastNibble, gz cI (A_n71 1) 127 f_n71_nextSibling] H := hP
  have hD : va_D A [(a_p0, .inr (9, [.ref a_n5, .ref a_n16, .ref a_n27, .ref a_n38, .ref a_n49, .ref a_n60, .null, .null, .null, .null, .null, .null, .null, .null])), oSt a_n5 A_n5 I_n5, gz cI (A_n5 0) 900 f_n5_bytes, oWk a_n16 A_n16 I_n16, gz cI (A_n16 0) 8 f_n16_places, oPi a_n27 A_n27 I_n27, gz cI (A_n27 0) 256 f_n27_samples, oLb a_n38 A_n38 I_n38, gz cI (A_n38 2) 24 f_n38_characters, gz cI (A_n38 1) 2 f_n38_sizes, gz cI (A_n38 0) 2 f_n38_tags, oLy a_n49 I_n49, oDa a_n60 A_n60, gz cI (A_n60 0) 256 f_n60_bytes, oNe a_n71 A_n71 I_n71, gz cI (A_n71 0) 127 f_n71_firstChild, gz cI (A_n71 2) 127 f_n71_lastNibble, gz cI (A_n71 1) 127 f_n71_nextSibling] := hD
  refine va_putF (D := (dC, dI)) (ci := 9) (v := .ref a_n71) (ty := (.object "TaggedRaster$NibbleEncoder")) (C := R_X) (T := T_X) (N := 14) hx hb hg in_X t_X tok_X nok_X hown hK hP hD hS 0 rfl rfl 6 (by decide) (hg _ t_313) (fun _ h9 => h9) rfl hnm rfl (by decide +kernel) rfl rfl (Nat.le_of_ble_eq_true rfl) d_X_init_78 (fun H locs hP hD hS => ?_)
  have hP : va_P (dC, dI) vwCl [(a_p0, .inr (9, [.ref a_n5, .ref a_n16, .ref a_n27, .ref a_n38, .ref a_n49, .ref a_n60, .ref a_n71, .null, .null, .null, .null, .null, .null, .null])), oSt a_n5 A_n5 I_n5, gz cI (A_n5 0) 900 f_n5_bytes, oWk a_n16 A_n16 I_n16, gz cI (A_n16 0) 8 f_n16_places, oPi a_n27 A_n27 I_n27, gz cI (A_n27 0) 256 f_n27_samples, oLb a_n38 A_n38 I_n38, gz cI (A_n38 2) 24 f_n38_characters, gz cI (A_n38 1) 2 f_n38_sizes, gz cI (A_n38 0) 2 f_n38_tags, oLy a_n49 I_n49, oDa a_n60 A_n60, gz cI (A_n60 0) 256 f_n60_bytes, oNe a_n71 A_n71 I_n71, gz cI (A_n71 0) 127 f_n71_firstChild, gz cI (A_n71 2) 127 f_n71_lastNibble, gz cI (A_n71 1) 127 f_n71_nextSibling] H := hP
  have hD : va_D A [(a_p0, .inr (9, [.ref a_n5, .ref a_n16, .ref a_n27, .ref a_n38, .ref a_n49, .ref a_n60, .ref a_n71, .null, .null, .null, .null, .null, .null, .null])), oSt a_n5 A_n5 I_n5, gz cI (A_n5 0) 900 f_n5_bytes, oWk a_n16 A_n16 I_n16, gz cI (A_n16 0) 8 f_n16_places, oPi a_n27 A_n27 I_n27, gz cI (A_n27 0) 256 f_n27_samples, oLb a_n38 A_n38 I_n38, gz cI (A_n38 2) 24 f_n38_characters, gz cI (A_n38 1) 2 f_n38_sizes, gz cI (A_n38 0) 2 f_n38_tags, oLy a_n49 I_n49, oDa a_n60 A_n60, gz cI (A_n60 0) 256 f_n60_bytes, oNe a_n71 A_n71 I_n71, gz cI (A_n71 0) 127 f_n71_firstChild, gz cI (A_n71 2) 127 f_n71_lastNibble, gz cI (A_n71 1) 127 f_n71_nextSibling] := hD
  refine lv_aload_n hx hb d_X_init_81 rfl (lv_at hl 0 rfl) ?_
  refine va_new (ci := 4) (fs := [.null, .null, .int 0]) (C := R_Nd) (T := T_Nd) (N := 3) hx hb hg in_Nd t_Nd tok_Nd hown (hg _ t_243) (hg _ t_244) (hg _ t_68) hK hP hD hS hA rfl gz_defNd (Nat.le_of_ble_eq_true rfl) (Nat.le_of_ble_eq_true rfl) d_X_init_82 (fun a_n82 H hP hD hS => ?_)
  have hP : va_P (dC, dI) vwCl [(a_p0, .inr (9, [.ref a_n5, .ref a_n16, .ref a_n27, .ref a_n38, .ref a_n49, .ref a_n60, .ref a_n71, .null, .null, .null, .null, .null, .null, .null])), oSt a_n5 A_n5 I_n5, gz cI (A_n5 0) 900 f_n5_bytes, oWk a_n16 A_n16 I_n16, gz cI (A_n16 0) 8 f_n16_places, oPi a_n27 A_n27 I_n27, gz cI (A_n27 0) 256 f_n27_samples, oLb a_n38 A_n38 I_n38, gz cI (A_n38 2) 24 f_n38_characters, gz cI (A_n38 1) 2 f_n38_sizes, gz cI (A_n38 0) 2 f_n38_tags, oLy a_n49 I_n49, oDa a_n60 A_n60, gz cI (A_n60 0) 256 f_n60_bytes, oNe a_n71 A_n71 I_n71, gz cI (A_n71 0) 127 f_n71_firstChild, gz cI (A_n71 2) 127 f_n71_lastNibble, gz cI (A_n71 1) 127 f_n71_nextSibling, (a_n82, .inr (4, [.null, .null, .int 0]))] H := hP
  have hD : va_D A [(a_p0, .inr (9, [.ref a_n5, .ref a_n16, .ref a_n27, .ref a_n38, .ref a_n49, .ref a_n60, .ref a_n71, .null, .null, .null, .null, .null, .null, .null])), oSt a_n5 A_n5 I_n5, gz cI (A_n5 0) 900 f_n5_bytes, oWk a_n16 A_n16 I_n16, gz cI (A_n16 0) 8 f_n16_places, oPi a_n27 A_n27 I_n27, gz cI (A_n27 0) 256 f_n27_samples, oLb a_n38 A_n38 I_n38, gz cI (A_n38 2) 24 f_n38_characters, gz cI (A_n38 1) 2 f_n38_sizes, gz cI (A_n38 0) 2 f_n38_tags, oLy a_n49 I_n49, oDa a_n60 A_n60, gz cI (A_n60 0) 256 f_n60_bytes, oNe a_n71 A_n71 I_n71, gz cI (A_n71 0) 127 f_n71_firstChild, gz cI (A_n71 2) 127 f_n71_lastNibble, gz cI (A_n71 1) 127 f_n71_nextSibling, (a_n82, .inr (4, [.null, .null, .int 0]))] := hD
  refine lv_dup hx hb d_X_init_85 rfl ?_
  refine gc_v (wn := fun u => [(a_p0, .inr (9, [.ref a_n5, .ref a_n16, .ref a_n27, .ref a_n38, .ref a_n49, .ref a_n60, .ref a_n71, .null, .null, .null, .null, .null, .null, .null])), oSt a_n5 A_n5 I_n5, gz cI (A_n5 0) 900 f_n5_bytes, oWk a_n16 A_n16 I_n16, gz cI (A_n16 0) 8 f_n16_places, oPi a_n27 A_n27 I_n27, gz cI (A_n27 0) 256 f_n27_samples, oLb a_n38 A_n38 I_n38, gz cI (A_n38 2) 24 f_n38_characters, gz cI (A_n38 1) 2 f_n38_sizes, gz cI (A_n38 0) 2 f_n38_tags, oLy a_n49 I_n49, oDa a_n60 A_n60, gz cI (A_n60 0) 256 f_n60_bytes, oNe a_n71 A_n71 I_n71, gz cI (A_n71 0) 127 f_n71_firstChild, gz cI (A_n71 2) 127 f_n71_lastNibble, gz cI (A_n71 1) 127 f_n71_nextSibling, oNd a_n82 u.1 u.2.1, gz cI (u.1 1) 110 u.2.2.1, gz cI (u.1 0) 110 u.2.2.2]) (wr := [(a_p0, .inr (9, [.ref a_n5, .ref a_n16, .ref a_n27, .ref a_n38, .ref a_n49, .ref a_n60, .ref a_n71, .null, .null, .null, .null, .null, .null, .null])), oSt a_n5 A_n5 I_n5, gz cI (A_n5 0) 900 f_n5_bytes, oWk a_n16 A_n16 I_n16, gz cI (A_n16 0) 8 f_n16_places, oPi a_n27 A_n27 I_n27, gz cI (A_n27 0) 256 f_n27_samples, oLb a_n38 A_n38 I_n38, gz cI (A_n38 2) 24 f_n38_characters, gz cI (A_n38 1) 2 f_n38_sizes, gz cI (A_n38 0) 2 f_n38_tags, oLy a_n49 I_n49, oDa a_n60 A_n60, gz cI (A_n60 0) 256 f_n60_bytes, oNe a_n71 A_n71 I_n71, gz cI (A_n71 0) 127 f_n71_firstChild, gz cI (A_n71 2) 127 f_n71_lastNibble, gz cI (A_n71 1) 127 f_n71_nextSibling]) (gr_IN (As := []) (rest := [.ref a_n82, .ref a_p0]) ⟨hx, hb, hml, hown, hg⟩ (c_Nd_init l dC dI cI a_n82 hw _) ⟨va_cnB (host := "TaggedRaster") 0 hg (gg_B t_247) rfl rfl rfl (hN _ nw_7) (hg _ t_68) (by decide +kernel) ⟨Nat.le_of_ble_eq_true rfl, Nat.le_of_ble_eq_true rfl⟩, rfl, hg _ t_246⟩ hK hN hP hD [18] (by decide) rfl rfl hl.1 rfl (Nat.le_of_ble_eq_true rfl) d_X_init_86 ⟨Nat.le_of_ble_eq_true rfl, Nat.le_of_ble_eq_true rfl⟩) rfl rfl hP hD hS hA [18] [0, 1, 2, 3, 4, 5, 6, 7, 8, 9, 10, 11, 12, 13, 14, 15, 16, 17] [0, 1, 2, 3, 4, 5, 6, 7, 8, 9, 10, 11, 12, 13, 14, 15, 16, 17, 18, 19, 20] rfl rfl (by decide) (by decide) (by decide) (fun _ => rfl) ?_
  intro u9 H locs hw hP hD hS
  obtain ⟨A_n82, I_n82, f_n82_sizes, f_n82_starts⟩ := u9
  try dsimp only at hw
  have hP : va_P (dC, dI) vwCl [(a_p0, .inr (9, [.ref a_n5, .ref a_n16, .ref a_n27, .ref a_n38, .ref a_n49, .ref a_n60, .ref a_n71, .null, .null, .null, .null, .null, .null, .null])), oSt a_n5 A_n5 I_n5, gz cI (A_n5 0) 900 f_n5_bytes, oWk a_n16 A_n16 I_n16, gz cI (A_n16 0) 8 f_n16_places, oPi a_n27 A_n27 I_n27, gz cI (A_n27 0) 256 f_n27_samples, oLb a_n38 A_n38 I_n38, gz cI (A_n38 2) 24 f_n38_characters, gz cI (A_n38 1) 2 f_n38_sizes, gz cI (A_n38 0) 2 f_n38_tags, oLy a_n49 I_n49, oDa a_n60 A_n60, gz cI (A_n60 0) 256 f_n60_bytes, oNe a_n71 A_n71 I_n71, gz cI (A_n71 0) 127 f_n71_firstChild, gz cI (A_n71 2) 127 f_n71_lastNibble, gz cI (A_n71 1) 127 f_n71_nextSibling, oNd a_n82 A_n82 I_n82, gz cI (A_n82 1) 110 f_n82_sizes, gz cI (A_n82 0) 110 f_n82_starts] H := hP
  have hD : va_D A [(a_p0, .inr (9, [.ref a_n5, .ref a_n16, .ref a_n27, .ref a_n38, .ref a_n49, .ref a_n60, .ref a_n71, .null, .null, .null, .null, .null, .null, .null])), oSt a_n5 A_n5 I_n5, gz cI (A_n5 0) 900 f_n5_bytes, oWk a_n16 A_n16 I_n16, gz cI (A_n16 0) 8 f_n16_places, oPi a_n27 A_n27 I_n27, gz cI (A_n27 0) 256 f_n27_samples, oLb a_n38 A_n38 I_n38, gz cI (A_n38 2) 24 f_n38_characters, gz cI (A_n38 1) 2 f_n38_sizes, gz cI (A_n38 0) 2 f_n38_tags, oLy a_n49 I_n49, oDa a_n60 A_n60, gz cI (A_n60 0) 256 f_n60_bytes, oNe a_n71 A_n71 I_n71, gz cI (A_n71 0) 127 f_n71_firstChild, gz cI (A_n71 2) 127 f_n71_lastNibble, gz cI (A_n71 1) 127 f_n71_nextSibling, oNd a_n82 A_n82 I_n82, gz cI (A_n82 1) 110 f_n82_sizes, gz cI (A_n82 0) 110 f_n82_starts] := hD
  refine va_putF (D := (dC, dI)) (ci := 9) (v := .ref a_n82) (ty := (.object "TaggedRaster$NibbleDecoder")) (C := R_X) (T := T_X) (N := 14) hx hb hg in_X t_X tok_X nok_X hown hK hP hD hS 0 rfl rfl 7 (by decide) (hg _ t_314) (fun _ h9 => h9) rfl hnm rfl (by decide +kernel) rfl rfl (Nat.le_of_ble_eq_true rfl) d_X_init_89 (fun H locs hP hD hS => ?_)
  have hP : va_P (dC, dI) vwCl [(a_p0, .inr (9, [.ref a_n5, .ref a_n16, .ref a_n27, .ref a_n38, .ref a_n49, .ref a_n60, .ref a_n71, .ref a_n82, .null, .null, .null, .null, .null, .null])), oSt a_n5 A_n5 I_n5, gz cI (A_n5 0) 900 f_n5_bytes, oWk a_n16 A_n16 I_n16, gz cI (A_n16 0) 8 f_n16_places, oPi a_n27 A_n27 I_n27, gz cI (A_n27 0) 256 f_n27_samples, oLb a_n38 A_n38 I_n38, gz cI (A_n38 2) 24 f_n38_characters, gz cI (A_n38 1) 2 f_n38_sizes, gz cI (A_n38 0) 2 f_n38_tags, oLy a_n49 I_n49, oDa a_n60 A_n60, gz cI (A_n60 0) 256 f_n60_bytes, oNe a_n71 A_n71 I_n71, gz cI (A_n71 0) 127 f_n71_firstChild, gz cI (A_n71 2) 127 f_n71_lastNibble, gz cI (A_n71 1) 127 f_n71_nextSibling, oNd a_n82 A_n82 I_n82, gz cI (A_n82 1) 110 f_n82_sizes, gz cI (A_n82 0) 110 f_n82_starts] H := hP
  have hD : va_D A [(a_p0, .inr (9, [.ref a_n5, .ref a_n16, .ref a_n27, .ref a_n38, .ref a_n49, .ref a_n60, .ref a_n71, .ref a_n82, .null, .null, .null, .null, .null, .null])), oSt a_n5 A_n5 I_n5, gz cI (A_n5 0) 900 f_n5_bytes, oWk a_n16 A_n16 I_n16, gz cI (A_n16 0) 8 f_n16_places, oPi a_n27 A_n27 I_n27, gz cI (A_n27 0) 256 f_n27_samples, oLb a_n38 A_n38 I_n38, gz cI (A_n38 2) 24 f_n38_characters, gz cI (A_n38 1) 2 f_n38_sizes, gz cI (A_n38 0) 2 f_n38_tags, oLy a_n49 I_n49, oDa a_n60 A_n60, gz cI (A_n60 0) 256 f_n60_bytes, oNe a_n71 A_n71 I_n71, gz cI (A_n71 0) 127 f_n71_firstChild, gz cI (A_n71 2) 127 f_n71_lastNibble, gz cI (A_n71 1) 127 f_n71_nextSibling, oNd a_n82 A_n82 I_n82, gz cI (A_n82 1) 110 f_n82_sizes, gz cI (A_n82 0) 110 f_n82_starts] := hD
  refine lv_aload_n hx hb d_X_init_92 rfl (lv_at hl 0 rfl) ?_
  refine va_new (ci := 1) (fs := [.int 0, .long 0, .long 0, .int 0]) (C := R_En) (T := T_En) (N := 4) hx hb hg in_En t_En tok_En hown (hg _ t_259) (hg _ t_260) (hg _ t_69) hK hP hD hS hA rfl gz_defEn (Nat.le_of_ble_eq_true rfl) (Nat.le_of_ble_eq_true rfl) d_X_init_93 (fun a_n93 H hP hD hS => ?_)
  have hP : va_P (dC, dI) vwCl [(a_p0, .inr (9, [.ref a_n5, .ref a_n16, .ref a_n27, .ref a_n38, .ref a_n49, .ref a_n60, .ref a_n71, .ref a_n82, .null, .null, .null, .null, .null, .null])), oSt a_n5 A_n5 I_n5, gz cI (A_n5 0) 900 f_n5_bytes, oWk a_n16 A_n16 I_n16, gz cI (A_n16 0) 8 f_n16_places, oPi a_n27 A_n27 I_n27, gz cI (A_n27 0) 256 f_n27_samples, oLb a_n38 A_n38 I_n38, gz cI (A_n38 2) 24 f_n38_characters, gz cI (A_n38 1) 2 f_n38_sizes, gz cI (A_n38 0) 2 f_n38_tags, oLy a_n49 I_n49, oDa a_n60 A_n60, gz cI (A_n60 0) 256 f_n60_bytes, oNe a_n71 A_n71 I_n71, gz cI (A_n71 0) 127 f_n71_firstChild, gz cI (A_n71 2) 127 f_n71_lastNibble, gz cI (A_n71 1) 127 f_n71_nextSibling, oNd a_n82 A_n82 I_n82, gz cI (A_n82 1) 110 f_n82_sizes, gz cI (A_n82 0) 110 f_n82_starts, (a_n93, .inr (1, [.int 0, .long 0, .long 0, .int 0]))] H := hP
  have hD : va_D A [(a_p0, .inr (9, [.ref a_n5, .ref a_n16, .ref a_n27, .ref a_n38, .ref a_n49, .ref a_n60, .ref a_n71, .ref a_n82, .null, .null, .null, .null, .null, .null])), oSt a_n5 A_n5 I_n5, gz cI (A_n5 0) 900 f_n5_bytes, oWk a_n16 A_n16 I_n16, gz cI (A_n16 0) 8 f_n16_places, oPi a_n27 A_n27 I_n27, gz cI (A_n27 0) 256 f_n27_samples, oLb a_n38 A_n38 I_n38, gz cI (A_n38 2) 24 f_n38_characters, gz cI (A_n38 1) 2 f_n38_sizes, gz cI (A_n38 0) 2 f_n38_tags, oLy a_n49 I_n49, oDa a_n60 A_n60, gz cI (A_n60 0) 256 f_n60_bytes, oNe a_n71 A_n71 I_n71, gz cI (A_n71 0) 127 f_n71_firstChild, gz cI (A_n71 2) 127 f_n71_lastNibble, gz cI (A_n71 1) 127 f_n71_nextSibling, oNd a_n82 A_n82 I_n82, gz cI (A_n82 1) 110 f_n82_sizes, gz cI (A_n82 0) 110 f_n82_starts, (a_n93, .inr (1, [.int 0, .long 0, .long 0, .int 0]))] := hD
  refine lv_dup hx hb d_X_init_96 rfl ?_
  refine gc_v (wn := fun u => [(a_p0, .inr (9, [.ref a_n5, .ref a_n16, .ref a_n27, .ref a_n38, .ref a_n49, .ref a_n60, .ref a_n71, .ref a_n82, .null, .null, .null, .null, .null, .null])), oSt a_n5 A_n5 I_n5, gz cI (A_n5 0) 900 f_n5_bytes, oWk a_n16 A_n16 I_n16, gz cI (A_n16 0) 8 f_n16_places, oPi a_n27 A_n27 I_n27, gz cI (A_n27 0) 256 f_n27_samples, oLb a_n38 A_n38 I_n38, gz cI (A_n38 2) 24 f_n38_characters, gz cI (A_n38 1) 2 f_n38_sizes, gz cI (A_n38 0) 2 f_n38_tags, oLy a_n49 I_n49, oDa a_n60 A_n60, gz cI (A_n60 0) 256 f_n60_bytes, oNe a_n71 A_n71 I_n71, gz cI (A_n71 0) 127 f_n71_firstChild, gz cI (A_n71 2) 127 f_n71_lastNibble, gz cI (A_n71 1) 127 f_n71_nextSibling, oNd a_n82 A_n82 I_n82, gz cI (A_n82 1) 110 f_n82_sizes, gz cI (A_n82 0) 110 f_n82_starts, oEn a_n93 u.1 u.2]) (wr := [(a_p0, .inr (9, [.ref a_n5, .ref a_n16, .ref a_n27, .ref a_n38, .ref a_n49, .ref a_n60, .ref a_n71, .ref a_n82, .null, .null, .null, .null, .null, .null])), oSt a_n5 A_n5 I_n5, gz cI (A_n5 0) 900 f_n5_bytes, oWk a_n16 A_n16 I_n16, gz cI (A_n16 0) 8 f_n16_places, oPi a_n27 A_n27 I_n27, gz cI (A_n27 0) 256 f_n27_samples, oLb a_n38 A_n38 I_n38, gz cI (A_n38 2) 24 f_n38_characters, gz cI (A_n38 1) 2 f_n38_sizes, gz cI (A_n38 0) 2 f_n38_tags, oLy a_n49 I_n49, oDa a_n60 A_n60, gz cI (A_n60 0) 256 f_n60_bytes, oNe a_n71 A_n71 I_n71, gz cI (A_n71 0) 127 f_n71_firstChild, gz cI (A_n71 2) 127 f_n71_lastNibble, gz cI (A_n71 1) 127 f_n71_nextSibling, oNd a_n82 A_n82 I_n82, gz cI (A_n82 1) 110 f_n82_sizes, gz cI (A_n82 0) 110 f_n82_starts]) (gr_IN (As := []) (rest := [.ref a_n93, .ref a_p0]) ⟨hx, hb, hml, hown, hg⟩ (c_En_init l dC dI cI a_n93 hw _) ⟨va_cnB (host := "TaggedRaster") 0 hg (gg_B t_263) rfl rfl rfl (hN _ nw_8) (hg _ t_69) (by decide +kernel) ⟨Nat.le_of_ble_eq_true rfl, Nat.le_of_ble_eq_true rfl⟩, rfl, hg _ t_262⟩ hK hN hP hD [21] (by decide) rfl rfl hl.1 rfl (Nat.le_of_ble_eq_true rfl) d_X_init_97 ⟨Nat.le_of_ble_eq_true rfl, Nat.le_of_ble_eq_true rfl⟩) rfl rfl hP hD hS hA [21] [0, 1, 2, 3, 4, 5, 6, 7, 8, 9, 10, 11, 12, 13, 14, 15, 16, 17, 18, 19, 20] [0, 1, 2, 3, 4, 5, 6, 7, 8, 9, 10, 11, 12, 13, 14, 15, 16, 17, 18, 19, 20, 21] rfl rfl (by decide) (by decide) (by decide) (fun _ => rfl) ?_
  intro u9 H locs hw hP hD hS
  obtain ⟨I_n93, L_n93⟩ := u9
  try dsimp only at hw
  have hP : va_P (dC, dI) vwCl [(a_p0, .inr (9, [.ref a_n5, .ref a_n16, .ref a_n27, .ref a_n38, .ref a_n49, .ref a_n60, .ref a_n71, .ref a_n82, .null, .null, .null, .null, .null, .null])), oSt a_n5 A_n5 I_n5, gz cI (A_n5 0) 900 f_n5_bytes, oWk a_n16 A_n16 I_n16, gz cI (A_n16 0) 8 f_n16_places, oPi a_n27 A_n27 I_n27, gz cI (A_n27 0) 256 f_n27_samples, oLb a_n38 A_n38 I_n38, gz cI (A_n38 2) 24 f_n38_characters, gz cI (A_n38 1) 2 f_n38_sizes, gz cI (A_n38 0) 2 f_n38_tags, oLy a_n49 I_n49, oDa a_n60 A_n60, gz cI (A_n60 0) 256 f_n60_bytes, oNe a_n71 A_n71 I_n71, gz cI (A_n71 0) 127 f_n71_firstChild, gz cI (A_n71 2) 127 f_n71_lastNibble, gz cI (A_n71 1) 127 f_n71_nextSibling, oNd a_n82 A_n82 I_n82, gz cI (A_n82 1) 110 f_n82_sizes, gz cI (A_n82 0) 110 f_n82_starts, oEn a_n93 I_n93 L_n93] H := hP
  have hD : va_D A [(a_p0, .inr (9, [.ref a_n5, .ref a_n16, .ref a_n27, .ref a_n38, .ref a_n49, .ref a_n60, .ref a_n71, .ref a_n82, .null, .null, .null, .null, .null, .null])), oSt a_n5 A_n5 I_n5, gz cI (A_n5 0) 900 f_n5_bytes, oWk a_n16 A_n16 I_n16, gz cI (A_n16 0) 8 f_n16_places, oPi a_n27 A_n27 I_n27, gz cI (A_n27 0) 256 f_n27_samples, oLb a_n38 A_n38 I_n38, gz cI (A_n38 2) 24 f_n38_characters, gz cI (A_n38 1) 2 f_n38_sizes, gz cI (A_n38 0) 2 f_n38_tags, oLy a_n49 I_n49, oDa a_n60 A_n60, gz cI (A_n60 0) 256 f_n60_bytes, oNe a_n71 A_n71 I_n71, gz cI (A_n71 0) 127 f_n71_firstChild, gz cI (A_n71 2) 127 f_n71_lastNibble, gz cI (A_n71 1) 127 f_n71_nextSibling, oNd a_n82 A_n82 I_n82, gz cI (A_n82 1) 110 f_n82_sizes, gz cI (A_n82 0) 110 f_n82_starts, oEn a_n93 I_n93 L_n93] := hD
  refine va_putF (D := (dC, dI)) (ci := 9) (v := .ref a_n93) (ty := (.object "TaggedRaster$Entry")) (C := R_X) (T := T_X) (N := 14) hx hb hg in_X t_X tok_X nok_X hown hK hP hD hS 0 rfl rfl 8 (by decide) (hg _ t_315) (fun _ h9 => h9) rfl hnm rfl (by decide +kernel) rfl rfl (Nat.le_of_ble_eq_true rfl) d_X_init_100 (fun H locs hP hD hS => ?_)
  have hP : va_P (dC, dI) vwCl [(a_p0, .inr (9, [.ref a_n5, .ref a_n16, .ref a_n27, .ref a_n38, .ref a_n49, .ref a_n60, .ref a_n71, .ref a_n82, .ref a_n93, .null, .null, .null, .null, .null])), oSt a_n5 A_n5 I_n5, gz cI (A_n5 0) 900 f_n5_bytes, oWk a_n16 A_n16 I_n16, gz cI (A_n16 0) 8 f_n16_places, oPi a_n27 A_n27 I_n27, gz cI (A_n27 0) 256 f_n27_samples, oLb a_n38 A_n38 I_n38, gz cI (A_n38 2) 24 f_n38_characters, gz cI (A_n38 1) 2 f_n38_sizes, gz cI (A_n38 0) 2 f_n38_tags, oLy a_n49 I_n49, oDa a_n60 A_n60, gz cI (A_n60 0) 256 f_n60_bytes, oNe a_n71 A_n71 I_n71, gz cI (A_n71 0) 127 f_n71_firstChild, gz cI (A_n71 2) 127 f_n71_lastNibble, gz cI (A_n71 1) 127 f_n71_nextSibling, oNd a_n82 A_n82 I_n82, gz cI (A_n82 1) 110 f_n82_sizes, gz cI (A_n82 0) 110 f_n82_starts, oEn a_n93 I_n93 L_n93] H := hP
  have hD : va_D A [(a_p0, .inr (9, [.ref a_n5, .ref a_n16, .ref a_n27, .ref a_n38, .ref a_n49, .ref a_n60, .ref a_n71, .ref a_n82, .ref a_n93, .null, .null, .null, .null, .null])), oSt a_n5 A_n5 I_n5, gz cI (A_n5 0) 900 f_n5_bytes, oWk a_n16 A_n16 I_n16, gz cI (A_n16 0) 8 f_n16_places, oPi a_n27 A_n27 I_n27, gz cI (A_n27 0) 256 f_n27_samples, oLb a_n38 A_n38 I_n38, gz cI (A_n38 2) 24 f_n38_characters, gz cI (A_n38 1) 2 f_n38_sizes, gz cI (A_n38 0) 2 f_n38_tags, oLy a_n49 I_n49, oDa a_n60 A_n60, gz cI (A_n60 0) 256 f_n60_bytes, oNe a_n71 A_n71 I_n71, gz cI (A_n71 0) 127 f_n71_firstChild, gz cI (A_n71 2) 127 f_n71_lastNibble, gz cI (A_n71 1) 127 f_n71_nextSibling, oNd a_n82 A_n82 I_n82, gz cI (A_n82 1) 110 f_n82_sizes, gz cI (A_n82 0) 110 f_n82_starts, oEn a_n93 I_n93 L_n93] := hD
  refine lv_aload_n hx hb d_X_init_103 rfl (lv_at hl 0 rfl) ?_
  refine va_new (ci := 1) (fs := [.int 0, .long 0, .long 0, .int 0]) (C := R_En) (T := T_En) (N := 4) hx hb hg in_En t_En tok_En hown (hg _ t_259) (hg _ t_260) (hg _ t_69) hK hP hD hS hA rfl gz_defEn (Nat.le_of_ble_eq_true rfl) (Nat.le_of_ble_eq_true rfl) d_X_init_104 (fun a_n104 H hP hD hS => ?_)
  have hP : va_P (dC, dI) vwCl [(a_p0, .inr (9, [.ref a_n5, .ref a_n16, .ref a_n27, .ref a_n38, .ref a_n49, .ref a_n60, .ref a_n71, .ref a_n82, .ref a_n93, .null, .null, .null, .null, .null])), oSt a_n5 A_n5 I_n5, gz cI (A_n5 0) 900 f_n5_bytes, oWk a_n16 A_n16 I_n16, gz cI (A_n16 0) 8 f_n16_places, oPi a_n27 A_n27 I_n27, gz cI (A_n27 0) 256 f_n27_samples, oLb a_n38 A_n38 I_n38, gz cI (A_n38 2) 24 f_n38_characters, gz cI (A_n38 1) 2 f_n38_sizes, gz cI (A_n38 0) 2 f_n38_tags, oLy a_n49 I_n49, oDa a_n60 A_n60, gz cI (A_n60 0) 256 f_n60_bytes, oNe a_n71 A_n71 I_n71, gz cI (A_n71 0) 127 f_n71_firstChild, gz cI (A_n71 2) 127 f_n71_lastNibble, gz cI (A_n71 1) 127 f_n71_nextSibling, oNd a_n82 A_n82 I_n82, gz cI (A_n82 1) 110 f_n82_sizes, gz cI (A_n82 0) 110 f_n82_starts, oEn a_n93 I_n93 L_n93, (a_n104, .inr (1, [.int 0, .long 0, .long 0, .int 0]))] H := hP
  have hD : va_D A [(a_p0, .inr (9, [.ref a_n5, .ref a_n16, .ref a_n27, .ref a_n38, .ref a_n49, .ref a_n60, .ref a_n71, .ref a_n82, .ref a_n93, .null, .null, .null, .null, .null])), oSt a_n5 A_n5 I_n5, gz cI (A_n5 0) 900 f_n5_bytes, oWk a_n16 A_n16 I_n16, gz cI (A_n16 0) 8 f_n16_places, oPi a_n27 A_n27 I_n27, gz cI (A_n27 0) 256 f_n27_samples, oLb a_n38 A_n38 I_n38, gz cI (A_n38 2) 24 f_n38_characters, gz cI (A_n38 1) 2 f_n38_sizes, gz cI (A_n38 0) 2 f_n38_tags, oLy a_n49 I_n49, oDa a_n60 A_n60, gz cI (A_n60 0) 256 f_n60_bytes, oNe a_n71 A_n71 I_n71, gz cI (A_n71 0) 127 f_n71_firstChild, gz cI (A_n71 2) 127 f_n71_lastNibble, gz cI (A_n71 1) 127 f_n71_nextSibling, oNd a_n82 A_n82 I_n82, gz cI (A_n82 1) 110 f_n82_sizes, gz cI (A_n82 0) 110 f_n82_starts, oEn a_n93 I_n93 L_n93, (a_n104, .inr (1, [.int 0, .long 0, .long 0, .int 0]))] := hD
  refine lv_dup hx hb d_X_init_107 rfl ?_
  refine gc_v (wn := fun u => [(a_p0, .inr (9, [.ref a_n5, .ref a_n16, .ref a_n27, .ref a_n38, .ref a_n49, .ref a_n60, .ref a_n71, .ref a_n82, .ref a_n93, .null, .null, .null, .null, .null])), oSt a_n5 A_n5 I_n5, gz cI (A_n5 0) 900 f_n5_bytes, oWk a_n16 A_n16 I_n16, gz cI (A_n16 0) 8 f_n16_places, oPi a_n27 A_n27 I_n27, gz cI (A_n27 0) 256 f_n27_samples, oLb a_n38 A_n38 I_n38, gz cI (A_n38 2) 24 f_n38_characters, gz cI (A_n38 1) 2 f_n38_sizes, gz cI (A_n38 0) 2 f_n38_tags, oLy a_n49 I_n49, oDa a_n60 A_n60, gz cI (A_n60 0) 256 f_n60_bytes, oNe a_n71 A_n71 I_n71, gz cI (A_n71 0) 127 f_n71_firstChild, gz cI (A_n71 2) 127 f_n71_lastNibble, gz cI (A_n71 1) 127 f_n71_nextSibling, oNd a_n82 A_n82 I_n82, gz cI (A_n82 1) 110 f_n82_sizes, gz cI (A_n82 0) 110 f_n82_starts, oEn a_n93 I_n93 L_n93, oEn a_n104 u.1 u.2]) (wr := [(a_p0, .inr (9, [.ref a_n5, .ref a_n16, .ref a_n27, .ref a_n38, .ref a_n49, .ref a_n60, .ref a_n71, .ref a_n82, .ref a_n93, .null, .null, .null, .null, .null])), oSt a_n5 A_n5 I_n5, gz cI (A_n5 0) 900 f_n5_bytes, oWk a_n16 A_n16 I_n16, gz cI (A_n16 0) 8 f_n16_places, oPi a_n27 A_n27 I_n27, gz cI (A_n27 0) 256 f_n27_samples, oLb a_n38 A_n38 I_n38, gz cI (A_n38 2) 24 f_n38_characters, gz cI (A_n38 1) 2 f_n38_sizes, gz cI (A_n38 0) 2 f_n38_tags, oLy a_n49 I_n49, oDa a_n60 A_n60, gz cI (A_n60 0) 256 f_n60_bytes, oNe a_n71 A_n71 I_n71, gz cI (A_n71 0) 127 f_n71_firstChild, gz cI (A_n71 2) 127 f_n71_lastNibble, gz cI (A_n71 1) 127 f_n71_nextSibling, oNd a_n82 A_n82 I_n82, gz cI (A_n82 1) 110 f_n82_sizes, gz cI (A_n82 0) 110 f_n82_starts, oEn a_n93 I_n93 L_n93]) (gr_IN (As := []) (rest := [.ref a_n104, .ref a_p0]) ⟨hx, hb, hml, hown, hg⟩ (c_En_init l dC dI cI a_n104 hw _) ⟨va_cnB (host := "TaggedRaster") 0 hg (gg_B t_263) rfl rfl rfl (hN _ nw_8) (hg _ t_69) (by decide +kernel) ⟨Nat.le_of_ble_eq_true rfl, Nat.le_of_ble_eq_true rfl⟩, rfl, hg _ t_262⟩ hK hN hP hD [22] (by decide) rfl rfl hl.1 rfl (Nat.le_of_ble_eq_true rfl) d_X_init_108 ⟨Nat.le_of_ble_eq_true rfl, Nat.le_of_ble_eq_true rfl⟩) rfl rfl hP hD hS hA [22] [0, 1, 2, 3, 4, 5, 6, 7, 8, 9, 10, 11, 12, 13, 14, 15, 16, 17, 18, 19, 20, 21] [0, 1, 2, 3, 4, 5, 6, 7, 8, 9, 10, 11, 12, 13, 14, 15, 16, 17, 18, 19, 20, 21, 22] rfl rfl (by decide) (by decide) (by decide) (fun _ => rfl) ?_
  intro u9 H locs hw hP hD hS
  obtain ⟨I_n104, L_n104⟩ := u9
  try dsimp only at hw
  have hP : va_P (dC, dI) vwCl [(a_p0, .inr (9, [.ref a_n5, .ref a_n16, .ref a_n27, .ref a_n38, .ref a_n49, .ref a_n60, .ref a_n71, .ref a_n82, .ref a_n93, .null, .null, .null, .null, .null])), oSt a_n5 A_n5 I_n5, gz cI (A_n5 0) 900 f_n5_bytes, oWk a_n16 A_n16 I_n16, gz cI (A_n16 0) 8 f_n16_places, oPi a_n27 A_n27 I_n27, gz cI (A_n27 0) 256 f_n27_samples, oLb a_n38 A_n38 I_n38, gz cI (A_n38 2) 24 f_n38_characters, gz cI (A_n38 1) 2 f_n38_sizes, gz cI (A_n38 0) 2 f_n38_tags, oLy a_n49 I_n49, oDa a_n60 A_n60, gz cI (A_n60 0) 256 f_n60_bytes, oNe a_n71 A_n71 I_n71, gz cI (A_n71 0) 127 f_n71_firstChild, gz cI (A_n71 2) 127 f_n71_lastNibble, gz cI (A_n71 1) 127 f_n71_nextSibling, oNd a_n82 A_n82 I_n82, gz cI (A_n82 1) 110 f_n82_sizes, gz cI (A_n82 0) 110 f_n82_starts, oEn a_n93 I_n93 L_n93, oEn a_n104 I_n104 L_n104] H := hP
  have hD : va_D A [(a_p0, .inr (9, [.ref a_n5, .ref a_n16, .ref a_n27, .ref a_n38, .ref a_n49, .ref a_n60, .ref a_n71, .ref a_n82, .ref a_n93, .null, .null, .null, .null, .null])), oSt a_n5 A_n5 I_n5, gz cI (A_n5 0) 900 f_n5_bytes, oWk a_n16 A_n16 I_n16, gz cI (A_n16 0) 8 f_n16_places, oPi a_n27 A_n27 I_n27, gz cI (A_n27 0) 256 f_n27_samples, oLb a_n38 A_n38 I_n38, gz cI (A_n38 2) 24 f_n38_characters, gz cI (A_n38 1) 2 f_n38_sizes, gz cI (A_n38 0) 2 f_n38_tags, oLy a_n49 I_n49, oDa a_n60 A_n60, gz cI (A_n60 0) 256 f_n60_bytes, oNe a_n71 A_n71 I_n71, gz cI (A_n71 0) 127 f_n71_firstChild, gz cI (A_n71 2) 127 f_n71_lastNibble, gz cI (A_n71 1) 127 f_n71_nextSibling, oNd a_n82 A_n82 I_n82, gz cI (A_n82 1) 110 f_n82_sizes, gz cI (A_n82 0) 110 f_n82_starts, oEn a_n93 I_n93 L_n93, oEn a_n104 I_n104 L_n104] := hD
  refine va_putF (D := (dC, dI)) (ci := 9) (v := .ref a_n104) (ty := (.object "TaggedRaster$Entry")) (C := R_X) (T := T_X) (N := 14) hx hb hg in_X t_X tok_X nok_X hown hK hP hD hS 0 rfl rfl 9 (by decide) (hg _ t_316) (fun _ h9 => h9) rfl hnm rfl (by decide +kernel) rfl rfl (Nat.le_of_ble_eq_true rfl) d_X_init_111 (fun H locs hP hD hS => ?_)
  have hP : va_P (dC, dI) vwCl [(a_p0, .inr (9, [.ref a_n5, .ref a_n16, .ref a_n27, .ref a_n38, .ref a_n49, .ref a_n60, .ref a_n71, .ref a_n82, .ref a_n93, .ref a_n104, .null, .null, .null, .null])), oSt a_n5 A_n5 I_n5, gz cI (A_n5 0) 900 f_n5_bytes, oWk a_n16 A_n16 I_n16, gz cI (A_n16 0) 8 f_n16_places, oPi a_n27 A_n27 I_n27, gz cI (A_n27 0) 256 f_n27_samples, oLb a_n38 A_n38 I_n38, gz cI (A_n38 2) 24 f_n38_characters, gz cI (A_n38 1) 2 f_n38_sizes, gz cI (A_n38 0) 2 f_n38_tags, oLy a_n49 I_n49, oDa a_n60 A_n60, gz cI (A_n60 0) 256 f_n60_bytes, oNe a_n71 A_n71 I_n71, gz cI (A_n71 0) 127 f_n71_firstChild, gz cI (A_n71 2) 127 f_n71_lastNibble, gz cI (A_n71 1) 127 f_n71_nextSibling, oNd a_n82 A_n82 I_n82, gz cI (A_n82 1) 110 f_n82_sizes, gz cI (A_n82 0) 110 f_n82_starts, oEn a_n93 I_n93 L_n93, oEn a_n104 I_n104 L_n104] H := hP
  have hD : va_D A [(a_p0, .inr (9, [.ref a_n5, .ref a_n16, .ref a_n27, .ref a_n38, .ref a_n49, .ref a_n60, .ref a_n71, .ref a_n82, .ref a_n93, .ref a_n104, .null, .null, .null, .null])), oSt a_n5 A_n5 I_n5, gz cI (A_n5 0) 900 f_n5_bytes, oWk a_n16 A_n16 I_n16, gz cI (A_n16 0) 8 f_n16_places, oPi a_n27 A_n27 I_n27, gz cI (A_n27 0) 256 f_n27_samples, oLb a_n38 A_n38 I_n38, gz cI (A_n38 2) 24 f_n38_characters, gz cI (A_n38 1) 2 f_n38_sizes, gz cI (A_n38 0) 2 f_n38_tags, oLy a_n49 I_n49, oDa a_n60 A_n60, gz cI (A_n60 0) 256 f_n60_bytes, oNe a_n71 A_n71 I_n71, gz cI (A_n71 0) 127 f_n71_firstChild, gz cI (A_n71 2) 127 f_n71_lastNibble, gz cI (A_n71 1) 127 f_n71_nextSibling, oNd a_n82 A_n82 I_n82, gz cI (A_n82 1) 110 f_n82_sizes, gz cI (A_n82 0) 110 f_n82_starts, oEn a_n93 I_n93 L_n93, oEn a_n104 I_n104 L_n104] := hD
  refine lv_aload_n hx hb d_X_init_114 rfl (lv_at hl 0 rfl) ?_
  refine va_new (ci := 1) (fs := [.int 0, .long 0, .long 0, .int 0]) (C := R_En) (T := T_En) (N := 4) hx hb hg in_En t_En tok_En hown (hg _ t_259) (hg _ t_260) (hg _ t_69) hK hP hD hS hA rfl gz_defEn (Nat.le_of_ble_eq_true rfl) (Nat.le_of_ble_eq_true rfl) d_X_init_115 (fun a_n115 H hP hD hS => ?_)
  have hP : va_P (dC, dI) vwCl [(a_p0, .inr (9, [.ref a_n5, .ref a_n16, .ref a_n27, .ref a_n38, .ref a_n49, .ref a_n60, .ref a_n71, .ref a_n82, .ref a_n93, .ref a_n104, .null, .null, .null, .null])), oSt a_n5 A_n5 I_n5, gz cI (A_n5 0) 900 f_n5_bytes, oWk a_n16 A_n16 I_n16, gz cI (A_n16 0) 8 f_n16_places, oPi a_n27 A_n27 I_n27, gz cI (A_n27 0) 256 f_n27_samples, oLb a_n38 A_n38 I_n38, gz cI (A_n38 2) 24 f_n38_characters, gz cI (A_n38 1) 2 f_n38_sizes, gz cI (A_n38 0) 2 f_n38_tags, oLy a_n49 I_n49, oDa a_n60 A_n60, gz cI (A_n60 0) 256 f_n60_bytes, oNe a_n71 A_n71 I_n71, gz cI (A_n71 0) 127 f_n71_firstChild, gz cI (A_n71 2) 127 f_n71_lastNibble, gz cI (A_n71 1) 127 f_n71_nextSibling, oNd a_n82 A_n82 I_n82, gz cI (A_n82 1) 110 f_n82_sizes, gz cI (A_n82 0) 110 f_n82_starts, oEn a_n93 I_n93 L_n93, oEn a_n104 I_n104 L_n104, (a_n115, .inr (1, [.int 0, .long 0, .long 0, .int 0]))] H := hP
  have hD : va_D A [(a_p0, .inr (9, [.ref a_n5, .ref a_n16, .ref a_n27, .ref a_n38, .ref a_n49, .ref a_n60, .ref a_n71, .ref a_n82, .ref a_n93, .ref a_n104, .null, .null, .null, .null])), oSt a_n5 A_n5 I_n5, gz cI (A_n5 0) 900 f_n5_bytes, oWk a_n16 A_n16 I_n16, gz cI (A_n16 0) 8 f_n16_places, oPi a_n27 A_n27 I_n27, gz cI (A_n27 0) 256 f_n27_samples, oLb a_n38 A_n38 I_n38, gz cI (A_n38 2) 24 f_n38_characters, gz cI (A_n38 1) 2 f_n38_sizes, gz cI (A_n38 0) 2 f_n38_tags, oLy a_n49 I_n49, oDa a_n60 A_n60, gz cI (A_n60 0) 256 f_n60_bytes, oNe a_n71 A_n71 I_n71, gz cI (A_n71 0) 127 f_n71_firstChild, gz cI (A_n71 2) 127 f_n71_lastNibble, gz cI (A_n71 1) 127 f_n71_nextSibling, oNd a_n82 A_n82 I_n82, gz cI (A_n82 1) 110 f_n82_sizes, gz cI (A_n82 0) 110 f_n82_starts, oEn a_n93 I_n93 L_n93, oEn a_n104 I_n104 L_n104, (a_n115, .inr (1, [.int 0, .long 0, .long 0, .int 0]))] := hD
  refine lv_dup hx hb d_X_init_118 rfl ?_
  refine gc_v (wn := fun u => [(a_p0, .inr (9, [.ref a_n5, .ref a_n16, .ref a_n27, .ref a_n38, .ref a_n49, .ref a_n60, .ref a_n71, .ref a_n82, .ref a_n93, .ref a_n104, .null, .null, .null, .null])), oSt a_n5 A_n5 I_n5, gz cI (A_n5 0) 900 f_n5_bytes, oWk a_n16 A_n16 I_n16, gz cI (A_n16 0) 8 f_n16_places, oPi a_n27 A_n27 I_n27, gz cI (A_n27 0) 256 f_n27_samples, oLb a_n38 A_n38 I_n38, gz cI (A_n38 2) 24 f_n38_characters, gz cI (A_n38 1) 2 f_n38_sizes, gz cI (A_n38 0) 2 f_n38_tags, oLy a_n49 I_n49, oDa a_n60 A_n60, gz cI (A_n60 0) 256 f_n60_bytes, oNe a_n71 A_n71 I_n71, gz cI (A_n71 0) 127 f_n71_firstChild, gz cI (A_n71 2) 127 f_n71_lastNibble, gz cI (A_n71 1) 127 f_n71_nextSibling, oNd a_n82 A_n82 I_n82, gz cI (A_n82 1) 110 f_n82_sizes, gz cI (A_n82 0) 110 f_n82_starts, oEn a_n93 I_n93 L_n93, oEn a_n104 I_n104 L_n104, oEn a_n115 u.1 u.2]) (wr := [(a_p0, .inr (9, [.ref a_n5, .ref a_n16, .ref a_n27, .ref a_n38, .ref a_n49, .ref a_n60, .ref a_n71, .ref a_n82, .ref a_n93, .ref a_n104, .null, .null, .null, .null])), oSt a_n5 A_n5 I_n5, gz cI (A_n5 0) 900 f_n5_bytes, oWk a_n16 A_n16 I_n16, gz cI (A_n16 0) 8 f_n16_places, oPi a_n27 A_n27 I_n27, gz cI (A_n27 0) 256 f_n27_samples, oLb a_n38 A_n38 I_n38, gz cI (A_n38 2) 24 f_n38_characters, gz cI (A_n38 1) 2 f_n38_sizes, gz cI (A_n38 0) 2 f_n38_tags, oLy a_n49 I_n49, oDa a_n60 A_n60, gz cI (A_n60 0) 256 f_n60_bytes, oNe a_n71 A_n71 I_n71, gz cI (A_n71 0) 127 f_n71_firstChild, gz cI (A_n71 2) 127 f_n71_lastNibble, gz cI (A_n71 1) 127 f_n71_nextSibling, oNd a_n82 A_n82 I_n82, gz cI (A_n82 1) 110 f_n82_sizes, gz cI (A_n82 0) 110 f_n82_starts, oEn a_n93 I_n93 L_n93, oEn a_n104 I_n104 L_n104]) (gr_IN (As := []) (rest := [.ref a_n115, .ref a_p0]) ⟨hx, hb, hml, hown, hg⟩ (c_En_init l dC dI cI a_n115 hw _) ⟨va_cnB (host := "TaggedRaster") 0 hg (gg_B t_263) rfl rfl rfl (hN _ nw_8) (hg _ t_69) (by decide +kernel) ⟨Nat.le_of_ble_eq_true rfl, Nat.le_of_ble_eq_true rfl⟩, rfl, hg _ t_262⟩ hK hN hP hD [23] (by decide) rfl rfl hl.1 rfl (Nat.le_of_ble_eq_true rfl) d_X_init_119 ⟨Nat.le_of_ble_eq_true rfl, Nat.le_of_ble_eq_true rfl⟩) rfl rfl hP hD hS hA [23] [0, 1, 2, 3, 4, 5, 6, 7, 8, 9, 10, 11, 12, 13, 14, 15, 16, 17, 18, 19, 20, 21, 22] [0, 1, 2, 3, 4, 5, 6, 7, 8, 9, 10, 11, 12, 13, 14, 15, 16, 17, 18, 19, 20, 21, 22, 23] rfl rfl (by decide) (by decide) (by decide) (fun _ => rfl) ?_
  intro u9 H locs hw hP hD hS
  obtain ⟨I_n115, L_n115⟩ := u9
  try dsimp only at hw
  have hP : va_P (dC, dI) vwCl [(a_p0, .inr (9, [.ref a_n5, .ref a_n16, .ref a_n27, .ref a_n38, .ref a_n49, .ref a_n60, .ref a_n71, .ref a_n82, .ref a_n93, .ref a_n104, .null, .null, .null, .null])), oSt a_n5 A_n5 I_n5, gz cI (A_n5 0) 900 f_n5_bytes, oWk a_n16 A_n16 I_n16, gz cI (A_n16 0) 8 f_n16_places, oPi a_n27 A_n27 I_n27, gz cI (A_n27 0) 256 f_n27_samples, oLb a_n38 A_n38 I_n38, gz cI (A_n38 2) 24 f_n38_characters, gz cI (A_n38 1) 2 f_n38_sizes, gz cI (A_n38 0) 2 f_n38_tags, oLy a_n49 I_n49, oDa a_n60 A_n60, gz cI (A_n60 0) 256 f_n60_bytes, oNe a_n71 A_n71 I_n71, gz cI (A_n71 0) 127 f_n71_firstChild, gz cI (A_n71 2) 127 f_n71_lastNibble, gz cI (A_n71 1) 127 f_n71_nextSibling, oNd a_n82 A_n82 I_n82, gz cI (A_n82 1) 110 f_n82_sizes, gz cI (A_n82 0) 110 f_n82_starts, oEn a_n93 I_n93 L_n93, oEn a_n104 I_n104 L_n104, oEn a_n115 I_n115 L_n115] H := hP
  have hD : va_D A [(a_p0, .inr (9, [.ref a_n5, .ref a_n16, .ref a_n27, .ref a_n38, .ref a_n49, .ref a_n60, .ref a_n71, .ref a_n82, .ref a_n93, .ref a_n104, .null, .null, .null, .null])), oSt a_n5 A_n5 I_n5, gz cI (A_n5 0) 900 f_n5_bytes, oWk a_n16 A_n16 I_n16, gz cI (A_n16 0) 8 f_n16_places, oPi a_n27 A_n27 I_n27, gz cI (A_n27 0) 256 f_n27_samples, oLb a_n38 A_n38 I_n38, gz cI (A_n38 2) 24 f_n38_characters, gz cI (A_n38 1) 2 f_n38_sizes, gz cI (A_n38 0) 2 f_n38_tags, oLy a_n49 I_n49, oDa a_n60 A_n60, gz cI (A_n60 0) 256 f_n60_bytes, oNe a_n71 A_n71 I_n71, gz cI (A_n71 0) 127 f_n71_firstChild, gz cI (A_n71 2) 127 f_n71_lastNibble, gz cI (A_n71 1) 127 f_n71_nextSibling, oNd a_n82 A_n82 I_n82, gz cI (A_n82 1) 110 f_n82_sizes, gz cI (A_n82 0) 110 f_n82_starts, oEn a_n93 I_n93 L_n93, oEn a_n104 I_n104 L_n104, oEn a_n115 I_n115 L_n115] := hD
  refine va_putF (D := (dC, dI)) (ci := 9) (v := .ref a_n115) (ty := (.object "TaggedRaster$Entry")) (C := R_X) (T := T_X) (N := 14) hx hb hg in_X t_X tok_X nok_X hown hK hP hD hS 0 rfl rfl 10 (by decide) (hg _ t_317) (fun _ h9 => h9) rfl hnm rfl (by decide +kernel) rfl rfl (Nat.le_of_ble_eq_true rfl) d_X_init_122 (fun H locs hP hD hS => ?_)
  have hP : va_P (dC, dI) vwCl [(a_p0, .inr (9, [.ref a_n5, .ref a_n16, .ref a_n27, .ref a_n38, .ref a_n49, .ref a_n60, .ref a_n71, .ref a_n82, .ref a_n93, .ref a_n104, .ref a_n115, .null, .null, .null])), oSt a_n5 A_n5 I_n5, gz cI (A_n5 0) 900 f_n5_bytes, oWk a_n16 A_n16 I_n16, gz cI (A_n16 0) 8 f_n16_places, oPi a_n27 A_n27 I_n27, gz cI (A_n27 0) 256 f_n27_samples, oLb a_n38 A_n38 I_n38, gz cI (A_n38 2) 24 f_n38_characters, gz cI (A_n38 1) 2 f_n38_sizes, gz cI (A_n38 0) 2 f_n38_tags, oLy a_n49 I_n49, oDa a_n60 A_n60, gz cI (A_n60 0) 256 f_n60_bytes, oNe a_n71 A_n71 I_n71, gz cI (A_n71 0) 127 f_n71_firstChild, gz cI (A_n71 2) 127 f_n71_lastNibble, gz cI (A_n71 1) 127 f_n71_nextSibling, oNd a_n82 A_n82 I_n82, gz cI (A_n82 1) 110 f_n82_sizes, gz cI (A_n82 0) 110 f_n82_starts, oEn a_n93 I_n93 L_n93, oEn a_n104 I_n104 L_n104, oEn a_n115 I_n115 L_n115] H := hP
  have hD : va_D A [(a_p0, .inr (9, [.ref a_n5, .ref a_n16, .ref a_n27, .ref a_n38, .ref a_n49, .ref a_n60, .ref a_n71, .ref a_n82, .ref a_n93, .ref a_n104, .ref a_n115, .null, .null, .null])), oSt a_n5 A_n5 I_n5, gz cI (A_n5 0) 900 f_n5_bytes, oWk a_n16 A_n16 I_n16, gz cI (A_n16 0) 8 f_n16_places, oPi a_n27 A_n27 I_n27, gz cI (A_n27 0) 256 f_n27_samples, oLb a_n38 A_n38 I_n38, gz cI (A_n38 2) 24 f_n38_characters, gz cI (A_n38 1) 2 f_n38_sizes, gz cI (A_n38 0) 2 f_n38_tags, oLy a_n49 I_n49, oDa a_n60 A_n60, gz cI (A_n60 0) 256 f_n60_bytes, oNe a_n71 A_n71 I_n71, gz cI (A_n71 0) 127 f_n71_firstChild, gz cI (A_n71 2) 127 f_n71_lastNibble, gz cI (A_n71 1) 127 f_n71_nextSibling, oNd a_n82 A_n82 I_n82, gz cI (A_n82 1) 110 f_n82_sizes, gz cI (A_n82 0) 110 f_n82_starts, oEn a_n93 I_n93 L_n93, oEn a_n104 I_n104 L_n104, oEn a_n115 I_n115 L_n115] := hD
  refine lv_aload_n hx hb d_X_init_125 rfl (lv_at hl 0 rfl) ?_
  refine lv_bipush (v := 16) hx hb d_X_init_126 (by decide) ?_
  refine va_newa (atype := .int) (n := 16) (N' := 16) (ty := .int) (a0 := (16, .inl (fun _ => 0))) hx hb (hg _ t_105) rfl hK hP hD hS hA (fun _ => rfl) (by decide) (by decide) (by decide) (Nat.le_of_ble_eq_true rfl) (Nat.le_of_ble_eq_true rfl) d_X_init_128 (fun a_n128 cA H hK1 hP hD hS => ?_)
  rw [gk_same hK1] at hP hD
  have hP : va_P (dC, dI) vwCl [(a_p0, .inr (9, [.ref a_n5, .ref a_n16, .ref a_n27, .ref a_n38, .ref a_n49, .ref a_n60, .ref a_n71, .ref a_n82, .ref a_n93, .ref a_n104, .ref a_n115, .null, .null, .null])), oSt a_n5 A_n5 I_n5, gz cI (A_n5 0) 900 f_n5_bytes, oWk a_n16 A_n16 I_n16, gz cI (A_n16 0) 8 f_n16_places, oPi a_n27 A_n27 I_n27, gz cI (A_n27 0) 256 f_n27_samples, oLb a_n38 A_n38 I_n38, gz cI (A_n38 2) 24 f_n38_characters, gz cI (A_n38 1) 2 f_n38_sizes, gz cI (A_n38 0) 2 f_n38_tags, oLy a_n49 I_n49, oDa a_n60 A_n60, gz cI (A_n60 0) 256 f_n60_bytes, oNe a_n71 A_n71 I_n71, gz cI (A_n71 0) 127 f_n71_firstChild, gz cI (A_n71 2) 127 f_n71_lastNibble, gz cI (A_n71 1) 127 f_n71_nextSibling, oNd a_n82 A_n82 I_n82, gz cI (A_n82 1) 110 f_n82_sizes, gz cI (A_n82 0) 110 f_n82_starts, oEn a_n93 I_n93 L_n93, oEn a_n104 I_n104 L_n104, oEn a_n115 I_n115 L_n115, gz cI a_n128 16 (fun _ => 0)] H := hP
  have hD : va_D A [(a_p0, .inr (9, [.ref a_n5, .ref a_n16, .ref a_n27, .ref a_n38, .ref a_n49, .ref a_n60, .ref a_n71, .ref a_n82, .ref a_n93, .ref a_n104, .ref a_n115, .null, .null, .null])), oSt a_n5 A_n5 I_n5, gz cI (A_n5 0) 900 f_n5_bytes, oWk a_n16 A_n16 I_n16, gz cI (A_n16 0) 8 f_n16_places, oPi a_n27 A_n27 I_n27, gz cI (A_n27 0) 256 f_n27_samples, oLb a_n38 A_n38 I_n38, gz cI (A_n38 2) 24 f_n38_characters, gz cI (A_n38 1) 2 f_n38_sizes, gz cI (A_n38 0) 2 f_n38_tags, oLy a_n49 I_n49, oDa a_n60 A_n60, gz cI (A_n60 0) 256 f_n60_bytes, oNe a_n71 A_n71 I_n71, gz cI (A_n71 0) 127 f_n71_firstChild, gz cI (A_n71 2) 127 f_n71_lastNibble, gz cI (A_n71 1) 127 f_n71_nextSibling, oNd a_n82 A_n82 I_n82, gz cI (A_n82 1) 110 f_n82_sizes, gz cI (A_n82 0) 110 f_n82_starts, oEn a_n93 I_n93 L_n93, oEn a_n104 I_n104 L_n104, oEn a_n115 I_n115 L_n115, gz cI a_n128 16 (fun _ => 0)] := hD
  refine va_putF (D := (dC, dI)) (ci := 9) (v := .ref a_n128) (ty := (.array .int)) (C := R_X) (T := T_X) (N := 14) hx hb hg in_X t_X tok_X nok_X hown hK hP hD hS 0 rfl rfl 11 (by decide) (hg _ t_318) (fun _ h9 => h9) rfl hnm rfl (by decide +kernel) rfl rfl (Nat.le_of_ble_eq_true rfl) d_X_init_130 (fun H locs hP hD hS => ?_)
  have hP : va_P (dC, dI) vwCl [(a_p0, .inr (9, [.ref a_n5, .ref a_n16, .ref a_n27, .ref a_n38, .ref a_n49, .ref a_n60, .ref a_n71, .ref a_n82, .ref a_n93, .ref a_n104, .ref a_n115, .ref a_n128, .null, .null])), oSt a_n5 A_n5 I_n5, gz cI (A_n5 0) 900 f_n5_bytes, oWk a_n16 A_n16 I_n16, gz cI (A_n16 0) 8 f_n16_places, oPi a_n27 A_n27 I_n27, gz cI (A_n27 0) 256 f_n27_samples, oLb a_n38 A_n38 I_n38, gz cI (A_n38 2) 24 f_n38_characters, gz cI (A_n38 1) 2 f_n38_sizes, gz cI (A_n38 0) 2 f_n38_tags, oLy a_n49 I_n49, oDa a_n60 A_n60, gz cI (A_n60 0) 256 f_n60_bytes, oNe a_n71 A_n71 I_n71, gz cI (A_n71 0) 127 f_n71_firstChild, gz cI (A_n71 2) 127 f_n71_lastNibble, gz cI (A_n71 1) 127 f_n71_nextSibling, oNd a_n82 A_n82 I_n82, gz cI (A_n82 1) 110 f_n82_sizes, gz cI (A_n82 0) 110 f_n82_starts, oEn a_n93 I_n93 L_n93, oEn a_n104 I_n104 L_n104, oEn a_n115 I_n115 L_n115, gz cI a_n128 16 (fun _ => 0)] H := hP
  have hD : va_D A [(a_p0, .inr (9, [.ref a_n5, .ref a_n16, .ref a_n27, .ref a_n38, .ref a_n49, .ref a_n60, .ref a_n71, .ref a_n82, .ref a_n93, .ref a_n104, .ref a_n115, .ref a_n128, .null, .null])), oSt a_n5 A_n5 I_n5, gz cI (A_n5 0) 900 f_n5_bytes, oWk a_n16 A_n16 I_n16, gz cI (A_n16 0) 8 f_n16_places, oPi a_n27 A_n27 I_n27, gz cI (A_n27 0) 256 f_n27_samples, oLb a_n38 A_n38 I_n38, gz cI (A_n38 2) 24 f_n38_characters, gz cI (A_n38 1) 2 f_n38_sizes, gz cI (A_n38 0) 2 f_n38_tags, oLy a_n49 I_n49, oDa a_n60 A_n60, gz cI (A_n60 0) 256 f_n60_bytes, oNe a_n71 A_n71 I_n71, gz cI (A_n71 0) 127 f_n71_firstChild, gz cI (A_n71 2) 127 f_n71_lastNibble, gz cI (A_n71 1) 127 f_n71_nextSibling, oNd a_n82 A_n82 I_n82, gz cI (A_n82 1) 110 f_n82_sizes, gz cI (A_n82 0) 110 f_n82_starts, oEn a_n93 I_n93 L_n93, oEn a_n104 I_n104 L_n104, oEn a_n115 I_n115 L_n115, gz cI a_n128 16 (fun _ => 0)] := hD
  refine lv_aload_n hx hb d_X_init_133 rfl (lv_at hl 0 rfl) ?_
  refine lv_bipush (v := 16) hx hb d_X_init_134 (by decide) ?_
  refine va_newa (atype := .int) (n := 16) (N' := 16) (ty := .int) (a0 := (16, .inl (fun _ => 0))) hx hb (hg _ t_105) rfl hK hP hD hS hA (fun _ => rfl) (by decide) (by decide) (by decide) (Nat.le_of_ble_eq_true rfl) (Nat.le_of_ble_eq_true rfl) d_X_init_136 (fun a_n136 cA H hK1 hP hD hS => ?_)
  rw [gk_same hK1] at hP hD
  have hP : va_P (dC, dI) vwCl [(a_p0, .inr (9, [.ref a_n5, .ref a_n16, .ref a_n27, .ref a_n38, .ref a_n49, .ref a_n60, .ref a_n71, .ref a_n82, .ref a_n93, .ref a_n104, .ref a_n115, .ref a_n128, .null, .null])), oSt a_n5 A_n5 I_n5, gz cI (A_n5 0) 900 f_n5_bytes, oWk a_n16 A_n16 I_n16, gz cI (A_n16 0) 8 f_n16_places, oPi a_n27 A_n27 I_n27, gz cI (A_n27 0) 256 f_n27_samples, oLb a_n38 A_n38 I_n38, gz cI (A_n38 2) 24 f_n38_characters, gz cI (A_n38 1) 2 f_n38_sizes, gz cI (A_n38 0) 2 f_n38_tags, oLy a_n49 I_n49, oDa a_n60 A_n60, gz cI (A_n60 0) 256 f_n60_bytes, oNe a_n71 A_n71 I_n71, gz cI (A_n71 0) 127 f_n71_firstChild, gz cI (A_n71 2) 127 f_n71_lastNibble, gz cI (A_n71 1) 127 f_n71_nextSibling, oNd a_n82 A_n82 I_n82, gz cI (A_n82 1) 110 f_n82_sizes, gz cI (A_n82 0) 110 f_n82_starts, oEn a_n93 I_n93 L_n93, oEn a_n104 I_n104 L_n104, oEn a_n115 I_n115 L_n115, gz cI a_n128 16 (fun _ => 0), gz cI a_n136 16 (fun _ => 0)] H := hP
  have hD : va_D A [(a_p0, .inr (9, [.ref a_n5, .ref a_n16, .ref a_n27, .ref a_n38, .ref a_n49, .ref a_n60, .ref a_n71, .ref a_n82, .ref a_n93, .ref a_n104, .ref a_n115, .ref a_n128, .null, .null])), oSt a_n5 A_n5 I_n5, gz cI (A_n5 0) 900 f_n5_bytes, oWk a_n16 A_n16 I_n16, gz cI (A_n16 0) 8 f_n16_places, oPi a_n27 A_n27 I_n27, gz cI (A_n27 0) 256 f_n27_samples, oLb a_n38 A_n38 I_n38, gz cI (A_n38 2) 24 f_n38_characters, gz cI (A_n38 1) 2 f_n38_sizes, gz cI (A_n38 0) 2 f_n38_tags, oLy a_n49 I_n49, oDa a_n60 A_n60, gz cI (A_n60 0) 256 f_n60_bytes, oNe a_n71 A_n71 I_n71, gz cI (A_n71 0) 127 f_n71_firstChild, gz cI (A_n71 2) 127 f_n71_lastNibble, gz cI (A_n71 1) 127 f_n71_nextSibling, oNd a_n82 A_n82 I_n82, gz cI (A_n82 1) 110 f_n82_sizes, gz cI (A_n82 0) 110 f_n82_starts, oEn a_n93 I_n93 L_n93, oEn a_n104 I_n104 L_n104, oEn a_n115 I_n115 L_n115, gz cI a_n128 16 (fun _ => 0), gz cI a_n136 16 (fun _ => 0)] := hD
  refine va_putF (D := (dC, dI)) (ci := 9) (v := .ref a_n136) (ty := (.array .int)) (C := R_X) (T := T_X) (N := 14) hx hb hg in_X t_X tok_X nok_X hown hK hP hD hS 0 rfl rfl 12 (by decide) (hg _ t_319) (fun _ h9 => h9) rfl hnm rfl (by decide +kernel) rfl rfl (Nat.le_of_ble_eq_true rfl) d_X_init_138 (fun H locs hP hD hS => ?_)
  have hP : va_P (dC, dI) vwCl [(a_p0, .inr (9, [.ref a_n5, .ref a_n16, .ref a_n27, .ref a_n38, .ref a_n49, .ref a_n60, .ref a_n71, .ref a_n82, .ref a_n93, .ref a_n104, .ref a_n115, .ref a_n128, .ref a_n136, .null])), oSt a_n5 A_n5 I_n5, gz cI (A_n5 0) 900 f_n5_bytes, oWk a_n16 A_n16 I_n16, gz cI (A_n16 0) 8 f_n16_places, oPi a_n27 A_n27 I_n27, gz cI (A_n27 0) 256 f_n27_samples, oLb a_n38 A_n38 I_n38, gz cI (A_n38 2) 24 f_n38_characters, gz cI (A_n38 1) 2 f_n38_sizes, gz cI (A_n38 0) 2 f_n38_tags, oLy a_n49 I_n49, oDa a_n60 A_n60, gz cI (A_n60 0) 256 f_n60_bytes, oNe a_n71 A_n71 I_n71, gz cI (A_n71 0) 127 f_n71_firstChild, gz cI (A_n71 2) 127 f_n71_lastNibble, gz cI (A_n71 1) 127 f_n71_nextSibling, oNd a_n82 A_n82 I_n82, gz cI (A_n82 1) 110 f_n82_sizes, gz cI (A_n82 0) 110 f_n82_starts, oEn a_n93 I_n93 L_n93, oEn a_n104 I_n104 L_n104, oEn a_n115 I_n115 L_n115, gz cI a_n128 16 (fun _ => 0), gz cI a_n136 16 (fun _ => 0)] H := hP
  have hD : va_D A [(a_p0, .inr (9, [.ref a_n5, .ref a_n16, .ref a_n27, .ref a_n38, .ref a_n49, .ref a_n60, .ref a_n71, .ref a_n82, .ref a_n93, .ref a_n104, .ref a_n115, .ref a_n128, .ref a_n136, .null])), oSt a_n5 A_n5 I_n5, gz cI (A_n5 0) 900 f_n5_bytes, oWk a_n16 A_n16 I_n16, gz cI (A_n16 0) 8 f_n16_places, oPi a_n27 A_n27 I_n27, gz cI (A_n27 0) 256 f_n27_samples, oLb a_n38 A_n38 I_n38, gz cI (A_n38 2) 24 f_n38_characters, gz cI (A_n38 1) 2 f_n38_sizes, gz cI (A_n38 0) 2 f_n38_tags, oLy a_n49 I_n49, oDa a_n60 A_n60, gz cI (A_n60 0) 256 f_n60_bytes, oNe a_n71 A_n71 I_n71, gz cI (A_n71 0) 127 f_n71_firstChild, gz cI (A_n71 2) 127 f_n71_lastNibble, gz cI (A_n71 1) 127 f_n71_nextSibling, oNd a_n82 A_n82 I_n82, gz cI (A_n82 1) 110 f_n82_sizes, gz cI (A_n82 0) 110 f_n82_starts, oEn a_n93 I_n93 L_n93, oEn a_n104 I_n104 L_n104, oEn a_n115 I_n115 L_n115, gz cI a_n128 16 (fun _ => 0), gz cI a_n136 16 (fun _ => 0)] := hD
  refine lv_aload_n hx hb d_X_init_141 rfl (lv_at hl 0 rfl) ?_
  refine lv_iconst (v := 2) hx hb d_X_init_142 (by decide) ?_
  refine va_newa (atype := .int) (n := 2) (N' := 2) (ty := .int) (a0 := (2, .inl (fun _ => 0))) hx hb (hg _ t_105) rfl hK hP hD hS hA (fun _ => rfl) (by decide) (by decide) (by decide) (Nat.le_of_ble_eq_true rfl) (Nat.le_of_ble_eq_true rfl) d_X_init_143 (fun a_n143 cA H hK1 hP hD hS => ?_)
  rw [gk_same hK1] at hP hD
  have hP : va_P (dC, dI) vwCl [(a_p0, .inr (9, [.ref a_n5, .ref a_n16, .ref a_n27, .ref a_n38, .ref a_n49, .ref a_n60, .ref a_n71, .ref a_n82, .ref a_n93, .ref a_n104, .ref a_n115, .ref a_n128, .ref a_n136, .null])), oSt a_n5 A_n5 I_n5, gz cI (A_n5 0) 900 f_n5_bytes, oWk a_n16 A_n16 I_n16, gz cI (A_n16 0) 8 f_n16_places, oPi a_n27 A_n27 I_n27, gz cI (A_n27 0) 256 f_n27_samples, oLb a_n38 A_n38 I_n38, gz cI (A_n38 2) 24 f_n38_characters, gz cI (A_n38 1) 2 f_n38_sizes, gz cI (A_n38 0) 2 f_n38_tags, oLy a_n49 I_n49, oDa a_n60 A_n60, gz cI (A_n60 0) 256 f_n60_bytes, oNe a_n71 A_n71 I_n71, gz cI (A_n71 0) 127 f_n71_firstChild, gz cI (A_n71 2) 127 f_n71_lastNibble, gz cI (A_n71 1) 127 f_n71_nextSibling, oNd a_n82 A_n82 I_n82, gz cI (A_n82 1) 110 f_n82_sizes, gz cI (A_n82 0) 110 f_n82_starts, oEn a_n93 I_n93 L_n93, oEn a_n104 I_n104 L_n104, oEn a_n115 I_n115 L_n115, gz cI a_n128 16 (fun _ => 0), gz cI a_n136 16 (fun _ => 0), gz cI a_n143 2 (fun _ => 0)] H := hP
  have hD : va_D A [(a_p0, .inr (9, [.ref a_n5, .ref a_n16, .ref a_n27, .ref a_n38, .ref a_n49, .ref a_n60, .ref a_n71, .ref a_n82, .ref a_n93, .ref a_n104, .ref a_n115, .ref a_n128, .ref a_n136, .null])), oSt a_n5 A_n5 I_n5, gz cI (A_n5 0) 900 f_n5_bytes, oWk a_n16 A_n16 I_n16, gz cI (A_n16 0) 8 f_n16_places, oPi a_n27 A_n27 I_n27, gz cI (A_n27 0) 256 f_n27_samples, oLb a_n38 A_n38 I_n38, gz cI (A_n38 2) 24 f_n38_characters, gz cI (A_n38 1) 2 f_n38_sizes, gz cI (A_n38 0) 2 f_n38_tags, oLy a_n49 I_n49, oDa a_n60 A_n60, gz cI (A_n60 0) 256 f_n60_bytes, oNe a_n71 A_n71 I_n71, gz cI (A_n71 0) 127 f_n71_firstChild, gz cI (A_n71 2) 127 f_n71_lastNibble, gz cI (A_n71 1) 127 f_n71_nextSibling, oNd a_n82 A_n82 I_n82, gz cI (A_n82 1) 110 f_n82_sizes, gz cI (A_n82 0) 110 f_n82_starts, oEn a_n93 I_n93 L_n93, oEn a_n104 I_n104 L_n104, oEn a_n115 I_n115 L_n115, gz cI a_n128 16 (fun _ => 0), gz cI a_n136 16 (fun _ => 0), gz cI a_n143 2 (fun _ => 0)] := hD
  refine va_putF (D := (dC, dI)) (ci := 9) (v := .ref a_n143) (ty := (.array .int)) (C := R_X) (T := T_X) (N := 14) hx hb hg in_X t_X tok_X nok_X hown hK hP hD hS 0 rfl rfl 13 (by decide) (hg _ t_320) (fun _ h9 => h9) rfl hnm rfl (by decide +kernel) rfl rfl (Nat.le_of_ble_eq_true rfl) d_X_init_145 (fun H locs hP hD hS => ?_)
  have hP : va_P (dC, dI) vwCl [(a_p0, .inr (9, [.ref a_n5, .ref a_n16, .ref a_n27, .ref a_n38, .ref a_n49, .ref a_n60, .ref a_n71, .ref a_n82, .ref a_n93, .ref a_n104, .ref a_n115, .ref a_n128, .ref a_n136, .ref a_n143])), oSt a_n5 A_n5 I_n5, gz cI (A_n5 0) 900 f_n5_bytes, oWk a_n16 A_n16 I_n16, gz cI (A_n16 0) 8 f_n16_places, oPi a_n27 A_n27 I_n27, gz cI (A_n27 0) 256 f_n27_samples, oLb a_n38 A_n38 I_n38, gz cI (A_n38 2) 24 f_n38_characters, gz cI (A_n38 1) 2 f_n38_sizes, gz cI (A_n38 0) 2 f_n38_tags, oLy a_n49 I_n49, oDa a_n60 A_n60, gz cI (A_n60 0) 256 f_n60_bytes, oNe a_n71 A_n71 I_n71, gz cI (A_n71 0) 127 f_n71_firstChild, gz cI (A_n71 2) 127 f_n71_lastNibble, gz cI (A_n71 1) 127 f_n71_nextSibling, oNd a_n82 A_n82 I_n82, gz cI (A_n82 1) 110 f_n82_sizes, gz cI (A_n82 0) 110 f_n82_starts, oEn a_n93 I_n93 L_n93, oEn a_n104 I_n104 L_n104, oEn a_n115 I_n115 L_n115, gz cI a_n128 16 (fun _ => 0), gz cI a_n136 16 (fun _ => 0), gz cI a_n143 2 (fun _ => 0)] H := hP
  have hD : va_D A [(a_p0, .inr (9, [.ref a_n5, .ref a_n16, .ref a_n27, .ref a_n38, .ref a_n49, .ref a_n60, .ref a_n71, .ref a_n82, .ref a_n93, .ref a_n104, .ref a_n115, .ref a_n128, .ref a_n136, .ref a_n143])), oSt a_n5 A_n5 I_n5, gz cI (A_n5 0) 900 f_n5_bytes, oWk a_n16 A_n16 I_n16, gz cI (A_n16 0) 8 f_n16_places, oPi a_n27 A_n27 I_n27, gz cI (A_n27 0) 256 f_n27_samples, oLb a_n38 A_n38 I_n38, gz cI (A_n38 2) 24 f_n38_characters, gz cI (A_n38 1) 2 f_n38_sizes, gz cI (A_n38 0) 2 f_n38_tags, oLy a_n49 I_n49, oDa a_n60 A_n60, gz cI (A_n60 0) 256 f_n60_bytes, oNe a_n71 A_n71 I_n71, gz cI (A_n71 0) 127 f_n71_firstChild, gz cI (A_n71 2) 127 f_n71_lastNibble, gz cI (A_n71 1) 127 f_n71_nextSibling, oNd a_n82 A_n82 I_n82, gz cI (A_n82 1) 110 f_n82_sizes, gz cI (A_n82 0) 110 f_n82_starts, oEn a_n93 I_n93 L_n93, oEn a_n104 I_n104 L_n104, oEn a_n115 I_n115 L_n115, gz cI a_n128 16 (fun _ => 0), gz cI a_n136 16 (fun _ => 0), gz cI a_n143 2 (fun _ => 0)] := hD
  refine lv_aload_n hx hb d_X_init_148 rfl (lv_at hl 0 rfl) ?_
  refine va_get (D := (dC, dI)) (ci := 9) (v := .ref a_n5) (C := R_X) (T := T_X) (N := 14) hx hb hg in_X hown hK hP 0 rfl rfl 0 (by decide) (hg _ t_307) (fun _ h9 => h9) rfl d_X_init_149 ?_
  refine lv_iconst (v := 0) hx hb d_X_init_152 (by decide) ?_
  refine gc_v (wn := fun u => [(a_p0, .inr (9, [.ref a_n5, .ref a_n16, .ref a_n27, .ref a_n38, .ref a_n49, .ref a_n60, .ref a_n71, .ref a_n82, .ref a_n93, .ref a_n104, .ref a_n115, .ref a_n128, .ref a_n136, .ref a_n143])), oSt a_n5 A_n5 u.1, gz cI (A_n5 0) 900 u.2, oWk a_n16 A_n16 I_n16, gz cI (A_n16 0) 8 f_n16_places, oPi a_n27 A_n27 I_n27, gz cI (A_n27 0) 256 f_n27_samples, oLb a_n38 A_n38 I_n38, gz cI (A_n38 2) 24 f_n38_characters, gz cI (A_n38 1) 2 f_n38_sizes, gz cI (A_n38 0) 2 f_n38_tags, oLy a_n49 I_n49, oDa a_n60 A_n60, gz cI (A_n60 0) 256 f_n60_bytes, oNe a_n71 A_n71 I_n71, gz cI (A_n71 0) 127 f_n71_firstChild, gz cI (A_n71 2) 127 f_n71_lastNibble, gz cI (A_n71 1) 127 f_n71_nextSibling, oNd a_n82 A_n82 I_n82, gz cI (A_n82 1) 110 f_n82_sizes, gz cI (A_n82 0) 110 f_n82_starts, oEn a_n93 I_n93 L_n93, oEn a_n104 I_n104 L_n104, oEn a_n115 I_n115 L_n115, gz cI a_n128 16 (fun _ => 0), gz cI a_n136 16 (fun _ => 0), gz cI a_n143 2 (fun _ => 0)]) (wr := [(a_p0, .inr (9, [.ref a_n5, .ref a_n16, .ref a_n27, .ref a_n38, .ref a_n49, .ref a_n60, .ref a_n71, .ref a_n82, .ref a_n93, .ref a_n104, .ref a_n115, .ref a_n128, .ref a_n136, .ref a_n143])), oWk a_n16 A_n16 I_n16, gz cI (A_n16 0) 8 f_n16_places, oPi a_n27 A_n27 I_n27, gz cI (A_n27 0) 256 f_n27_samples, oLb a_n38 A_n38 I_n38, gz cI (A_n38 2) 24 f_n38_characters, gz cI (A_n38 1) 2 f_n38_sizes, gz cI (A_n38 0) 2 f_n38_tags, oLy a_n49 I_n49, oDa a_n60 A_n60, gz cI (A_n60 0) 256 f_n60_bytes, oNe a_n71 A_n71 I_n71, gz cI (A_n71 0) 127 f_n71_firstChild, gz cI (A_n71 2) 127 f_n71_lastNibble, gz cI (A_n71 1) 127 f_n71_nextSibling, oNd a_n82 A_n82 I_n82, gz cI (A_n82 1) 110 f_n82_sizes, gz cI (A_n82 0) 110 f_n82_starts, oEn a_n93 I_n93 L_n93, oEn a_n104 I_n104 L_n104, oEn a_n115 I_n115 L_n115, gz cI a_n128 16 (fun _ => 0), gz cI a_n136 16 (fun _ => 0), gz cI a_n143 2 (fun _ => 0)]) (gr_V (As := [.int 0]) (rest := []) ⟨hx, hb, hml, hown, hg⟩ (c_St_restart l dC dI cI a_n5 A_n5 I_n5 f_n5_bytes 0 hw _) (cwV 1 hg (gg_V t_280 t_281 t_282 t_61 t_283) rfl rfl rfl (by decide +kernel) ⟨Nat.le_of_ble_eq_true rfl, Nat.le_of_ble_eq_true rfl⟩) hK hN hP hD [1, 2] (by decide) rfl 1 7 rfl rfl rfl rfl hl.1 rfl (Nat.le_of_ble_eq_true rfl) d_X_init_153 ⟨Nat.le_of_ble_eq_true rfl, Nat.le_of_ble_eq_true rfl⟩) rfl rfl hP hD hS hA [1, 2] [0, 3, 4, 5, 6, 7, 8, 9, 10, 11, 12, 13, 14, 15, 16, 17, 18, 19, 20, 21, 22, 23, 24, 25, 26] [0, 25, 26, 1, 2, 3, 4, 5, 6, 7, 8, 9, 10, 11, 12, 13, 14, 15, 16, 17, 18, 19, 20, 21, 22, 23, 24] rfl rfl (by decide) (by decide) (by decide) (fun _ => rfl) ?_
  intro u9 H locs hw hP hD hS
  obtain ⟨I_n5_153, f_n5_bytes_153⟩ := u9
  try dsimp only at hw
  have hP : va_P (dC, dI) vwCl [(a_p0, .inr (9, [.ref a_n5, .ref a_n16, .ref a_n27, .ref a_n38, .ref a_n49, .ref a_n60, .ref a_n71, .ref a_n82, .ref a_n93, .ref a_n104, .ref a_n115, .ref a_n128, .ref a_n136, .ref a_n143])), oSt a_n5 A_n5 I_n5_153, gz cI (A_n5 0) 900 f_n5_bytes_153, oWk a_n16 A_n16 I_n16, gz cI (A_n16 0) 8 f_n16_places, oPi a_n27 A_n27 I_n27, gz cI (A_n27 0) 256 f_n27_samples, oLb a_n38 A_n38 I_n38, gz cI (A_n38 2) 24 f_n38_characters, gz cI (A_n38 1) 2 f_n38_sizes, gz cI (A_n38 0) 2 f_n38_tags, oLy a_n49 I_n49, oDa a_n60 A_n60, gz cI (A_n60 0) 256 f_n60_bytes, oNe a_n71 A_n71 I_n71, gz cI (A_n71 0) 127 f_n71_firstChild, gz cI (A_n71 2) 127 f_n71_lastNibble, gz cI (A_n71 1) 127 f_n71_nextSibling, oNd a_n82 A_n82 I_n82, gz cI (A_n82 1) 110 f_n82_sizes, gz cI (A_n82 0) 110 f_n82_starts, oEn a_n93 I_n93 L_n93, oEn a_n104 I_n104 L_n104, oEn a_n115 I_n115 L_n115, gz cI a_n128 16 (fun _ => 0), gz cI a_n136 16 (fun _ => 0), gz cI a_n143 2 (fun _ => 0)] H := hP
  have hD : va_D A [(a_p0, .inr (9, [.ref a_n5, .ref a_n16, .ref a_n27, .ref a_n38, .ref a_n49, .ref a_n60, .ref a_n71, .ref a_n82, .ref a_n93, .ref a_n104, .ref a_n115, .ref a_n128, .ref a_n136, .ref a_n143])), oSt a_n5 A_n5 I_n5_153, gz cI (A_n5 0) 900 f_n5_bytes_153, oWk a_n16 A_n16 I_n16, gz cI (A_n16 0) 8 f_n16_places, oPi a_n27 A_n27 I_n27, gz cI (A_n27 0) 256 f_n27_samples, oLb a_n38 A_n38 I_n38, gz cI (A_n38 2) 24 f_n38_characters, gz cI (A_n38 1) 2 f_n38_sizes, gz cI (A_n38 0) 2 f_n38_tags, oLy a_n49 I_n49, oDa a_n60 A_n60, gz cI (A_n60 0) 256 f_n60_bytes, oNe a_n71 A_n71 I_n71, gz cI (A_n71 0) 127 f_n71_firstChild, gz cI (A_n71 2) 127 f_n71_lastNibble, gz cI (A_n71 1) 127 f_n71_nextSibling, oNd a_n82 A_n82 I_n82, gz cI (A_n82 1) 110 f_n82_sizes, gz cI (A_n82 0) 110 f_n82_starts, oEn a_n93 I_n93 L_n93, oEn a_n104 I_n104 L_n104, oEn a_n115 I_n115 L_n115, gz cI a_n128 16 (fun _ => 0), gz cI a_n136 16 (fun _ => 0), gz cI a_n143 2 (fun _ => 0)] := hD
  refine lv_aload_n hx hb d_X_init_156 rfl (lv_at hl 0 rfl) ?_
  refine va_get (D := (dC, dI)) (ci := 9) (v := .ref a_n27) (C := R_X) (T := T_X) (N := 14) hx hb hg in_X hown hK hP 0 rfl rfl 2 (by decide) (hg _ t_309) (fun _ h9 => h9) rfl d_X_init_157 ?_
  refine lv_iconst (v := 1) hx hb d_X_init_160 (by decide) ?_
  refine lv_iconst (v := 1) hx hb d_X_init_161 (by decide) ?_
  refine lv_iconst (v := 1) hx hb d_X_init_162 (by decide) ?_
  refine gc_v (wn := fun u => [(a_p0, .inr (9, [.ref a_n5, .ref a_n16, .ref a_n27, .ref a_n38, .ref a_n49, .ref a_n60, .ref a_n71, .ref a_n82, .ref a_n93, .ref a_n104, .ref a_n115, .ref a_n128, .ref a_n136, .ref a_n143])), oSt a_n5 A_n5 I_n5_153, gz cI (A_n5 0) 900 f_n5_bytes_153, oWk a_n16 A_n16 I_n16, gz cI (A_n16 0) 8 f_n16_places, oPi a_n27 A_n27 u.1, gz cI (A_n27 0) 256 u.2, oLb a_n38 A_n38 I_n38, gz cI (A_n38 2) 24 f_n38_characters, gz cI (A_n38 1) 2 f_n38_sizes, gz cI (A_n38 0) 2 f_n38_tags, oLy a_n49 I_n49, oDa a_n60 A_n60, gz cI (A_n60 0) 256 f_n60_bytes, oNe a_n71 A_n71 I_n71, gz cI (A_n71 0) 127 f_n71_firstChild, gz cI (A_n71 2) 127 f_n71_lastNibble, gz cI (A_n71 1) 127 f_n71_nextSibling, oNd a_n82 A_n82 I_n82, gz cI (A_n82 1) 110 f_n82_sizes, gz cI (A_n82 0) 110 f_n82_starts, oEn a_n93 I_n93 L_n93, oEn a_n104 I_n104 L_n104, oEn a_n115 I_n115 L_n115, gz cI a_n128 16 (fun _ => 0), gz cI a_n136 16 (fun _ => 0), gz cI a_n143 2 (fun _ => 0)]) (wr := [(a_p0, .inr (9, [.ref a_n5, .ref a_n16, .ref a_n27, .ref a_n38, .ref a_n49, .ref a_n60, .ref a_n71, .ref a_n82, .ref a_n93, .ref a_n104, .ref a_n115, .ref a_n128, .ref a_n136, .ref a_n143])), oSt a_n5 A_n5 I_n5_153, gz cI (A_n5 0) 900 f_n5_bytes_153, oWk a_n16 A_n16 I_n16, gz cI (A_n16 0) 8 f_n16_places, oLb a_n38 A_n38 I_n38, gz cI (A_n38 2) 24 f_n38_characters, gz cI (A_n38 1) 2 f_n38_sizes, gz cI (A_n38 0) 2 f_n38_tags, oLy a_n49 I_n49, oDa a_n60 A_n60, gz cI (A_n60 0) 256 f_n60_bytes, oNe a_n71 A_n71 I_n71, gz cI (A_n71 0) 127 f_n71_firstChild, gz cI (A_n71 2) 127 f_n71_lastNibble, gz cI (A_n71 1) 127 f_n71_nextSibling, oNd a_n82 A_n82 I_n82, gz cI (A_n82 1) 110 f_n82_sizes, gz cI (A_n82 0) 110 f_n82_starts, oEn a_n93 I_n93 L_n93, oEn a_n104 I_n104 L_n104, oEn a_n115 I_n115 L_n115, gz cI a_n128 16 (fun _ => 0), gz cI a_n136 16 (fun _ => 0), gz cI a_n143 2 (fun _ => 0)]) (gr_V (As := [.int 1, .int 1, .int 1]) (rest := []) ⟨hx, hb, hml, hown, hg⟩ (c_Pi_become l dC dI cI a_n27 A_n27 I_n27 f_n27_samples 1 1 1 hw _) (cwV 3 hg (gg_V t_300 t_301 t_302 t_63 t_303) rfl rfl rfl (by decide +kernel) ⟨Nat.le_of_ble_eq_true rfl, Nat.le_of_ble_eq_true rfl⟩) hK hN hP hD [5, 6] (by decide) rfl 5 6 rfl rfl rfl rfl hl.1 rfl (Nat.le_of_ble_eq_true rfl) d_X_init_163 ⟨Nat.le_of_ble_eq_true rfl, Nat.le_of_ble_eq_true rfl⟩) rfl rfl hP hD hS hA [5, 6] [0, 1, 2, 3, 4, 7, 8, 9, 10, 11, 12, 13, 14, 15, 16, 17, 18, 19, 20, 21, 22, 23, 24, 25, 26] [0, 1, 2, 3, 4, 25, 26, 5, 6, 7, 8, 9, 10, 11, 12, 13, 14, 15, 16, 17, 18, 19, 20, 21, 22, 23, 24] rfl rfl (by decide) (by decide) (by decide) (fun _ => rfl) ?_
  intro u9 H locs hw hP hD hS
  obtain ⟨I_n27_163, f_n27_samples_163⟩ := u9
  try dsimp only at hw
  have hP : va_P (dC, dI) vwCl [(a_p0, .inr (9, [.ref a_n5, .ref a_n16, .ref a_n27, .ref a_n38, .ref a_n49, .ref a_n60, .ref a_n71, .ref a_n82, .ref a_n93, .ref a_n104, .ref a_n115, .ref a_n128, .ref a_n136, .ref a_n143])), oSt a_n5 A_n5 I_n5_153, gz cI (A_n5 0) 900 f_n5_bytes_153, oWk a_n16 A_n16 I_n16, gz cI (A_n16 0) 8 f_n16_places, oPi a_n27 A_n27 I_n27_163, gz cI (A_n27 0) 256 f_n27_samples_163, oLb a_n38 A_n38 I_n38, gz cI (A_n38 2) 24 f_n38_characters, gz cI (A_n38 1) 2 f_n38_sizes, gz cI (A_n38 0) 2 f_n38_tags, oLy a_n49 I_n49, oDa a_n60 A_n60, gz cI (A_n60 0) 256 f_n60_bytes, oNe a_n71 A_n71 I_n71, gz cI (A_n71 0) 127 f_n71_firstChild, gz cI (A_n71 2) 127 f_n71_lastNibble, gz cI (A_n71 1) 127 f_n71_nextSibling, oNd a_n82 A_n82 I_n82, gz cI (A_n82 1) 110 f_n82_sizes, gz cI (A_n82 0) 110 f_n82_starts, oEn a_n93 I_n93 L_n93, oEn a_n104 I_n104 L_n104, oEn a_n115 I_n115 L_n115, gz cI a_n128 16 (fun _ => 0), gz cI a_n136 16 (fun _ => 0), gz cI a_n143 2 (fun _ => 0)] H := hP
  have hD : va_D A [(a_p0, .inr (9, [.ref a_n5, .ref a_n16, .ref a_n27, .ref a_n38, .ref a_n49, .ref a_n60, .ref a_n71, .ref a_n82, .ref a_n93, .ref a_n104, .ref a_n115, .ref a_n128, .ref a_n136, .ref a_n143])), oSt a_n5 A_n5 I_n5_153, gz cI (A_n5 0) 900 f_n5_bytes_153, oWk a_n16 A_n16 I_n16, gz cI (A_n16 0) 8 f_n16_places, oPi a_n27 A_n27 I_n27_163, gz cI (A_n27 0) 256 f_n27_samples_163, oLb a_n38 A_n38 I_n38, gz cI (A_n38 2) 24 f_n38_characters, gz cI (A_n38 1) 2 f_n38_sizes, gz cI (A_n38 0) 2 f_n38_tags, oLy a_n49 I_n49, oDa a_n60 A_n60, gz cI (A_n60 0) 256 f_n60_bytes, oNe a_n71 A_n71 I_n71, gz cI (A_n71 0) 127 f_n71_firstChild, gz cI (A_n71 2) 127 f_n71_lastNibble, gz cI (A_n71 1) 127 f_n71_nextSibling, oNd a_n82 A_n82 I_n82, gz cI (A_n82 1) 110 f_n82_sizes, gz cI (A_n82 0) 110 f_n82_starts, oEn a_n93 I_n93 L_n93, oEn a_n104 I_n104 L_n104, oEn a_n115 I_n115 L_n115, gz cI a_n128 16 (fun _ => 0), gz cI a_n136 16 (fun _ => 0), gz cI a_n143 2 (fun _ => 0)] := hD
  exact hret _ _ _ _ ((gl [a_n5, a_n16, a_n27, a_n38, a_n49, a_n60, a_n71, a_n82, a_n93, a_n104, a_n115, a_n128, a_n136, a_n143]), A_n60, f_n60_bytes, A_n82, I_n82, f_n82_sizes, f_n82_starts, A_n71, I_n71, f_n71_firstChild, f_n71_lastNibble, f_n71_nextSibling, I_n93, L_n93, A_n5, I_n5_153, f_n5_bytes_153, A_n38, I_n38, f_n38_characters, f_n38_sizes, f_n38_tags, I_n49, A_n27, I_n27_163, f_n27_samples_163, I_n115, L_n115, I_n104, L_n104, A_n16, I_n16, f_n16_places, (fun _ => 0), (fun _ => 0), (fun _ => 0)) d_X_init_166 (gm_sub hP [0, 12, 13, 18, 19, 20, 14, 15, 16, 17, 21, 1, 2, 7, 8, 9, 10, 11, 5, 6, 23, 22, 3, 4, 25, 24, 26] rfl) (hD.sub [0, 12, 13, 18, 19, 20, 14, 15, 16, 17, 21, 1, 2, 7, 8, 9, 10, 11, 5, 6, 23, 22, 3, 4, 25, 24, 26] (by decide) rfl) hS hw
theorem d_St_appendToEven_0 : decode b_St_appendToEven 0 = .ok (.aload_n 0, 1) := by decide +kernel
theorem d_St_appendToEven_1 : decode b_St_appendToEven 1 = .ok (.getfield 15, 3) := by decide +kernel
theorem d_St_appendToEven_4 : decode b_St_appendToEven 4 = .ok (.iconst 2, 1) := by decide +kernel
theorem d_St_appendToEven_5 : decode b_St_appendToEven 5 = .ok (.irem, 1) := by decide +kernel
theorem d_St_appendToEven_6 : decode b_St_appendToEven 6 = .ok (.ifCond .eq 8, 3) := by decide +kernel
theorem d_St_appendToEven_9 : decode b_St_appendToEven 9 = .ok (.aload_n 0, 1) := by decide +kernel
theorem d_St_appendToEven_10 : decode b_St_appendToEven 10 = .ok (.iconst 0, 1) := by decide +kernel
theorem d_St_appendToEven_11 : decode b_St_appendToEven 11 = .ok (.invokevirtual 19, 3) := by decide +kernel
theorem d_St_appendToEven_14 : decode b_St_appendToEven 14 = .ok (.return_, 1) := by decide +kernel
def wp_St_appendToEven (post : (Nat → Int32) → (Nat → Int32) → Prop) (I_p0 : Nat → Int32) (f_p0_bytes : Nat → Int32) : Prop :=
  ((((I_p0 2) - (I_p0 2) / 2 * 2) = 0 →
    post I_p0 f_p0_bytes) ∧
   (¬ ((I_p0 2) - (I_p0 2) / 2 * 2) = 0 →
    wp_St_append (fun (I_p0_11 : Nat → Int32) (f_p0_bytes_11 : Nat → Int32) =>
      post I_p0_11 f_p0_bytes_11) I_p0 f_p0_bytes 0))
set_option maxRecDepth 100000 in
set_option maxHeartbeats 4000000 in
theorem c_St_appendToEven (l : Launch) (dC : Nat → ClassId) (dI : Nat → Nat → Nat) (cI : ClassId) (a_p0 : Nat) (A_p0 : Nat → Nat) (I_p0 : Nat → Int32) (f_p0_bytes : Nat → Int32) {post : (Nat → Int32) → (Nat → Int32) → Prop} (hw : wp_St_appendToEven post I_p0 f_p0_bytes) : gm_v l y_St_appendToEven ws_St_appendToEven ({ frames := 1, cells := 0, slots := 0, locals := 21 } : Room) (dC, dI) vwCl [(cI, .int)] [.ref a_p0] [oSt a_p0 A_p0 I_p0, gz cI (A_p0 0) 900 f_p0_bytes] (fun (u : (Nat → Int32) × (Nat → Int32)) => [oSt a_p0 A_p0 u.1, gz cI (A_p0 0) 900 u.2]) (fun (u : (Nat → Int32) × (Nat → Int32)) => post  u.1 u.2) := by
  refine gm_vof (cc := b_St_appendToEven) (maxL := 1) (by decide) rfl (Nat.le_of_ble_eq_true rfl) ?_
  intro p e s m args below meth c A Q hx hb hml hown hg hK hN hA hnm hret
  have hown : s.vm.findClass R_St = some m.cls := hown
  intro ls hl hP hD hS
  have hl : lv_has ls 1 [(0, .ref a_p0)] := hl
  unfold wp_St_appendToEven at hw
  refine lv_aload_n hx hb d_St_appendToEven_0 rfl (lv_at hl 0 rfl) ?_
  refine va_get (D := (dC, dI)) (ci := 7) (v := .int (I_p0 2)) (C := R_St) (T := T_St) (N := 3) hx hb hg in_St hown hK hP 0 rfl rfl 2 (by decide) (hg _ t_96) (fun _ h9 => h9) rfl d_St_appendToEven_1 ?_
  refine lv_iconst (v := 2) hx hb d_St_appendToEven_4 (by decide) ?_
  refine lv_irem hx hb d_St_appendToEven_5 (by decide) ?_
  refine lv_if_eq hx hb d_St_appendToEven_6 rfl (fun hc => ?_) (fun hc => ?_)
  · have hw := hw.1 hc
    exact hret _ _ _ _ (I_p0, f_p0_bytes) d_St_appendToEven_14 hP hD hS hw
  · have hw := hw.2 hc
    refine lv_aload_n hx hb d_St_appendToEven_9 rfl (lv_at hl 0 rfl) ?_
    refine lv_iconst (v := 0) hx hb d_St_appendToEven_10 (by decide) ?_
    refine gc_v (wn := fun u => [oSt a_p0 A_p0 u.1, gz cI (A_p0 0) 900 u.2]) (wr := []) (gr_V (As := [.int 0]) (rest := []) ⟨hx, hb, hml, hown, hg⟩ (c_St_append l dC dI cI a_p0 A_p0 I_p0 f_p0_bytes 0 hw _) (cwV 1 hg (gg_V t_284 t_285 t_286 t_61 t_287) rfl rfl rfl (by decide +kernel) ⟨Nat.le_of_ble_eq_true rfl, Nat.le_of_ble_eq_true rfl⟩) hK hN hP hD [0, 1] (by decide) rfl 0 7 rfl rfl rfl rfl hl.1 rfl (Nat.le_of_ble_eq_true rfl) d_St_appendToEven_11 ⟨Nat.le_of_ble_eq_true rfl, Nat.le_of_ble_eq_true rfl⟩) rfl rfl hP hD hS hA [0, 1] [] [0, 1] rfl rfl (by decide) (by decide) (by decide) (fun _ => rfl) ?_
    intro u9 H locs hw hP hD hS
    obtain ⟨I_p0_11, f_p0_bytes_11⟩ := u9
    try dsimp only at hw
    have hP : va_P (dC, dI) vwCl [oSt a_p0 A_p0 I_p0_11, gz cI (A_p0 0) 900 f_p0_bytes_11] H := hP
    have hD : va_D A [oSt a_p0 A_p0 I_p0_11, gz cI (A_p0 0) 900 f_p0_bytes_11] := hD
    exact hret _ _ _ _ (I_p0_11, f_p0_bytes_11) d_St_appendToEven_14 hP hD hS hw
theorem d_X_appendShortEntry_0 : decode b_X_appendShortEntry 0 = .ok (.aload_n 0, 1) := by decide +kernel
theorem d_X_appendShortEntry_1 : decode b_X_appendShortEntry 1 = .ok (.getfield 10, 3) := by decide +kernel
theorem d_X_appendShortEntry_4 : decode b_X_appendShortEntry 4 = .ok (.iload_n 1, 1) := by decide +kernel
theorem d_X_appendShortEntry_5 : decode b_X_appendShortEntry 5 = .ok (.invokevirtual 299, 3) := by decide +kernel
theorem d_X_appendShortEntry_8 : decode b_X_appendShortEntry 8 = .ok (.aload_n 0, 1) := by decide +kernel
theorem d_X_appendShortEntry_9 : decode b_X_appendShortEntry 9 = .ok (.getfield 10, 3) := by decide +kernel
theorem d_X_appendShortEntry_12 : decode b_X_appendShortEntry 12 = .ok (.iconst 3, 1) := by decide +kernel
theorem d_X_appendShortEntry_13 : decode b_X_appendShortEntry 13 = .ok (.invokevirtual 299, 3) := by decide +kernel
theorem d_X_appendShortEntry_16 : decode b_X_appendShortEntry 16 = .ok (.aload_n 0, 1) := by decide +kernel
theorem d_X_appendShortEntry_17 : decode b_X_appendShortEntry 17 = .ok (.getfield 10, 3) := by decide +kernel
theorem d_X_appendShortEntry_20 : decode b_X_appendShortEntry 20 = .ok (.iconst 1, 1) := by decide +kernel
theorem d_X_appendShortEntry_21 : decode b_X_appendShortEntry 21 = .ok (.invokevirtual 286, 3) := by decide +kernel
theorem d_X_appendShortEntry_24 : decode b_X_appendShortEntry 24 = .ok (.aload_n 0, 1) := by decide +kernel
theorem d_X_appendShortEntry_25 : decode b_X_appendShortEntry 25 = .ok (.getfield 10, 3) := by decide +kernel
theorem d_X_appendShortEntry_28 : decode b_X_appendShortEntry 28 = .ok (.iload_n 2, 1) := by decide +kernel
theorem d_X_appendShortEntry_29 : decode b_X_appendShortEntry 29 = .ok (.invokevirtual 299, 3) := by decide +kernel
theorem d_X_appendShortEntry_32 : decode b_X_appendShortEntry 32 = .ok (.aload_n 0, 1) := by decide +kernel
theorem d_X_appendShortEntry_33 : decode b_X_appendShortEntry 33 = .ok (.getfield 10, 3) := by decide +kernel
theorem d_X_appendShortEntry_36 : decode b_X_appendShortEntry 36 = .ok (.iconst 0, 1) := by decide +kernel
theorem d_X_appendShortEntry_37 : decode b_X_appendShortEntry 37 = .ok (.invokevirtual 299, 3) := by decide +kernel
theorem d_X_appendShortEntry_40 : decode b_X_appendShortEntry 40 = .ok (.return_, 1) := by decide +kernel
def wp_X_appendShortEntry (post : (Nat → Int32) → (Nat → Int32) → Prop) (I_p0_file : Nat → Int32) (f_p0_file_bytes : Nat → Int32) (x1 : Int32) (x2 : Int32) : Prop :=
  wp_St_appendShort (fun (I_p0_file_5 : Nat → Int32) (f_p0_file_bytes_5 : Nat → Int32) =>
    wp_St_appendShort (fun (I_p0_file_13 : Nat → Int32) (f_p0_file_bytes_13 : Nat → Int32) =>
      wp_St_appendLong (fun (I_p0_file_21 : Nat → Int32) (f_p0_file_bytes_21 : Nat → Int32) =>
        wp_St_appendShort (fun (I_p0_file_29 : Nat → Int32) (f_p0_file_bytes_29 : Nat → Int32) =>
          wp_St_appendShort (fun (I_p0_file_37 : Nat → Int32) (f_p0_file_bytes_37 : Nat → Int32) =>
            post I_p0_file_37 f_p0_file_bytes_37) I_p0_file_29 f_p0_file_bytes_29 0) I_p0_file_21 f_p0_file_bytes_21 x2) I_p0_file_13 f_p0_file_bytes_13 1) I_p0_file_5 f_p0_file_bytes_5 3) I_p0_file f_p0_file_bytes x1
set_option maxRecDepth 100000 in
set_option maxHeartbeats 4000000 in
theorem c_X_appendShortEntry (l : Launch) (dC : Nat → ClassId) (dI : Nat → Nat → Nat) (cI : ClassId) (a_p0 : Nat) (A_p0 : Nat → Nat) (A_p0_file : Nat → Nat) (I_p0_file : Nat → Int32) (f_p0_file_bytes : Nat → Int32) (x1 : Int32) (x2 : Int32) {post : (Nat → Int32) → (Nat → Int32) → Prop} (hw : wp_X_appendShortEntry post I_p0_file f_p0_file_bytes x1 x2) : gm_v l y_X_appendShortEntry ws_X_appendShortEntry ({ frames := 2, cells := 0, slots := 0, locals := 45 } : Room) (dC, dI) vwCl [(cI, .int)] [.ref a_p0, .int x1, .int x2] [oX a_p0 A_p0, oSt (A_p0 0) A_p0_file I_p0_file, gz cI (A_p0_file 0) 900 f_p0_file_bytes] (fun (u : (Nat → Int32) × (Nat → Int32)) => [oX a_p0 A_p0, oSt (A_p0 0) A_p0_file u.1, gz cI (A_p0_file 0) 900 u.2]) (fun (u : (Nat → Int32) × (Nat → Int32)) => post  u.1 u.2) := by
  refine gm_vof (cc := b_X_appendShortEntry) (maxL := 3) (by decide) rfl (Nat.le_of_ble_eq_true rfl) ?_
  intro p e s m args below meth c A Q hx hb hml hown hg hK hN hA hnm hret
  have hown : s.vm.findClass R_X = some m.cls := hown
  intro ls hl hP hD hS
  have hl : lv_has ls 3 [(0, .ref a_p0), (1, .int x1), (2, .int x2)] := hl
  unfold wp_X_appendShortEntry at hw
  refine lv_aload_n hx hb d_X_appendShortEntry_0 rfl (lv_at hl 0 rfl) ?_
  refine va_get (D := (dC, dI)) (ci := 9) (v := .ref (A_p0 0)) (C := R_X) (T := T_X) (N := 14) hx hb hg in_X hown hK hP 0 rfl rfl 0 (by decide) (hg _ t_307) (fun _ h9 => h9) rfl d_X_appendShortEntry_1 ?_
  refine lv_iload_n hx hb d_X_appendShortEntry_4 rfl (lv_at hl 1 rfl) ?_
  refine gc_v (wn := fun u => [oX a_p0 A_p0, oSt (A_p0 0) A_p0_file u.1, gz cI (A_p0_file 0) 900 u.2]) (wr := [oX a_p0 A_p0]) (gr_V (As := [.int x1]) (rest := []) ⟨hx, hb, hml, hown, hg⟩ (c_St_appendShort l dC dI cI (A_p0 0) A_p0_file I_p0_file f_p0_file_bytes x1 hw _) (cwV 1 hg (gg_V t_610 t_289 t_290 t_61 t_291) rfl rfl rfl (by decide +kernel) ⟨Nat.le_of_ble_eq_true rfl, Nat.le_of_ble_eq_true rfl⟩) hK hN hP hD [1, 2] (by decide) rfl 1 7 rfl rfl rfl rfl hl.1 rfl (Nat.le_of_ble_eq_true rfl) d_X_appendShortEntry_5 ⟨Nat.le_of_ble_eq_true rfl, Nat.le_of_ble_eq_true rfl⟩) rfl rfl hP hD hS hA [1, 2] [0] [0, 1, 2] rfl rfl (by decide) (by decide) (by decide) (fun _ => rfl) ?_
  intro u9 H locs hw hP hD hS
  obtain ⟨I_p0_file_5, f_p0_file_bytes_5⟩ := u9
  try dsimp only at hw
  have hP : va_P (dC, dI) vwCl [oX a_p0 A_p0, oSt (A_p0 0) A_p0_file I_p0_file_5, gz cI (A_p0_file 0) 900 f_p0_file_bytes_5] H := hP
  have hD : va_D A [oX a_p0 A_p0, oSt (A_p0 0) A_p0_file I_p0_file_5, gz cI (A_p0_file 0) 900 f_p0_file_bytes_5] := hD
  refine lv_aload_n hx hb d_X_appendShortEntry_8 rfl (lv_at hl 0 rfl) ?_
  refine va_get (D := (dC, dI)) (ci := 9) (v := .ref (A_p0 0)) (C := R_X) (T := T_X) (N := 14) hx hb hg in_X hown hK hP 0 rfl rfl 0 (by decide) (hg _ t_307) (fun _ h9 => h9) rfl d_X_appendShortEntry_9 ?_
  refine lv_iconst (v := 3) hx hb d_X_appendShortEntry_12 (by decide) ?_
  refine gc_v (wn := fun u => [oX a_p0 A_p0, oSt (A_p0 0) A_p0_file u.1, gz cI (A_p0_file 0) 900 u.2]) (wr := [oX a_p0 A_p0]) (gr_V (As := [.int 3]) (rest := []) ⟨hx, hb, hml, hown, hg⟩ (c_St_appendShort l dC dI cI (A_p0 0) A_p0_file I_p0_file_5 f_p0_file_bytes_5 3 hw _) (cwV 1 hg (gg_V t_610 t_289 t_290 t_61 t_291) rfl rfl rfl (by decide +kernel) ⟨Nat.le_of_ble_eq_true rfl, Nat.le_of_ble_eq_true rfl⟩) hK hN hP hD [1, 2] (by decide) rfl 1 7 rfl rfl rfl rfl hl.1 rfl (Nat.le_of_ble_eq_true rfl) d_X_appendShortEntry_13 ⟨Nat.le_of_ble_eq_true rfl, Nat.le_of_ble_eq_true rfl⟩) rfl rfl hP hD hS hA [1, 2] [0] [0, 1, 2] rfl rfl (by decide) (by decide) (by decide) (fun _ => rfl) ?_
  intro u9 H locs hw hP hD hS
  obtain ⟨I_p0_file_13, f_p0_file_bytes_13⟩ := u9
  try dsimp only at hw
  have hP : va_P (dC, dI) vwCl [oX a_p0 A_p0, oSt (A_p0 0) A_p0_file I_p0_file_13, gz cI (A_p0_file 0) 900 f_p0_file_bytes_13] H := hP
  have hD : va_D A [oX a_p0 A_p0, oSt (A_p0 0) A_p0_file I_p0_file_13, gz cI (A_p0_file 0) 900 f_p0_file_bytes_13] := hD
  refine lv_aload_n hx hb d_X_appendShortEntry_16 rfl (lv_at hl 0 rfl) ?_
  refine va_get (D := (dC, dI)) (ci := 9) (v := .ref (A_p0 0)) (C := R_X) (T := T_X) (N := 14) hx hb hg in_X hown hK hP 0 rfl rfl 0 (by decide) (hg _ t_307) (fun _ h9 => h9) rfl d_X_appendShortEntry_17 ?_
  refine lv_iconst (v := 1) hx hb d_X_appendShortEntry_20 (by decide) ?_
  refine gc_v (wn := fun u => [oX a_p0 A_p0, oSt (A_p0 0) A_p0_file u.1, gz cI (A_p0_file 0) 900 u.2]) (wr := [oX a_p0 A_p0]) (gr_V (As := [.int 1]) (rest := []) ⟨hx, hb, hml, hown, hg⟩ (c_St_appendLong l dC dI cI (A_p0 0) A_p0_file I_p0_file_13 f_p0_file_bytes_13 1 hw _) (cwV 1 hg (gg_V t_588 t_293 t_294 t_61 t_295) rfl rfl rfl (by decide +kernel) ⟨Nat.le_of_ble_eq_true rfl, Nat.le_of_ble_eq_true rfl⟩) hK hN hP hD [1, 2] (by decide) rfl 1 7 rfl rfl rfl rfl hl.1 rfl (Nat.le_of_ble_eq_true rfl) d_X_appendShortEntry_21 ⟨Nat.le_of_ble_eq_true rfl, Nat.le_of_ble_eq_true rfl⟩) rfl rfl hP hD hS hA [1, 2] [0] [0, 1, 2] rfl rfl (by decide) (by decide) (by decide) (fun _ => rfl) ?_
  intro u9 H locs hw hP hD hS
  obtain ⟨I_p0_file_21, f_p0_file_bytes_21⟩ := u9
  try dsimp only at hw
  have hP : va_P (dC, dI) vwCl [oX a_p0 A_p0, oSt (A_p0 0) A_p0_file I_p0_file_21, gz cI (A_p0_file 0) 900 f_p0_file_bytes_21] H := hP
  have hD : va_D A [oX a_p0 A_p0, oSt (A_p0 0) A_p0_file I_p0_file_21, gz cI (A_p0_file 0) 900 f_p0_file_bytes_21] := hD
  refine lv_aload_n hx hb d_X_appendShortEntry_24 rfl (lv_at hl 0 rfl) ?_
  refine va_get (D := (dC, dI)) (ci := 9) (v := .ref (A_p0 0)) (C := R_X) (T := T_X) (N := 14) hx hb hg in_X hown hK hP 0 rfl rfl 0 (by decide) (hg _ t_307) (fun _ h9 => h9) rfl d_X_appendShortEntry_25 ?_
  refine lv_iload_n hx hb d_X_appendShortEntry_28 rfl (lv_at hl 2 rfl) ?_
  refine gc_v (wn := fun u => [oX a_p0 A_p0, oSt (A_p0 0) A_p0_file u.1, gz cI (A_p0_file 0) 900 u.2]) (wr := [oX a_p0 A_p0]) (gr_V (As := [.int x2]) (rest := []) ⟨hx, hb, hml, hown, hg⟩ (c_St_appendShort l dC dI cI (A_p0 0) A_p0_file I_p0_file_21 f_p0_file_bytes_21 x2 hw _) (cwV 1 hg (gg_V t_610 t_289 t_290 t_61 t_291) rfl rfl rfl (by decide +kernel) ⟨Nat.le_of_ble_eq_true rfl, Nat.le_of_ble_eq_true rfl⟩) hK hN hP hD [1, 2] (by decide) rfl 1 7 rfl rfl rfl rfl hl.1 rfl (Nat.le_of_ble_eq_true rfl) d_X_appendShortEntry_29 ⟨Nat.le_of_ble_eq_true rfl, Nat.le_of_ble_eq_true rfl⟩) rfl rfl hP hD hS hA [1, 2] [0] [0, 1, 2] rfl rfl (by decide) (by decide) (by decide) (fun _ => rfl) ?_
  intro u9 H locs hw hP hD hS
  obtain ⟨I_p0_file_29, f_p0_file_bytes_29⟩ := u9
  try dsimp only at hw
  have hP : va_P (dC, dI) vwCl [oX a_p0 A_p0, oSt (A_p0 0) A_p0_file I_p0_file_29, gz cI (A_p0_file 0) 900 f_p0_file_bytes_29] H := hP
  have hD : va_D A [oX a_p0 A_p0, oSt (A_p0 0) A_p0_file I_p0_file_29, gz cI (A_p0_file 0) 900 f_p0_file_bytes_29] := hD
  refine lv_aload_n hx hb d_X_appendShortEntry_32 rfl (lv_at hl 0 rfl) ?_
  refine va_get (D := (dC, dI)) (ci := 9) (v := .ref (A_p0 0)) (C := R_X) (T := T_X) (N := 14) hx hb hg in_X hown hK hP 0 rfl rfl 0 (by decide) (hg _ t_307) (fun _ h9 => h9) rfl d_X_appendShortEntry_33 ?_
  refine lv_iconst (v := 0) hx hb d_X_appendShortEntry_36 (by decide) ?_
  refine gc_v (wn := fun u => [oX a_p0 A_p0, oSt (A_p0 0) A_p0_file u.1, gz cI (A_p0_file 0) 900 u.2]) (wr := [oX a_p0 A_p0]) (gr_V (As := [.int 0]) (rest := []) ⟨hx, hb, hml, hown, hg⟩ (c_St_appendShort l dC dI cI (A_p0 0) A_p0_file I_p0_file_29 f_p0_file_bytes_29 0 hw _) (cwV 1 hg (gg_V t_610 t_289 t_290 t_61 t_291) rfl rfl rfl (by decide +kernel) ⟨Nat.le_of_ble_eq_true rfl, Nat.le_of_ble_eq_true rfl⟩) hK hN hP hD [1, 2] (by decide) rfl 1 7 rfl rfl rfl rfl hl.1 rfl (Nat.le_of_ble_eq_true rfl) d_X_appendShortEntry_37 ⟨Nat.le_of_ble_eq_true rfl, Nat.le_of_ble_eq_true rfl⟩) rfl rfl hP hD hS hA [1, 2] [0] [0, 1, 2] rfl rfl (by decide) (by decide) (by decide) (fun _ => rfl) ?_
  intro u9 H locs hw hP hD hS
  obtain ⟨I_p0_file_37, f_p0_file_bytes_37⟩ := u9
  try dsimp only at hw
  have hP : va_P (dC, dI) vwCl [oX a_p0 A_p0, oSt (A_p0 0) A_p0_file I_p0_file_37, gz cI (A_p0_file 0) 900 f_p0_file_bytes_37] H := hP
  have hD : va_D A [oX a_p0 A_p0, oSt (A_p0 0) A_p0_file I_p0_file_37, gz cI (A_p0_file 0) 900 f_p0_file_bytes_37] := hD
  exact hret _ _ _ _ (I_p0_file_37, f_p0_file_bytes_37) d_X_appendShortEntry_40 hP hD hS hw
theorem d_Ly_strips_0 : decode b_Ly_strips 0 = .ok (.aload_n 0, 1) := by decide +kernel
theorem d_Ly_strips_1 : decode b_Ly_strips 1 = .ok (.getfield 15, 3) := by decide +kernel
theorem d_Ly_strips_4 : decode b_Ly_strips 4 = .ok (.aload_n 0, 1) := by decide +kernel
theorem d_Ly_strips_5 : decode b_Ly_strips 5 = .ok (.getfield 24, 3) := by decide +kernel
theorem d_Ly_strips_8 : decode b_Ly_strips 8 = .ok (.iadd, 1) := by decide +kernel
theorem d_Ly_strips_9 : decode b_Ly_strips 9 = .ok (.iconst 1, 1) := by decide +kernel
theorem d_Ly_strips_10 : decode b_Ly_strips 10 = .ok (.isub, 1) := by decide +kernel
theorem d_Ly_strips_11 : decode b_Ly_strips 11 = .ok (.aload_n 0, 1) := by decide +kernel
theorem d_Ly_strips_12 : decode b_Ly_strips 12 = .ok (.getfield 24, 3) := by decide +kernel
theorem d_Ly_strips_15 : decode b_Ly_strips 15 = .ok (.idiv, 1) := by decide +kernel
theorem d_Ly_strips_16 : decode b_Ly_strips 16 = .ok (.ireturn, 1) := by decide +kernel
def wp_Ly_strips (post : Int32 → Prop) (I_p0 : Nat → Int32) : Prop :=
  ¬ (I_p0 4) = 0 ∧
  post ((((I_p0 1) + (I_p0 4)) - 1) / (I_p0 4))
set_option maxRecDepth 100000 in
set_option maxHeartbeats 4000000 in
theorem c_Ly_strips (l : Launch) (dC : Nat → ClassId) (dI : Nat → Nat → Nat) (cI : ClassId) (a_p0 : Nat) (I_p0 : Nat → Int32) {post : Int32 → Prop} (hw : wp_Ly_strips post I_p0) : gm_i l y_Ly_strips ws_Ly_strips ({ frames := 0, cells := 0, slots := 0, locals := 0 } : Room) (dC, dI) vwCl [(cI, .int)] [.ref a_p0] [oLy a_p0 I_p0] (fun (_ : Unit) => [oLy a_p0 I_p0]) (fun (r : Int32) (_ : Unit) => post r) := by
  refine gm_iof (cc := b_Ly_strips) (maxL := 1) (ty := .int) (by decide) rfl (Nat.le_of_ble_eq_true rfl) ?_
  intro p e s m args below meth c A Q hx hb hml hown hg hK hN hA hret
  have hown : s.vm.findClass R_Ly = some m.cls := hown
  intro ls hl hP hD hS
  have hl : lv_has ls 1 [(0, .ref a_p0)] := hl
  unfold wp_Ly_strips at hw
  refine lv_aload_n hx hb d_Ly_strips_0 rfl (lv_at hl 0 rfl) ?_
  refine va_get (D := (dC, dI)) (ci := 3) (v := .int (I_p0 1)) (C := R_Ly) (T := T_Ly) (N := 6) hx hb hg in_Ly hown hK hP 0 rfl rfl 1 (by decide) (hg _ t_181) (fun _ h9 => h9) rfl d_Ly_strips_1 ?_
  refine lv_aload_n hx hb d_Ly_strips_4 rfl (lv_at hl 0 rfl) ?_
  refine va_get (D := (dC, dI)) (ci := 3) (v := .int (I_p0 4)) (C := R_Ly) (T := T_Ly) (N := 6) hx hb hg in_Ly hown hK hP 0 rfl rfl 4 (by decide) (hg _ t_189) (fun _ h9 => h9) rfl d_Ly_strips_5 ?_
  refine lv_iadd hx hb d_Ly_strips_8 ?_
  refine lv_iconst (v := 1) hx hb d_Ly_strips_9 (by decide) ?_
  refine lv_isub hx hb d_Ly_strips_10 ?_
  refine lv_aload_n hx hb d_Ly_strips_11 rfl (lv_at hl 0 rfl) ?_
  refine va_get (D := (dC, dI)) (ci := 3) (v := .int (I_p0 4)) (C := R_Ly) (T := T_Ly) (N := 6) hx hb hg in_Ly hown hK hP 0 rfl rfl 4 (by decide) (hg _ t_189) (fun _ h9 => h9) rfl d_Ly_strips_12 ?_
  obtain ⟨hne, hw⟩ := hw
  refine lv_idiv hx hb d_Ly_strips_15 hne ?_
  exact hret _ _ _ _ _ () d_Ly_strips_16 rfl hP hD hS hw
theorem d_X_appendStripsEntry_0 : decode b_X_appendStripsEntry 0 = .ok (.aload_n 0, 1) := by decide +kernel
theorem d_X_appendStripsEntry_1 : decode b_X_appendStripsEntry 1 = .ok (.getfield 10, 3) := by decide +kernel
theorem d_X_appendStripsEntry_4 : decode b_X_appendStripsEntry 4 = .ok (.iload_n 1, 1) := by decide +kernel
theorem d_X_appendStripsEntry_5 : decode b_X_appendStripsEntry 5 = .ok (.invokevirtual 299, 3) := by decide +kernel
theorem d_X_appendStripsEntry_8 : decode b_X_appendStripsEntry 8 = .ok (.aload_n 0, 1) := by decide +kernel
theorem d_X_appendStripsEntry_9 : decode b_X_appendStripsEntry 9 = .ok (.getfield 10, 3) := by decide +kernel
theorem d_X_appendStripsEntry_12 : decode b_X_appendStripsEntry 12 = .ok (.iconst 4, 1) := by decide +kernel
theorem d_X_appendStripsEntry_13 : decode b_X_appendStripsEntry 13 = .ok (.invokevirtual 299, 3) := by decide +kernel
theorem d_X_appendStripsEntry_16 : decode b_X_appendStripsEntry 16 = .ok (.aload_n 0, 1) := by decide +kernel
theorem d_X_appendStripsEntry_17 : decode b_X_appendStripsEntry 17 = .ok (.getfield 10, 3) := by decide +kernel
theorem d_X_appendStripsEntry_20 : decode b_X_appendStripsEntry 20 = .ok (.aload_n 0, 1) := by decide +kernel
theorem d_X_appendStripsEntry_21 : decode b_X_appendStripsEntry 21 = .ok (.getfield 40, 3) := by decide +kernel
theorem d_X_appendStripsEntry_24 : decode b_X_appendStripsEntry 24 = .ok (.invokevirtual 197, 3) := by decide +kernel
theorem d_X_appendStripsEntry_27 : decode b_X_appendStripsEntry 27 = .ok (.invokevirtual 286, 3) := by decide +kernel
theorem d_X_appendStripsEntry_30 : decode b_X_appendStripsEntry 30 = .ok (.aload_n 0, 1) := by decide +kernel
theorem d_X_appendStripsEntry_31 : decode b_X_appendStripsEntry 31 = .ok (.getfield 10, 3) := by decide +kernel
theorem d_X_appendStripsEntry_34 : decode b_X_appendStripsEntry 34 = .ok (.iload_n 2, 1) := by decide +kernel
theorem d_X_appendStripsEntry_35 : decode b_X_appendStripsEntry 35 = .ok (.invokevirtual 286, 3) := by decide +kernel
theorem d_X_appendStripsEntry_38 : decode b_X_appendStripsEntry 38 = .ok (.return_, 1) := by decide +kernel
def wp_X_appendStripsEntry (post : (Nat → Int32) → (Nat → Int32) → Prop) (I_p0_layout : Nat → Int32) (I_p0_file : Nat → Int32) (f_p0_file_bytes : Nat → Int32) (x1 : Int32) (x2 : Int32) : Prop :=
  wp_St_appendShort (fun (I_p0_file_5 : Nat → Int32) (f_p0_file_bytes_5 : Nat → Int32) =>
    wp_St_appendShort (fun (I_p0_file_13 : Nat → Int32) (f_p0_file_bytes_13 : Nat → Int32) =>
      wp_Ly_strips (fun (r24 : Int32) =>
        wp_St_appendLong (fun (I_p0_file_27 : Nat → Int32) (f_p0_file_bytes_27 : Nat → Int32) =>
          wp_St_appendLong (fun (I_p0_file_35 : Nat → Int32) (f_p0_file_bytes_35 : Nat → Int32) =>
            post I_p0_file_35 f_p0_file_bytes_35) I_p0_file_27 f_p0_file_bytes_27 x2) I_p0_file_13 f_p0_file_bytes_13 r24) I_p0_layout) I_p0_file_5 f_p0_file_bytes_5 4) I_p0_file f_p0_file_bytes x1
set_option maxRecDepth 100000 in
set_option maxHeartbeats 4000000 in
theorem c_X_appendStripsEntry (l : Launch) (dC : Nat → ClassId) (dI : Nat → Nat → Nat) (cI : ClassId) (a_p0 : Nat) (A_p0 : Nat → Nat) (A_p0_file : Nat → Nat) (I_p0_layout : Nat → Int32) (I_p0_file : Nat → Int32) (f_p0_file_bytes : Nat → Int32) (x1 : Int32) (x2 : Int32) {post : (Nat → Int32) → (Nat → Int32) → Prop} (hw : wp_X_appendStripsEntry post I_p0_layout I_p0_file f_p0_file_bytes x1 x2) : gm_v l y_X_appendStripsEntry ws_X_appendStripsEntry ({ frames := 2, cells := 0, slots := 0, locals := 45 } : Room) (dC, dI) vwCl [(cI, .int)] [.ref a_p0, .int x1, .int x2] [oX a_p0 A_p0, oSt (A_p0 0) A_p0_file I_p0_file, gz cI (A_p0_file 0) 900 f_p0_file_bytes, oLy (A_p0 4) I_p0_layout] (fun (u : (Nat → Int32) × (Nat → Int32)) => [oX a_p0 A_p0, oSt (A_p0 0) A_p0_file u.1, gz cI (A_p0_file 0) 900 u.2, oLy (A_p0 4) I_p0_layout]) (fun (u : (Nat → Int32) × (Nat → Int32)) => post  u.1 u.2) := by
  refine gm_vof (cc := b_X_appendStripsEntry) (maxL := 3) (by decide) rfl (Nat.le_of_ble_eq_true rfl) ?_
  intro p e s m args below meth c A Q hx hb hml hown hg hK hN hA hnm hret
  have hown : s.vm.findClass R_X = some m.cls := hown
  intro ls hl hP hD hS
  have hl : lv_has ls 3 [(0, .ref a_p0), (1, .int x1), (2, .int x2)] := hl
  unfold wp_X_appendStripsEntry at hw
  refine lv_aload_n hx hb d_X_appendStripsEntry_0 rfl (lv_at hl 0 rfl) ?_
  refine va_get (D := (dC, dI)) (ci := 9) (v := .ref (A_p0 0)) (C := R_X) (T := T_X) (N := 14) hx hb hg in_X hown hK hP 0 rfl rfl 0 (by decide) (hg _ t_307) (fun _ h9 => h9) rfl d_X_appendStripsEntry_1 ?_
  refine lv_iload_n hx hb d_X_appendStripsEntry_4 rfl (lv_at hl 1 rfl) ?_
  refine gc_v (wn := fun u => [oX a_p0 A_p0, oSt (A_p0 0) A_p0_file u.1, gz cI (A_p0_file 0) 900 u.2, oLy (A_p0 4) I_p0_layout]) (wr := [oX a_p0 A_p0, oLy (A_p0 4) I_p0_layout]) (gr_V (As := [.int x1]) (rest := []) ⟨hx, hb, hml, hown, hg⟩ (c_St_appendShort l dC dI cI (A_p0 0) A_p0_file I_p0_file f_p0_file_bytes x1 hw _) (cwV 1 hg (gg_V t_610 t_289 t_290 t_61 t_291) rfl rfl rfl (by decide +kernel) ⟨Nat.le_of_ble_eq_true rfl, Nat.le_of_ble_eq_true rfl⟩) hK hN hP hD [1, 2] (by decide) rfl 1 7 rfl rfl rfl rfl hl.1 rfl (Nat.le_of_ble_eq_true rfl) d_X_appendStripsEntry_5 ⟨Nat.le_of_ble_eq_true rfl, Nat.le_of_ble_eq_true rfl⟩) rfl rfl hP hD hS hA [1, 2] [0, 3] [0, 2, 3, 1] rfl rfl (by decide) (by decide) (by decide) (fun _ => rfl) ?_
  intro u9 H locs hw hP hD hS
  obtain ⟨I_p0_file_5, f_p0_file_bytes_5⟩ := u9
  try dsimp only at hw
  have hP : va_P (dC, dI) vwCl [oX a_p0 A_p0, oSt (A_p0 0) A_p0_file I_p0_file_5, gz cI (A_p0_file 0) 900 f_p0_file_bytes_5, oLy (A_p0 4) I_p0_layout] H := hP
  have hD : va_D A [oX a_p0 A_p0, oSt (A_p0 0) A_p0_file I_p0_file_5, gz cI (A_p0_file 0) 900 f_p0_file_bytes_5, oLy (A_p0 4) I_p0_layout] := hD
  refine lv_aload_n hx hb d_X_appendStripsEntry_8 rfl (lv_at hl 0 rfl) ?_
  refine va_get (D := (dC, dI)) (ci := 9) (v := .ref (A_p0 0)) (C := R_X) (T := T_X) (N := 14) hx hb hg in_X hown hK hP 0 rfl rfl 0 (by decide) (hg _ t_307) (fun _ h9 => h9) rfl d_X_appendStripsEntry_9 ?_
  refine lv_iconst (v := 4) hx hb d_X_appendStripsEntry_12 (by decide) ?_
  refine gc_v (wn := fun u => [oX a_p0 A_p0, oSt (A_p0 0) A_p0_file u.1, gz cI (A_p0_file 0) 900 u.2, oLy (A_p0 4) I_p0_layout]) (wr := [oX a_p0 A_p0, oLy (A_p0 4) I_p0_layout]) (gr_V (As := [.int 4]) (rest := []) ⟨hx, hb, hml, hown, hg⟩ (c_St_appendShort l dC dI cI (A_p0 0) A_p0_file I_p0_file_5 f_p0_file_bytes_5 4 hw _) (cwV 1 hg (gg_V t_610 t_289 t_290 t_61 t_291) rfl rfl rfl (by decide +kernel) ⟨Nat.le_of_ble_eq_true rfl, Nat.le_of_ble_eq_true rfl⟩) hK hN hP hD [1, 2] (by decide) rfl 1 7 rfl rfl rfl rfl hl.1 rfl (Nat.le_of_ble_eq_true rfl) d_X_appendStripsEntry_13 ⟨Nat.le_of_ble_eq_true rfl, Nat.le_of_ble_eq_true rfl⟩) rfl rfl hP hD hS hA [1, 2] [0, 3] [0, 2, 3, 1] rfl rfl (by decide) (by decide) (by decide) (fun _ => rfl) ?_
  intro u9 H locs hw hP hD hS
  obtain ⟨I_p0_file_13, f_p0_file_bytes_13⟩ := u9
  try dsimp only at hw
  have hP : va_P (dC, dI) vwCl [oX a_p0 A_p0, oSt (A_p0 0) A_p0_file I_p0_file_13, gz cI (A_p0_file 0) 900 f_p0_file_bytes_13, oLy (A_p0 4) I_p0_layout] H := hP
  have hD : va_D A [oX a_p0 A_p0, oSt (A_p0 0) A_p0_file I_p0_file_13, gz cI (A_p0_file 0) 900 f_p0_file_bytes_13, oLy (A_p0 4) I_p0_layout] := hD
  refine lv_aload_n hx hb d_X_appendStripsEntry_16 rfl (lv_at hl 0 rfl) ?_
  refine va_get (D := (dC, dI)) (ci := 9) (v := .ref (A_p0 0)) (C := R_X) (T := T_X) (N := 14) hx hb hg in_X hown hK hP 0 rfl rfl 0 (by decide) (hg _ t_307) (fun _ h9 => h9) rfl d_X_appendStripsEntry_17 ?_
  refine lv_aload_n hx hb d_X_appendStripsEntry_20 rfl (lv_at hl 0 rfl) ?_
  refine va_get (D := (dC, dI)) (ci := 9) (v := .ref (A_p0 4)) (C := R_X) (T := T_X) (N := 14) hx hb hg in_X hown hK hP 0 rfl rfl 4 (by decide) (hg _ t_311) (fun _ h9 => h9) rfl d_X_appendStripsEntry_21 ?_
  refine gc_i (wn := fun (_ : Unit) => [oX a_p0 A_p0, oSt (A_p0 0) A_p0_file I_p0_file_13, gz cI (A_p0_file 0) 900 f_p0_file_bytes_13, oLy (A_p0 4) I_p0_layout]) (wr := [oX a_p0 A_p0, oSt (A_p0 0) A_p0_file I_p0_file_13, gz cI (A_p0_file 0) 900 f_p0_file_bytes_13]) (gr_V (As := []) (rest := [.ref (A_p0 0)]) ⟨hx, hb, hml, hown, hg⟩ (c_Ly_strips l dC dI cI (A_p0 4) I_p0_layout hw _) (cwV 0 hg (gg_V t_511 t_512 t_513 t_65 t_514) rfl rfl rfl (by decide +kernel) ⟨Nat.le_of_ble_eq_true rfl, Nat.le_of_ble_eq_true rfl⟩) hK hN hP hD [3] (by decide) rfl 3 3 rfl rfl rfl rfl hl.1 rfl (Nat.le_of_ble_eq_true rfl) d_X_appendStripsEntry_24 ⟨Nat.le_of_ble_eq_true rfl, Nat.le_of_ble_eq_true rfl⟩) rfl rfl hP hD hS hA [3] [0, 1, 2] [0, 1, 2, 3] rfl rfl (by decide) (by decide) (by decide) (fun _ => rfl) ?_
  intro r24 _ H locs hw hP hD hS
  try dsimp only at hw
  have hP : va_P (dC, dI) vwCl [oX a_p0 A_p0, oSt (A_p0 0) A_p0_file I_p0_file_13, gz cI (A_p0_file 0) 900 f_p0_file_bytes_13, oLy (A_p0 4) I_p0_layout] H := hP
  have hD : va_D A [oX a_p0 A_p0, oSt (A_p0 0) A_p0_file I_p0_file_13, gz cI (A_p0_file 0) 900 f_p0_file_bytes_13, oLy (A_p0 4) I_p0_layout] := hD
  refine gc_v (wn := fun u => [oX a_p0 A_p0, oSt (A_p0 0) A_p0_file u.1, gz cI (A_p0_file 0) 900 u.2, oLy (A_p0 4) I_p0_layout]) (wr := [oX a_p0 A_p0, oLy (A_p0 4) I_p0_layout]) (gr_V (As := [.int r24]) (rest := []) ⟨hx, hb, hml, hown, hg⟩ (c_St_appendLong l dC dI cI (A_p0 0) A_p0_file I_p0_file_13 f_p0_file_bytes_13 r24 hw _) (cwV 1 hg (gg_V t_588 t_293 t_294 t_61 t_295) rfl rfl rfl (by decide +kernel) ⟨Nat.le_of_ble_eq_true rfl, Nat.le_of_ble_eq_true rfl⟩) hK hN hP hD [1, 2] (by decide) rfl 1 7 rfl rfl rfl rfl hl.1 rfl (Nat.le_of_ble_eq_true rfl) d_X_appendStripsEntry_27 ⟨Nat.le_of_ble_eq_true rfl, Nat.le_of_ble_eq_true rfl⟩) rfl rfl hP hD hS hA [1, 2] [0, 3] [0, 2, 3, 1] rfl rfl (by decide) (by decide) (by decide) (fun _ => rfl) ?_
  intro u9 H locs hw hP hD hS
  obtain ⟨I_p0_file_27, f_p0_file_bytes_27⟩ := u9
  try dsimp only at hw
  have hP : va_P (dC, dI) vwCl [oX a_p0 A_p0, oSt (A_p0 0) A_p0_file I_p0_file_27, gz cI (A_p0_file 0) 900 f_p0_file_bytes_27, oLy (A_p0 4) I_p0_layout] H := hP
  have hD : va_D A [oX a_p0 A_p0, oSt (A_p0 0) A_p0_file I_p0_file_27, gz cI (A_p0_file 0) 900 f_p0_file_bytes_27, oLy (A_p0 4) I_p0_layout] := hD
  refine lv_aload_n hx hb d_X_appendStripsEntry_30 rfl (lv_at hl 0 rfl) ?_
  refine va_get (D := (dC, dI)) (ci := 9) (v := .ref (A_p0 0)) (C := R_X) (T := T_X) (N := 14) hx hb hg in_X hown hK hP 0 rfl rfl 0 (by decide) (hg _ t_307) (fun _ h9 => h9) rfl d_X_appendStripsEntry_31 ?_
  refine lv_iload_n hx hb d_X_appendStripsEntry_34 rfl (lv_at hl 2 rfl) ?_
  refine gc_v (wn := fun u => [oX a_p0 A_p0, oSt (A_p0 0) A_p0_file u.1, gz cI (A_p0_file 0) 900 u.2, oLy (A_p0 4) I_p0_layout]) (wr := [oX a_p0 A_p0, oLy (A_p0 4) I_p0_layout]) (gr_V (As := [.int x2]) (rest := []) ⟨hx, hb, hml, hown, hg⟩ (c_St_appendLong l dC dI cI (A_p0 0) A_p0_file I_p0_file_27 f_p0_file_bytes_27 x2 hw _) (cwV 1 hg (gg_V t_588 t_293 t_294 t_61 t_295) rfl rfl rfl (by decide +kernel) ⟨Nat.le_of_ble_eq_true rfl, Nat.le_of_ble_eq_true rfl⟩) hK hN hP hD [1, 2] (by decide) rfl 1 7 rfl rfl rfl rfl hl.1 rfl (Nat.le_of_ble_eq_true rfl) d_X_appendStripsEntry_35 ⟨Nat.le_of_ble_eq_true rfl, Nat.le_of_ble_eq_true rfl⟩) rfl rfl hP hD hS hA [1, 2] [0, 3] [0, 2, 3, 1] rfl rfl (by decide) (by decide) (by decide) (fun _ => rfl) ?_
  intro u9 H locs hw hP hD hS
  obtain ⟨I_p0_file_35, f_p0_file_bytes_35⟩ := u9
  try dsimp only at hw
  have hP : va_P (dC, dI) vwCl [oX a_p0 A_p0, oSt (A_p0 0) A_p0_file I_p0_file_35, gz cI (A_p0_file 0) 900 f_p0_file_bytes_35, oLy (A_p0 4) I_p0_layout] H := hP
  have hD : va_D A [oX a_p0 A_p0, oSt (A_p0 0) A_p0_file I_p0_file_35, gz cI (A_p0_file 0) 900 f_p0_file_bytes_35, oLy (A_p0 4) I_p0_layout] := hD
  exact hret _ _ _ _ (I_p0_file_35, f_p0_file_bytes_35) d_X_appendStripsEntry_38 hP hD hS hw
theorem d_Lb_inOrder_0 : decode b_Lb_inOrder 0 = .ok (.aload_n 0, 1) := by decide +kernel
theorem d_Lb_inOrder_1 : decode b_Lb_inOrder 1 = .ok (.getfield 25, 3) := by decide +kernel
theorem d_Lb_inOrder_4 : decode b_Lb_inOrder 4 = .ok (.iconst 2, 1) := by decide +kernel
theorem d_Lb_inOrder_5 : decode b_Lb_inOrder 5 = .ok (.if_icmp .ne 22, 3) := by decide +kernel
theorem d_Lb_inOrder_8 : decode b_Lb_inOrder 8 = .ok (.aload_n 0, 1) := by decide +kernel
theorem d_Lb_inOrder_9 : decode b_Lb_inOrder 9 = .ok (.getfield 9, 3) := by decide +kernel
theorem d_Lb_inOrder_12 : decode b_Lb_inOrder 12 = .ok (.iconst 1, 1) := by decide +kernel
theorem d_Lb_inOrder_13 : decode b_Lb_inOrder 13 = .ok (.iaload, 1) := by decide +kernel
theorem d_Lb_inOrder_14 : decode b_Lb_inOrder 14 = .ok (.aload_n 0, 1) := by decide +kernel
theorem d_Lb_inOrder_15 : decode b_Lb_inOrder 15 = .ok (.getfield 9, 3) := by decide +kernel
theorem d_Lb_inOrder_18 : decode b_Lb_inOrder 18 = .ok (.iconst 0, 1) := by decide +kernel
theorem d_Lb_inOrder_19 : decode b_Lb_inOrder 19 = .ok (.iaload, 1) := by decide +kernel
theorem d_Lb_inOrder_20 : decode b_Lb_inOrder 20 = .ok (.if_icmp .ge 7, 3) := by decide +kernel
theorem d_Lb_inOrder_23 : decode b_Lb_inOrder 23 = .ok (.iconst 1, 1) := by decide +kernel
theorem d_Lb_inOrder_24 : decode b_Lb_inOrder 24 = .ok (.goto 4, 3) := by decide +kernel
theorem d_Lb_inOrder_27 : decode b_Lb_inOrder 27 = .ok (.iconst 0, 1) := by decide +kernel
theorem d_Lb_inOrder_28 : decode b_Lb_inOrder 28 = .ok (.istore_n 2, 1) := by decide +kernel
theorem d_Lb_inOrder_29 : decode b_Lb_inOrder 29 = .ok (.iload_n 2, 1) := by decide +kernel
theorem d_Lb_inOrder_30 : decode b_Lb_inOrder 30 = .ok (.ifCond .eq 9, 3) := by decide +kernel
theorem d_Lb_inOrder_33 : decode b_Lb_inOrder 33 = .ok (.iconst 1, 1) := by decide +kernel
theorem d_Lb_inOrder_34 : decode b_Lb_inOrder 34 = .ok (.iload_n 1, 1) := by decide +kernel
theorem d_Lb_inOrder_35 : decode b_Lb_inOrder 35 = .ok (.isub, 1) := by decide +kernel
theorem d_Lb_inOrder_36 : decode b_Lb_inOrder 36 = .ok (.goto 4, 3) := by decide +kernel
theorem d_Lb_inOrder_39 : decode b_Lb_inOrder 39 = .ok (.iload_n 1, 1) := by decide +kernel
theorem d_Lb_inOrder_40 : decode b_Lb_inOrder 40 = .ok (.ireturn, 1) := by decide +kernel
def wp_Lb_inOrder_b28 (post : Int32 → Prop) (I_p0 : Nat → Int32) (f_p0_tags : Nat → Int32) (x1 : Int32) (s0 : Int32) : Prop :=
  ((s0 = 0 →
    post x1) ∧
   (¬ s0 = 0 →
    post (1 - x1)))
def wp_Lb_inOrder_b27 (post : Int32 → Prop) (I_p0 : Nat → Int32) (f_p0_tags : Nat → Int32) (x1 : Int32) : Prop :=
  wp_Lb_inOrder_b28 post I_p0 f_p0_tags x1 0
def wp_Lb_inOrder (post : Int32 → Prop) (I_p0 : Nat → Int32) (f_p0_tags : Nat → Int32) (x1 : Int32) : Prop :=
  (((I_p0 3) = 2 →
    vp_in 1 2 ∧
    vp_in 0 2 ∧
    (((f_p0_tags 0) ≤ (f_p0_tags 1) →
      wp_Lb_inOrder_b27 post I_p0 f_p0_tags x1) ∧
     (¬ (f_p0_tags 0) ≤ (f_p0_tags 1) →
      wp_Lb_inOrder_b28 post I_p0 f_p0_tags x1 1))) ∧
   (¬ (I_p0 3) = 2 →
    wp_Lb_inOrder_b27 post I_p0 f_p0_tags x1))
set_option maxRecDepth 100000 in
set_option maxHeartbeats 4000000 in
theorem c_Lb_inOrder (l : Launch) (dC : Nat → ClassId) (dI : Nat → Nat → Nat) (cI : ClassId) (a_p0 : Nat) (A_p0 : Nat → Nat) (I_p0 : Nat → Int32) (f_p0_tags : Nat → Int32) (x1 : Int32) {post : Int32 → Prop} (hw : wp_Lb_inOrder post I_p0 f_p0_tags x1) : gm_i l y_Lb_inOrder ws_Lb_inOrder ({ frames := 0, cells := 0, slots := 0, locals := 0 } : Room) (dC, dI) vwCl [(cI, .int)] [.ref a_p0, .int x1] [oLb a_p0 A_p0 I_p0, gz cI (A_p0 0) 2 f_p0_tags] (fun (_ : Unit) => [oLb a_p0 A_p0 I_p0, gz cI (A_p0 0) 2 f_p0_tags]) (fun (r : Int32) (_ : Unit) => post r) := by
  refine gm_iof (cc := b_Lb_inOrder) (maxL := 3) (ty := .int) (by decide) rfl (Nat.le_of_ble_eq_true rfl) ?_
  intro p e s m args below meth c A Q hx hb hml hown hg hK hN hA hret
  have hown : s.vm.findClass R_Lb = some m.cls := hown
  have b28 : ∀ (H : Heap) (locs : List Loc) (ls : Array Slot) (x1 : Int32) (s0 : Int32), va_P (dC, dI) vwCl [oLb a_p0 A_p0 I_p0, gz cI (A_p0 0) 2 f_p0_tags] H → va_D A [oLb a_p0 A_p0 I_p0, gz cI (A_p0 0) 2 f_p0_tags] → va_S A s.heap H locs → lv_has ls 3 [(1, .int x1)] → wp_Lb_inOrder_b28 post I_p0 f_p0_tags x1 s0 → W p l e ({ frames := 0, cells := 0, slots := 0, locals := 0 } : Room) s m args below meth c H locs 0 0 Q (F0 m 28 ls [.int s0]) := by
    intro H locs ls x1 s0 hP hD hS hl hw
    unfold wp_Lb_inOrder_b28 at hw
    refine lv_istore_n (lv' := [(2, .int s0), (1, .int x1)]) hx hb d_Lb_inOrder_28 rfl hl (by decide) rfl (fun ls hl => ?_)
    refine lv_iload_n hx hb d_Lb_inOrder_29 rfl (lv_at hl 0 rfl) ?_
    refine lv_if_eq hx hb d_Lb_inOrder_30 rfl (fun hc => ?_) (fun hc => ?_)
    · have hw := hw.1 hc
      refine lv_iload_n hx hb d_Lb_inOrder_39 rfl (lv_at hl 1 rfl) ?_
      exact hret _ _ _ _ _ () d_Lb_inOrder_40 rfl hP hD hS hw
    · have hw := hw.2 hc
      refine lv_iconst (v := 1) hx hb d_Lb_inOrder_33 (by decide) ?_
      refine lv_iload_n hx hb d_Lb_inOrder_34 rfl (lv_at hl 1 rfl) ?_
      refine lv_isub hx hb d_Lb_inOrder_35 ?_
      refine lv_goto hx hb d_Lb_inOrder_36 rfl ?_
      exact hret _ _ _ _ _ () d_Lb_inOrder_40 rfl hP hD hS hw
  have b27 : ∀ (H : Heap) (locs : List Loc) (ls : Array Slot) (x1 : Int32), va_P (dC, dI) vwCl [oLb a_p0 A_p0 I_p0, gz cI (A_p0 0) 2 f_p0_tags] H → va_D A [oLb a_p0 A_p0 I_p0, gz cI (A_p0 0) 2 f_p0_tags] → va_S A s.heap H locs → lv_has ls 3 [(1, .int x1)] → wp_Lb_inOrder_b27 post I_p0 f_p0_tags x1 → W p l e ({ frames := 0, cells := 0, slots := 0, locals := 0 } : Room) s m args below meth c H locs 0 0 Q (F0 m 27 ls []) := by
    intro H locs ls x1 hP hD hS hl hw
    unfold wp_Lb_inOrder_b27 at hw
    refine lv_iconst (v := 0) hx hb d_Lb_inOrder_27 (by decide) ?_
    exact b28 _ _ _ x1 0 hP hD hS (lv_sub hl [0] rfl) hw
  intro ls hl hP hD hS
  have hl : lv_has ls 3 [(0, .ref a_p0), (1, .int x1)] := hl
  unfold wp_Lb_inOrder at hw
  refine lv_aload_n hx hb d_Lb_inOrder_0 rfl (lv_at hl 0 rfl) ?_
  refine va_get (D := (dC, dI)) (ci := 2) (v := .int (I_p0 3)) (C := R_Lb) (T := T_Lb) (N := 4) hx hb hg in_Lb hown hK hP 0 rfl rfl 3 (by decide) (hg _ t_161) (fun _ h9 => h9) rfl d_Lb_inOrder_1 ?_
  refine lv_iconst (v := 2) hx hb d_Lb_inOrder_4 (by decide) ?_
  refine lv_icmp_ne hx hb d_Lb_inOrder_5 rfl (fun hc => ?_) (fun hc => ?_)
  · have hw := hw.2 hc
    exact b27 _ _ _ x1 hP hD hS (lv_sub hl [1] rfl) hw
  · have hw := hw.1 hc
    refine lv_aload_n hx hb d_Lb_inOrder_8 rfl (lv_at hl 0 rfl) ?_
    refine va_get (D := (dC, dI)) (ci := 2) (v := .ref (A_p0 0)) (C := R_Lb) (T := T_Lb) (N := 4) hx hb hg in_Lb hown hK hP 0 rfl rfl 0 (by decide) (hg _ t_157) (fun _ h9 => h9) rfl d_Lb_inOrder_9 ?_
    refine lv_iconst (v := 1) hx hb d_Lb_inOrder_12 (by decide) ?_
    obtain ⟨hin, hw⟩ := hw
    refine va_iald hx hb hK hP 1 0 rfl rfl hin d_Lb_inOrder_13 ?_
    refine lv_aload_n hx hb d_Lb_inOrder_14 rfl (lv_at hl 0 rfl) ?_
    refine va_get (D := (dC, dI)) (ci := 2) (v := .ref (A_p0 0)) (C := R_Lb) (T := T_Lb) (N := 4) hx hb hg in_Lb hown hK hP 0 rfl rfl 0 (by decide) (hg _ t_157) (fun _ h9 => h9) rfl d_Lb_inOrder_15 ?_
    refine lv_iconst (v := 0) hx hb d_Lb_inOrder_18 (by decide) ?_
    obtain ⟨hin, hw⟩ := hw
    refine va_iald hx hb hK hP 1 0 rfl rfl hin d_Lb_inOrder_19 ?_
    refine lv_icmp_ge hx hb d_Lb_inOrder_20 rfl (fun hc => ?_) (fun hc => ?_)
    · have hw := hw.1 hc
      exact b27 _ _ _ x1 hP hD hS (lv_sub hl [1] rfl) hw
    · have hw := hw.2 hc
      refine lv_iconst (v := 1) hx hb d_Lb_inOrder_23 (by decide) ?_
      refine lv_goto hx hb d_Lb_inOrder_24 rfl ?_
      exact b28 _ _ _ x1 1 hP hD hS (lv_sub hl [1] rfl) hw
theorem d_Lb_bytesOf_0 : decode b_Lb_bytesOf 0 = .ok (.aload_n 0, 1) := by decide +kernel
theorem d_Lb_bytesOf_1 : decode b_Lb_bytesOf 1 = .ok (.getfield 15, 3) := by decide +kernel
theorem d_Lb_bytesOf_4 : decode b_Lb_bytesOf 4 = .ok (.iload_n 1, 1) := by decide +kernel
theorem d_Lb_bytesOf_5 : decode b_Lb_bytesOf 5 = .ok (.iaload, 1) := by decide +kernel
theorem d_Lb_bytesOf_6 : decode b_Lb_bytesOf 6 = .ok (.iconst 1, 1) := by decide +kernel
theorem d_Lb_bytesOf_7 : decode b_Lb_bytesOf 7 = .ok (.iadd, 1) := by decide +kernel
theorem d_Lb_bytesOf_8 : decode b_Lb_bytesOf 8 = .ok (.ireturn, 1) := by decide +kernel
def wp_Lb_bytesOf (post : Int32 → Prop) (I_p0 : Nat → Int32) (f_p0_sizes : Nat → Int32) (x1 : Int32) : Prop :=
  vp_in x1 2 ∧
  post ((f_p0_sizes (x1).toNatClampNeg) + 1)
set_option maxRecDepth 100000 in
set_option maxHeartbeats 4000000 in
theorem c_Lb_bytesOf (l : Launch) (dC : Nat → ClassId) (dI : Nat → Nat → Nat) (cI : ClassId) (a_p0 : Nat) (A_p0 : Nat → Nat) (I_p0 : Nat → Int32) (f_p0_sizes : Nat → Int32) (x1 : Int32) {post : Int32 → Prop} (hw : wp_Lb_bytesOf post I_p0 f_p0_sizes x1) : gm_i l y_Lb_bytesOf ws_Lb_bytesOf ({ frames := 0, cells := 0, slots := 0, locals := 0 } : Room) (dC, dI) vwCl [(cI, .int)] [.ref a_p0, .int x1] [oLb a_p0 A_p0 I_p0, gz cI (A_p0 1) 2 f_p0_sizes] (fun (_ : Unit) => [oLb a_p0 A_p0 I_p0, gz cI (A_p0 1) 2 f_p0_sizes]) (fun (r : Int32) (_ : Unit) => post r) := by
  refine gm_iof (cc := b_Lb_bytesOf) (maxL := 2) (ty := .int) (by decide) rfl (Nat.le_of_ble_eq_true rfl) ?_
  intro p e s m args below meth c A Q hx hb hml hown hg hK hN hA hret
  have hown : s.vm.findClass R_Lb = some m.cls := hown
  intro ls hl hP hD hS
  have hl : lv_has ls 2 [(0, .ref a_p0), (1, .int x1)] := hl
  unfold wp_Lb_bytesOf at hw
  refine lv_aload_n hx hb d_Lb_bytesOf_0 rfl (lv_at hl 0 rfl) ?_
  refine va_get (D := (dC, dI)) (ci := 2) (v := .ref (A_p0 1)) (C := R_Lb) (T := T_Lb) (N := 4) hx hb hg in_Lb hown hK hP 0 rfl rfl 1 (by decide) (hg _ t_159) (fun _ h9 => h9) rfl d_Lb_bytesOf_1 ?_
  refine lv_iload_n hx hb d_Lb_bytesOf_4 rfl (lv_at hl 1 rfl) ?_
  obtain ⟨hin, hw⟩ := hw
  refine va_iald hx hb hK hP 1 0 rfl rfl hin d_Lb_bytesOf_5 ?_
  refine lv_iconst (v := 1) hx hb d_Lb_bytesOf_6 (by decide) ?_
  refine lv_iadd hx hb d_Lb_bytesOf_7 ?_
  exact hret _ _ _ _ _ () d_Lb_bytesOf_8 rfl hP hD hS hw
theorem d_Lb_appendText_0 : decode b_Lb_appendText 0 = .ok (.iconst 0, 1) := by decide +kernel
theorem d_Lb_appendText_1 : decode b_Lb_appendText 1 = .ok (.istore 4, 2) := by decide +kernel
theorem d_Lb_appendText_3 : decode b_Lb_appendText 3 = .ok (.iload 4, 2) := by decide +kernel
theorem d_Lb_appendText_5 : decode b_Lb_appendText 5 = .ok (.iload_n 2, 1) := by decide +kernel
theorem d_Lb_appendText_6 : decode b_Lb_appendText 6 = .ok (.if_icmp .ge 52, 3) := by decide +kernel
theorem d_Lb_appendText_9 : decode b_Lb_appendText 9 = .ok (.iload 4, 2) := by decide +kernel
theorem d_Lb_appendText_11 : decode b_Lb_appendText 11 = .ok (.aload_n 0, 1) := by decide +kernel
theorem d_Lb_appendText_12 : decode b_Lb_appendText 12 = .ok (.getfield 15, 3) := by decide +kernel
theorem d_Lb_appendText_15 : decode b_Lb_appendText 15 = .ok (.iload_n 1, 1) := by decide +kernel
theorem d_Lb_appendText_16 : decode b_Lb_appendText 16 = .ok (.iaload, 1) := by decide +kernel
theorem d_Lb_appendText_17 : decode b_Lb_appendText 17 = .ok (.if_icmp .ge 7, 3) := by decide +kernel
theorem d_Lb_appendText_20 : decode b_Lb_appendText 20 = .ok (.iconst 1, 1) := by decide +kernel
theorem d_Lb_appendText_21 : decode b_Lb_appendText 21 = .ok (.goto 4, 3) := by decide +kernel
theorem d_Lb_appendText_24 : decode b_Lb_appendText 24 = .ok (.iconst 0, 1) := by decide +kernel
theorem d_Lb_appendText_25 : decode b_Lb_appendText 25 = .ok (.istore 5, 2) := by decide +kernel
theorem d_Lb_appendText_27 : decode b_Lb_appendText 27 = .ok (.aload_n 3, 1) := by decide +kernel
theorem d_Lb_appendText_28 : decode b_Lb_appendText 28 = .ok (.iload 5, 2) := by decide +kernel
theorem d_Lb_appendText_30 : decode b_Lb_appendText 30 = .ok (.ifCond .eq 18, 3) := by decide +kernel
theorem d_Lb_appendText_33 : decode b_Lb_appendText 33 = .ok (.aload_n 0, 1) := by decide +kernel
theorem d_Lb_appendText_34 : decode b_Lb_appendText 34 = .ok (.getfield 18, 3) := by decide +kernel
theorem d_Lb_appendText_37 : decode b_Lb_appendText 37 = .ok (.iload_n 1, 1) := by decide +kernel
theorem d_Lb_appendText_38 : decode b_Lb_appendText 38 = .ok (.bipush 12, 2) := by decide +kernel
theorem d_Lb_appendText_40 : decode b_Lb_appendText 40 = .ok (.imul, 1) := by decide +kernel
theorem d_Lb_appendText_41 : decode b_Lb_appendText 41 = .ok (.iload 4, 2) := by decide +kernel
theorem d_Lb_appendText_43 : decode b_Lb_appendText 43 = .ok (.iadd, 1) := by decide +kernel
theorem d_Lb_appendText_44 : decode b_Lb_appendText 44 = .ok (.iaload, 1) := by decide +kernel
theorem d_Lb_appendText_45 : decode b_Lb_appendText 45 = .ok (.goto 4, 3) := by decide +kernel
theorem d_Lb_appendText_48 : decode b_Lb_appendText 48 = .ok (.iconst 0, 1) := by decide +kernel
theorem d_Lb_appendText_49 : decode b_Lb_appendText 49 = .ok (.invokevirtual 29, 3) := by decide +kernel
theorem d_Lb_appendText_52 : decode b_Lb_appendText 52 = .ok (.iinc 4 1, 3) := by decide +kernel
theorem d_Lb_appendText_55 : decode b_Lb_appendText 55 = .ok (.goto (-52), 3) := by decide +kernel
theorem d_Lb_appendText_58 : decode b_Lb_appendText 58 = .ok (.return_, 1) := by decide +kernel
def wp_Lb_appendText_b49 (post : (Nat → Int32) → (Nat → Int32) → Prop) (k3 : (Nat → Int32) → (Nat → Int32) → Int32 → Int32 → Int32 → Prop) (I_p0 : Nat → Int32) (f_p0_characters : Nat → Int32) (f_p0_sizes : Nat → Int32) (I_p3 : Nat → Int32) (f_p3_bytes : Nat → Int32) (x1 : Int32) (x2 : Int32) (x4 : Int32) (s0 : Int32) : Prop :=
  wp_St_append (fun (I_p3_49 : Nat → Int32) (f_p3_bytes_49 : Nat → Int32) =>
    k3 I_p3_49 f_p3_bytes_49 x1 x2 (x4 + 1)) I_p3 f_p3_bytes s0
def wp_Lb_appendText_b25 (post : (Nat → Int32) → (Nat → Int32) → Prop) (k3 : (Nat → Int32) → (Nat → Int32) → Int32 → Int32 → Int32 → Prop) (I_p0 : Nat → Int32) (f_p0_characters : Nat → Int32) (f_p0_sizes : Nat → Int32) (I_p3 : Nat → Int32) (f_p3_bytes : Nat → Int32) (x1 : Int32) (x2 : Int32) (x4 : Int32) (s0 : Int32) : Prop :=
  ((s0 = 0 →
    wp_Lb_appendText_b49 post k3 I_p0 f_p0_characters f_p0_sizes I_p3 f_p3_bytes x1 x2 x4 0) ∧
   (¬ s0 = 0 →
    vp_in ((x1 * 12) + x4) 24 ∧
    wp_Lb_appendText_b49 post k3 I_p0 f_p0_characters f_p0_sizes I_p3 f_p3_bytes x1 x2 x4 (f_p0_characters ((x1 * 12) + x4).toNatClampNeg)))
def wp_Lb_appendText_l3 (post : (Nat → Int32) → (Nat → Int32) → Prop) (I_p0 : Nat → Int32) (f_p0_characters : Nat → Int32) (f_p0_sizes : Nat → Int32) : Nat → (Nat → Int32) → (Nat → Int32) → Int32 → Int32 → Int32 → Prop
  | 0, _, _, _, _, _ => False
  | n + 1, I_p3, f_p3_bytes, x1, x2, x4 =>
    ((x2 ≤ x4 →
      post I_p3 f_p3_bytes) ∧
     (¬ x2 ≤ x4 →
      vp_in x1 2 ∧
      (((f_p0_sizes (x1).toNatClampNeg) ≤ x4 →
        wp_Lb_appendText_b25 post (wp_Lb_appendText_l3 post I_p0 f_p0_characters f_p0_sizes n) I_p0 f_p0_characters f_p0_sizes I_p3 f_p3_bytes x1 x2 x4 0) ∧
       (¬ (f_p0_sizes (x1).toNatClampNeg) ≤ x4 →
        wp_Lb_appendText_b25 post (wp_Lb_appendText_l3 post I_p0 f_p0_characters f_p0_sizes n) I_p0 f_p0_characters f_p0_sizes I_p3 f_p3_bytes x1 x2 x4 1))))
def wp_Lb_appendText (post : (Nat → Int32) → (Nat → Int32) → Prop) (I_p0 : Nat → Int32) (f_p0_characters : Nat → Int32) (f_p0_sizes : Nat → Int32) (I_p3 : Nat → Int32) (f_p3_bytes : Nat → Int32) (x1 : Int32) (x2 : Int32) : Prop :=
  (∃ n1 : Nat, wp_Lb_appendText_l3 post I_p0 f_p0_characters f_p0_sizes n1 I_p3 f_p3_bytes x1 x2 0)
set_option maxRecDepth 100000 in
set_option maxHeartbeats 4000000 in
theorem c_Lb_appendText (l : Launch) (dC : Nat → ClassId) (dI : Nat → Nat → Nat) (cI : ClassId) (a_p0 : Nat) (a_p3 : Nat) (A_p0 : Nat → Nat) (A_p3 : Nat → Nat) (I_p0 : Nat → Int32) (f_p0_characters : Nat → Int32) (f_p0_sizes : Nat → Int32) (I_p3 : Nat → Int32) (f_p3_bytes : Nat → Int32) (x1 : Int32) (x2 : Int32) {post : (Nat → Int32) → (Nat → Int32) → Prop} (hw : wp_Lb_appendText post I_p0 f_p0_characters f_p0_sizes I_p3 f_p3_bytes x1 x2) : gm_v l y_Lb_appendText ws_Lb_appendText ({ frames := 1, cells := 0, slots := 0, locals := 21 } : Room) (dC, dI) vwCl [(cI, .int)] [.ref a_p0, .int x1, .int x2, .ref a_p3] [oLb a_p0 A_p0 I_p0, gz cI (A_p0 2) 24 f_p0_characters, gz cI (A_p0 1) 2 f_p0_sizes, oSt a_p3 A_p3 I_p3, gz cI (A_p3 0) 900 f_p3_bytes] (fun (u : (Nat → Int32) × (Nat → Int32)) => [oLb a_p0 A_p0 I_p0, gz cI (A_p0 2) 24 f_p0_characters, gz cI (A_p0 1) 2 f_p0_sizes, oSt a_p3 A_p3 u.1, gz cI (A_p3 0) 900 u.2]) (fun (u : (Nat → Int32) × (Nat → Int32)) => post  u.1 u.2) := by
  refine gm_vof (cc := b_Lb_appendText) (maxL := 6) (by decide) rfl (Nat.le_of_ble_eq_true rfl) ?_
  intro p e s m args below meth c A Q hx hb hml hown hg hK hN hA hnm hret
  have hown : s.vm.findClass R_Lb = some m.cls := hown
  have b49 : ∀ (k3 : (Nat → Int32) → (Nat → Int32) → Int32 → Int32 → Int32 → Prop), (∀ (H : Heap) (locs : List Loc) (ls : Array Slot) (I_p3 : Nat → Int32) (f_p3_bytes : Nat → Int32) (x1 : Int32) (x2 : Int32) (x4 : Int32), va_P (dC, dI) vwCl [oLb a_p0 A_p0 I_p0, gz cI (A_p0 2) 24 f_p0_characters, gz cI (A_p0 1) 2 f_p0_sizes, oSt a_p3 A_p3 I_p3, gz cI (A_p3 0) 900 f_p3_bytes] H → va_D A [oLb a_p0 A_p0 I_p0, gz cI (A_p0 2) 24 f_p0_characters, gz cI (A_p0 1) 2 f_p0_sizes, oSt a_p3 A_p3 I_p3, gz cI (A_p3 0) 900 f_p3_bytes] → va_S A s.heap H locs → lv_has ls 6 [(0, .ref a_p0), (1, .int x1), (2, .int x2), (3, .ref a_p3), (4, .int x4)] → k3 I_p3 f_p3_bytes x1 x2 x4 → W p l e ({ frames := 1, cells := 0, slots := 0, locals := 21 } : Room) s m args below meth c H locs 0 0 Q (F0 m 3 ls [])) → ∀ (H : Heap) (locs : List Loc) (ls : Array Slot) (I_p3 : Nat → Int32) (f_p3_bytes : Nat → Int32) (x1 : Int32) (x2 : Int32) (x4 : Int32) (s0 : Int32), va_P (dC, dI) vwCl [oLb a_p0 A_p0 I_p0, gz cI (A_p0 2) 24 f_p0_characters, gz cI (A_p0 1) 2 f_p0_sizes, oSt a_p3 A_p3 I_p3, gz cI (A_p3 0) 900 f_p3_bytes] H → va_D A [oLb a_p0 A_p0 I_p0, gz cI (A_p0 2) 24 f_p0_characters, gz cI (A_p0 1) 2 f_p0_sizes, oSt a_p3 A_p3 I_p3, gz cI (A_p3 0) 900 f_p3_bytes] → va_S A s.heap H locs → lv_has ls 6 [(0, .ref a_p0), (1, .int x1), (2, .int x2), (3, .ref a_p3), (4, .int x4)] → wp_Lb_appendText_b49 post k3 I_p0 f_p0_characters f_p0_sizes I_p3 f_p3_bytes x1 x2 x4 s0 → W p l e ({ frames := 1, cells := 0, slots := 0, locals := 21 } : Room) s m args below meth c H locs 0 0 Q (F0 m 49 ls [.int s0, .ref a_p3]) := by
    intro k3 hk3 H locs ls I_p3 f_p3_bytes x1 x2 x4 s0 hP hD hS hl hw
    unfold wp_Lb_appendText_b49 at hw
    refine gc_v (wn := fun u => [oLb a_p0 A_p0 I_p0, gz cI (A_p0 2) 24 f_p0_characters, gz cI (A_p0 1) 2 f_p0_sizes, oSt a_p3 A_p3 u.1, gz cI (A_p3 0) 900 u.2]) (wr := [oLb a_p0 A_p0 I_p0, gz cI (A_p0 2) 24 f_p0_characters, gz cI (A_p0 1) 2 f_p0_sizes]) (gr_V (As := [.int s0]) (rest := []) ⟨hx, hb, hml, hown, hg⟩ (c_St_append l dC dI cI a_p3 A_p3 I_p3 f_p3_bytes s0 hw _) (cwV 1 hg (gg_V t_605 t_285 t_286 t_61 t_287) rfl rfl rfl (by decide +kernel) ⟨Nat.le_of_ble_eq_true rfl, Nat.le_of_ble_eq_true rfl⟩) hK hN hP hD [3, 4] (by decide) rfl 3 7 rfl rfl rfl rfl hl.1 rfl (Nat.le_of_ble_eq_true rfl) d_Lb_appendText_49 ⟨Nat.le_of_ble_eq_true rfl, Nat.le_of_ble_eq_true rfl⟩) rfl rfl hP hD hS hA [3, 4] [0, 1, 2] [0, 1, 2, 3, 4] rfl rfl (by decide) (by decide) (by decide) (fun _ => rfl) ?_
    intro u9 H locs hw hP hD hS
    obtain ⟨I_p3_49, f_p3_bytes_49⟩ := u9
    try dsimp only at hw
    have hP : va_P (dC, dI) vwCl [oLb a_p0 A_p0 I_p0, gz cI (A_p0 2) 24 f_p0_characters, gz cI (A_p0 1) 2 f_p0_sizes, oSt a_p3 A_p3 I_p3_49, gz cI (A_p3 0) 900 f_p3_bytes_49] H := hP
    have hD : va_D A [oLb a_p0 A_p0 I_p0, gz cI (A_p0 2) 24 f_p0_characters, gz cI (A_p0 1) 2 f_p0_sizes, oSt a_p3 A_p3 I_p3_49, gz cI (A_p3 0) 900 f_p3_bytes_49] := hD
    refine lv_iinc (k := 4) (v := (x4 + 1)) (lv' := [(4, .int (x4 + 1)), (0, .ref a_p0), (1, .int x1), (2, .int x2), (3, .ref a_p3)]) hx hb d_Lb_appendText_52 hl rfl (congrArg (fun z => x4 + z) (by decide : Int32.ofInt 1 = 1)) (by decide) rfl (fun ls hl => ?_)
    refine lv_goto hx hb d_Lb_appendText_55 rfl ?_
    exact hk3 _ _ _ I_p3_49 f_p3_bytes_49 x1 x2 (x4 + 1) hP hD hS (lv_sub hl [1, 2, 3, 4, 0] rfl) hw
  have b25 : ∀ (k3 : (Nat → Int32) → (Nat → Int32) → Int32 → Int32 → Int32 → Prop), (∀ (H : Heap) (locs : List Loc) (ls : Array Slot) (I_p3 : Nat → Int32) (f_p3_bytes : Nat → Int32) (x1 : Int32) (x2 : Int32) (x4 : Int32), va_P (dC, dI) vwCl [oLb a_p0 A_p0 I_p0, gz cI (A_p0 2) 24 f_p0_characters, gz cI (A_p0 1) 2 f_p0_sizes, oSt a_p3 A_p3 I_p3, gz cI (A_p3 0) 900 f_p3_bytes] H → va_D A [oLb a_p0 A_p0 I_p0, gz cI (A_p0 2) 24 f_p0_characters, gz cI (A_p0 1) 2 f_p0_sizes, oSt a_p3 A_p3 I_p3, gz cI (A_p3 0) 900 f_p3_bytes] → va_S A s.heap H locs → lv_has ls 6 [(0, .ref a_p0), (1, .int x1), (2, .int x2), (3, .ref a_p3), (4, .int x4)] → k3 I_p3 f_p3_bytes x1 x2 x4 → W p l e ({ frames := 1, cells := 0, slots := 0, locals := 21 } : Room) s m args below meth c H locs 0 0 Q (F0 m 3 ls [])) → ∀ (H : Heap) (locs : List Loc) (ls : Array Slot) (I_p3 : Nat → Int32) (f_p3_bytes : Nat → Int32) (x1 : Int32) (x2 : Int32) (x4 : Int32) (s0 : Int32), va_P (dC, dI) vwCl [oLb a_p0 A_p0 I_p0, gz cI (A_p0 2) 24 f_p0_characters, gz cI (A_p0 1) 2 f_p0_sizes, oSt a_p3 A_p3 I_p3, gz cI (A_p3 0) 900 f_p3_bytes] H → va_D A [oLb a_p0 A_p0 I_p0, gz cI (A_p0 2) 24 f_p0_characters, gz cI (A_p0 1) 2 f_p0_sizes, oSt a_p3 A_p3 I_p3, gz cI (A_p3 0) 900 f_p3_bytes] → va_S A s.heap H locs → lv_has ls 6 [(0, .ref a_p0), (1, .int x1), (2, .int x2), (3, .ref a_p3), (4, .int x4)] → wp_Lb_appendText_b25 post k3 I_p0 f_p0_characters f_p0_sizes I_p3 f_p3_bytes x1 x2 x4 s0 → W p l e ({ frames := 1, cells := 0, slots := 0, locals := 21 } : Room) s m args below meth c H locs 0 0 Q (F0 m 25 ls [.int s0]) := by
    intro k3 hk3 H locs ls I_p3 f_p3_bytes x1 x2 x4 s0 hP hD hS hl hw
    unfold wp_Lb_appendText_b25 at hw
    refine lv_istore (lv' := [(5, .int s0), (0, .ref a_p0), (1, .int x1), (2, .int x2), (3, .ref a_p3), (4, .int x4)]) hx hb d_Lb_appendText_25 hl (by decide) rfl (fun ls hl => ?_)
    refine lv_aload_n hx hb d_Lb_appendText_27 rfl (lv_at hl 4 rfl) ?_
    refine lv_iload hx hb d_Lb_appendText_28 (lv_at hl 0 rfl) ?_
    refine lv_if_eq hx hb d_Lb_appendText_30 rfl (fun hc => ?_) (fun hc => ?_)
    · have hw := hw.1 hc
      refine lv_iconst (v := 0) hx hb d_Lb_appendText_48 (by decide) ?_
      exact b49 _ hk3 _ _ _ I_p3 f_p3_bytes x1 x2 x4 0 hP hD hS (lv_sub hl [1, 2, 3, 4, 5] rfl) hw
    · have hw := hw.2 hc
      refine lv_aload_n hx hb d_Lb_appendText_33 rfl (lv_at hl 1 rfl) ?_
      refine va_get (D := (dC, dI)) (ci := 2) (v := .ref (A_p0 2)) (C := R_Lb) (T := T_Lb) (N := 4) hx hb hg in_Lb hown hK hP 0 rfl rfl 2 (by decide) (hg _ t_160) (fun _ h9 => h9) rfl d_Lb_appendText_34 ?_
      refine lv_iload_n hx hb d_Lb_appendText_37 rfl (lv_at hl 2 rfl) ?_
      refine lv_bipush (v := 12) hx hb d_Lb_appendText_38 (by decide) ?_
      refine lv_imul hx hb d_Lb_appendText_40 ?_
      refine lv_iload hx hb d_Lb_appendText_41 (lv_at hl 5 rfl) ?_
      refine lv_iadd hx hb d_Lb_appendText_43 ?_
      obtain ⟨hin, hw⟩ := hw
      refine va_iald hx hb hK hP 1 0 rfl rfl hin d_Lb_appendText_44 ?_
      refine lv_goto hx hb d_Lb_appendText_45 rfl ?_
      exact b49 _ hk3 _ _ _ I_p3 f_p3_bytes x1 x2 x4 (f_p0_characters ((x1 * 12) + x4).toNatClampNeg) hP hD hS (lv_sub hl [1, 2, 3, 4, 5] rfl) hw
  have l3 : ∀ n : Nat, ∀ (H : Heap) (locs : List Loc) (ls : Array Slot) (I_p3 : Nat → Int32) (f_p3_bytes : Nat → Int32) (x1 : Int32) (x2 : Int32) (x4 : Int32), va_P (dC, dI) vwCl [oLb a_p0 A_p0 I_p0, gz cI (A_p0 2) 24 f_p0_characters, gz cI (A_p0 1) 2 f_p0_sizes, oSt a_p3 A_p3 I_p3, gz cI (A_p3 0) 900 f_p3_bytes] H → va_D A [oLb a_p0 A_p0 I_p0, gz cI (A_p0 2) 24 f_p0_characters, gz cI (A_p0 1) 2 f_p0_sizes, oSt a_p3 A_p3 I_p3, gz cI (A_p3 0) 900 f_p3_bytes] → va_S A s.heap H locs → lv_has ls 6 [(0, .ref a_p0), (1, .int x1), (2, .int x2), (3, .ref a_p3), (4, .int x4)] → wp_Lb_appendText_l3 post I_p0 f_p0_characters f_p0_sizes n I_p3 f_p3_bytes x1 x2 x4 → W p l e ({ frames := 1, cells := 0, slots := 0, locals := 21 } : Room) s m args below meth c H locs 0 0 Q (F0 m 3 ls []) := by
    intro n
    induction n with
    | zero => intro H locs ls I_p3 f_p3_bytes x1 x2 x4 hP hD hS hl hw; exact hw.elim
    | succ n ih =>
      intro H locs ls I_p3 f_p3_bytes x1 x2 x4 hP hD hS hl hw
      unfold wp_Lb_appendText_l3 at hw
      refine lv_iload hx hb d_Lb_appendText_3 (lv_at hl 4 rfl) ?_
      refine lv_iload_n hx hb d_Lb_appendText_5 rfl (lv_at hl 2 rfl) ?_
      refine lv_icmp_ge hx hb d_Lb_appendText_6 rfl (fun hc => ?_) (fun hc => ?_)
      · have hw := hw.1 hc
        exact hret _ _ _ _ (I_p3, f_p3_bytes) d_Lb_appendText_58 hP hD hS hw
      · have hw := hw.2 hc
        refine lv_iload hx hb d_Lb_appendText_9 (lv_at hl 4 rfl) ?_
        refine lv_aload_n hx hb d_Lb_appendText_11 rfl (lv_at hl 0 rfl) ?_
        refine va_get (D := (dC, dI)) (ci := 2) (v := .ref (A_p0 1)) (C := R_Lb) (T := T_Lb) (N := 4) hx hb hg in_Lb hown hK hP 0 rfl rfl 1 (by decide) (hg _ t_159) (fun _ h9 => h9) rfl d_Lb_appendText_12 ?_
        refine lv_iload_n hx hb d_Lb_appendText_15 rfl (lv_at hl 1 rfl) ?_
        obtain ⟨hin, hw⟩ := hw
        refine va_iald hx hb hK hP 2 0 rfl rfl hin d_Lb_appendText_16 ?_
        refine lv_icmp_ge hx hb d_Lb_appendText_17 rfl (fun hc => ?_) (fun hc => ?_)
        · have hw := hw.1 hc
          refine lv_iconst (v := 0) hx hb d_Lb_appendText_24 (by decide) ?_
          exact b25 _ ih _ _ _ I_p3 f_p3_bytes x1 x2 x4 0 hP hD hS (lv_sub hl [0, 1, 2, 3, 4] rfl) hw
        · have hw := hw.2 hc
          refine lv_iconst (v := 1) hx hb d_Lb_appendText_20 (by decide) ?_
          refine lv_goto hx hb d_Lb_appendText_21 rfl ?_
          exact b25 _ ih _ _ _ I_p3 f_p3_bytes x1 x2 x4 1 hP hD hS (lv_sub hl [0, 1, 2, 3, 4] rfl) hw
  intro ls hl hP hD hS
  have hl : lv_has ls 6 [(0, .ref a_p0), (1, .int x1), (2, .int x2), (3, .ref a_p3)] := hl
  unfold wp_Lb_appendText at hw
  refine lv_iconst (v := 0) hx hb d_Lb_appendText_0 (by decide) ?_
  refine lv_istore (lv' := [(4, .int 0), (0, .ref a_p0), (1, .int x1), (2, .int x2), (3, .ref a_p3)]) hx hb d_Lb_appendText_1 hl (by decide) rfl (fun ls hl => ?_)
  obtain ⟨n1, hw⟩ := hw
  exact l3 n1 _ _ _ I_p3 f_p3_bytes x1 x2 0 hP hD hS (lv_sub hl [1, 2, 3, 4, 0] rfl) hw
theorem d_X_appendTextEntry_0 : decode b_X_appendTextEntry 0 = .ok (.aload_n 0, 1) := by decide +kernel
theorem d_X_appendTextEntry_1 : decode b_X_appendTextEntry 1 = .ok (.getfield 33, 3) := by decide +kernel
theorem d_X_appendTextEntry_4 : decode b_X_appendTextEntry 4 = .ok (.iload_n 1, 1) := by decide +kernel
theorem d_X_appendTextEntry_5 : decode b_X_appendTextEntry 5 = .ok (.invokevirtual 293, 3) := by decide +kernel
theorem d_X_appendTextEntry_8 : decode b_X_appendTextEntry 8 = .ok (.istore_n 2, 1) := by decide +kernel
theorem d_X_appendTextEntry_9 : decode b_X_appendTextEntry 9 = .ok (.aload_n 0, 1) := by decide +kernel
theorem d_X_appendTextEntry_10 : decode b_X_appendTextEntry 10 = .ok (.getfield 10, 3) := by decide +kernel
theorem d_X_appendTextEntry_13 : decode b_X_appendTextEntry 13 = .ok (.aload_n 0, 1) := by decide +kernel
theorem d_X_appendTextEntry_14 : decode b_X_appendTextEntry 14 = .ok (.getfield 33, 3) := by decide +kernel
theorem d_X_appendTextEntry_17 : decode b_X_appendTextEntry 17 = .ok (.getfield 317, 3) := by decide +kernel
theorem d_X_appendTextEntry_20 : decode b_X_appendTextEntry 20 = .ok (.iload_n 1, 1) := by decide +kernel
theorem d_X_appendTextEntry_21 : decode b_X_appendTextEntry 21 = .ok (.iaload, 1) := by decide +kernel
theorem d_X_appendTextEntry_22 : decode b_X_appendTextEntry 22 = .ok (.invokevirtual 299, 3) := by decide +kernel
theorem d_X_appendTextEntry_25 : decode b_X_appendTextEntry 25 = .ok (.aload_n 0, 1) := by decide +kernel
theorem d_X_appendTextEntry_26 : decode b_X_appendTextEntry 26 = .ok (.getfield 10, 3) := by decide +kernel
theorem d_X_appendTextEntry_29 : decode b_X_appendTextEntry 29 = .ok (.iconst 2, 1) := by decide +kernel
theorem d_X_appendTextEntry_30 : decode b_X_appendTextEntry 30 = .ok (.invokevirtual 299, 3) := by decide +kernel
theorem d_X_appendTextEntry_33 : decode b_X_appendTextEntry 33 = .ok (.aload_n 0, 1) := by decide +kernel
theorem d_X_appendTextEntry_34 : decode b_X_appendTextEntry 34 = .ok (.getfield 10, 3) := by decide +kernel
theorem d_X_appendTextEntry_37 : decode b_X_appendTextEntry 37 = .ok (.iload_n 2, 1) := by decide +kernel
theorem d_X_appendTextEntry_38 : decode b_X_appendTextEntry 38 = .ok (.invokevirtual 286, 3) := by decide +kernel
theorem d_X_appendTextEntry_41 : decode b_X_appendTextEntry 41 = .ok (.iload_n 2, 1) := by decide +kernel
theorem d_X_appendTextEntry_42 : decode b_X_appendTextEntry 42 = .ok (.iconst 4, 1) := by decide +kernel
theorem d_X_appendTextEntry_43 : decode b_X_appendTextEntry 43 = .ok (.if_icmp .le 19, 3) := by decide +kernel
theorem d_X_appendTextEntry_46 : decode b_X_appendTextEntry 46 = .ok (.aload_n 0, 1) := by decide +kernel
theorem d_X_appendTextEntry_47 : decode b_X_appendTextEntry 47 = .ok (.getfield 10, 3) := by decide +kernel
theorem d_X_appendTextEntry_50 : decode b_X_appendTextEntry 50 = .ok (.aload_n 0, 1) := by decide +kernel
theorem d_X_appendTextEntry_51 : decode b_X_appendTextEntry 51 = .ok (.getfield 85, 3) := by decide +kernel
theorem d_X_appendTextEntry_54 : decode b_X_appendTextEntry 54 = .ok (.iload_n 1, 1) := by decide +kernel
theorem d_X_appendTextEntry_55 : decode b_X_appendTextEntry 55 = .ok (.iaload, 1) := by decide +kernel
theorem d_X_appendTextEntry_56 : decode b_X_appendTextEntry 56 = .ok (.invokevirtual 286, 3) := by decide +kernel
theorem d_X_appendTextEntry_59 : decode b_X_appendTextEntry 59 = .ok (.goto 16, 3) := by decide +kernel
theorem d_X_appendTextEntry_62 : decode b_X_appendTextEntry 62 = .ok (.aload_n 0, 1) := by decide +kernel
theorem d_X_appendTextEntry_63 : decode b_X_appendTextEntry 63 = .ok (.getfield 33, 3) := by decide +kernel
theorem d_X_appendTextEntry_66 : decode b_X_appendTextEntry 66 = .ok (.iload_n 1, 1) := by decide +kernel
theorem d_X_appendTextEntry_67 : decode b_X_appendTextEntry 67 = .ok (.iconst 4, 1) := by decide +kernel
theorem d_X_appendTextEntry_68 : decode b_X_appendTextEntry 68 = .ok (.aload_n 0, 1) := by decide +kernel
theorem d_X_appendTextEntry_69 : decode b_X_appendTextEntry 69 = .ok (.getfield 10, 3) := by decide +kernel
theorem d_X_appendTextEntry_72 : decode b_X_appendTextEntry 72 = .ok (.invokevirtual 296, 3) := by decide +kernel
theorem d_X_appendTextEntry_75 : decode b_X_appendTextEntry 75 = .ok (.return_, 1) := by decide +kernel
def wp_X_appendTextEntry (post : (Nat → Int32) → (Nat → Int32) → Prop) (I_p0_labels : Nat → Int32) (f_p0_labels_characters : Nat → Int32) (f_p0_labels_sizes : Nat → Int32) (f_p0_labels_tags : Nat → Int32) (f_p0_writtenTexts : Nat → Int32) (I_p0_file : Nat → Int32) (f_p0_file_bytes : Nat → Int32) (x1 : Int32) : Prop :=
  wp_Lb_bytesOf (fun (r5 : Int32) =>
    vp_in x1 2 ∧
    wp_St_appendShort (fun (I_p0_file_22 : Nat → Int32) (f_p0_file_bytes_22 : Nat → Int32) =>
      wp_St_appendShort (fun (I_p0_file_30 : Nat → Int32) (f_p0_file_bytes_30 : Nat → Int32) =>
        wp_St_appendLong (fun (I_p0_file_38 : Nat → Int32) (f_p0_file_bytes_38 : Nat → Int32) =>
          ((r5 ≤ 4 →
            wp_Lb_appendText (fun (I_p0_file_72 : Nat → Int32) (f_p0_file_bytes_72 : Nat → Int32) =>
              post I_p0_file_72 f_p0_file_bytes_72) I_p0_labels f_p0_labels_characters f_p0_labels_sizes I_p0_file_38 f_p0_file_bytes_38 x1 4) ∧
           (¬ r5 ≤ 4 →
            vp_in x1 2 ∧
            wp_St_appendLong (fun (I_p0_file_56 : Nat → Int32) (f_p0_file_bytes_56 : Nat → Int32) =>
              post I_p0_file_56 f_p0_file_bytes_56) I_p0_file_38 f_p0_file_bytes_38 (f_p0_writtenTexts (x1).toNatClampNeg)))) I_p0_file_30 f_p0_file_bytes_30 r5) I_p0_file_22 f_p0_file_bytes_22 2) I_p0_file f_p0_file_bytes (f_p0_labels_tags (x1).toNatClampNeg)) I_p0_labels f_p0_labels_sizes x1
set_option maxRecDepth 100000 in
set_option maxHeartbeats 4000000 in
theorem c_X_appendTextEntry (l : Launch) (dC : Nat → ClassId) (dI : Nat → Nat → Nat) (cI : ClassId) (a_p0 : Nat) (A_p0 : Nat → Nat) (A_p0_file : Nat → Nat) (A_p0_labels : Nat → Nat) (I_p0_labels : Nat → Int32) (f_p0_labels_characters : Nat → Int32) (f_p0_labels_sizes : Nat → Int32) (f_p0_labels_tags : Nat → Int32) (f_p0_writtenTexts : Nat → Int32) (I_p0_file : Nat → Int32) (f_p0_file_bytes : Nat → Int32) (x1 : Int32) {post : (Nat → Int32) → (Nat → Int32) → Prop} (hw : wp_X_appendTextEntry post I_p0_labels f_p0_labels_characters f_p0_labels_sizes f_p0_labels_tags f_p0_writtenTexts I_p0_file f_p0_file_bytes x1) : gm_v l y_X_appendTextEntry ws_X_appendTextEntry ({ frames := 2, cells := 0, slots := 0, locals := 46 } : Room) (dC, dI) vwCl [(cI, .int)] [.ref a_p0, .int x1] [oX a_p0 A_p0, oSt (A_p0 0) A_p0_file I_p0_file, gz cI (A_p0_file 0) 900 f_p0_file_bytes, oLb (A_p0 3) A_p0_labels I_p0_labels, gz cI (A_p0_labels 2) 24 f_p0_labels_characters, gz cI (A_p0_labels 1) 2 f_p0_labels_sizes, gz cI (A_p0_labels 0) 2 f_p0_labels_tags, gz cI (A_p0 13) 2 f_p0_writtenTexts] (fun (u : (Nat → Int32) × (Nat → Int32)) => [oX a_p0 A_p0, oSt (A_p0 0) A_p0_file u.1, gz cI (A_p0_file 0) 900 u.2, oLb (A_p0 3) A_p0_labels I_p0_labels, gz cI (A_p0_labels 2) 24 f_p0_labels_characters, gz cI (A_p0_labels 1) 2 f_p0_labels_sizes, gz cI (A_p0_labels 0) 2 f_p0_labels_tags, gz cI (A_p0 13) 2 f_p0_writtenTexts]) (fun (u : (Nat → Int32) × (Nat → Int32)) => post  u.1 u.2) := by
  refine gm_vof (cc := b_X_appendTextEntry) (maxL := 3) (by decide) rfl (Nat.le_of_ble_eq_true rfl) ?_
  intro p e s m args below meth c A Q hx hb hml hown hg hK hN hA hnm hret
  have hown : s.vm.findClass R_X = some m.cls := hown
  intro ls hl hP hD hS
  have hl : lv_has ls 3 [(0, .ref a_p0), (1, .int x1)] := hl
  unfold wp_X_appendTextEntry at hw
  refine lv_aload_n hx hb d_X_appendTextEntry_0 rfl (lv_at hl 0 rfl) ?_
  refine va_get (D := (dC, dI)) (ci := 9) (v := .ref (A_p0 3)) (C := R_X) (T := T_X) (N := 14) hx hb hg in_X hown hK hP 0 rfl rfl 3 (by decide) (hg _ t_310) (fun _ h9 => h9) rfl d_X_appendTextEntry_1 ?_
  refine lv_iload_n hx hb d_X_appendTextEntry_4 rfl (lv_at hl 1 rfl) ?_
  refine gc_i (wn := fun (_ : Unit) => [oX a_p0 A_p0, oSt (A_p0 0) A_p0_file I_p0_file, gz cI (A_p0_file 0) 900 f_p0_file_bytes, oLb (A_p0 3) A_p0_labels I_p0_labels, gz cI (A_p0_labels 2) 24 f_p0_labels_characters, gz cI (A_p0_labels 1) 2 f_p0_labels_sizes, gz cI (A_p0_labels 0) 2 f_p0_labels_tags, gz cI (A_p0 13) 2 f_p0_writtenTexts]) (wr := [oX a_p0 A_p0, oSt (A_p0 0) A_p0_file I_p0_file, gz cI (A_p0_file 0) 900 f_p0_file_bytes, gz cI (A_p0_labels 2) 24 f_p0_labels_characters, gz cI (A_p0_labels 0) 2 f_p0_labels_tags, gz cI (A_p0 13) 2 f_p0_writtenTexts]) (gr_V (As := [.int x1]) (rest := []) ⟨hx, hb, hml, hown, hg⟩ (c_Lb_bytesOf l dC dI cI (A_p0 3) A_p0_labels I_p0_labels f_p0_labels_sizes x1 hw _) (cwV 1 hg (gg_V t_597 t_598 t_599 t_64 t_600) rfl rfl rfl (by decide +kernel) ⟨Nat.le_of_ble_eq_true rfl, Nat.le_of_ble_eq_true rfl⟩) hK hN hP hD [3, 5] (by decide) rfl 3 2 rfl rfl rfl rfl hl.1 rfl (Nat.le_of_ble_eq_true rfl) d_X_appendTextEntry_5 ⟨Nat.le_of_ble_eq_true rfl, Nat.le_of_ble_eq_true rfl⟩) rfl rfl hP hD hS hA [3, 5] [0, 1, 2, 4, 6, 7] [0, 1, 2, 6, 3, 7, 4, 5] rfl rfl (by decide) (by decide) (by decide) (fun _ => rfl) ?_
  intro r5 _ H locs hw hP hD hS
  try dsimp only at hw
  have hP : va_P (dC, dI) vwCl [oX a_p0 A_p0, oSt (A_p0 0) A_p0_file I_p0_file, gz cI (A_p0_file 0) 900 f_p0_file_bytes, oLb (A_p0 3) A_p0_labels I_p0_labels, gz cI (A_p0_labels 2) 24 f_p0_labels_characters, gz cI (A_p0_labels 1) 2 f_p0_labels_sizes, gz cI (A_p0_labels 0) 2 f_p0_labels_tags, gz cI (A_p0 13) 2 f_p0_writtenTexts] H := hP
  have hD : va_D A [oX a_p0 A_p0, oSt (A_p0 0) A_p0_file I_p0_file, gz cI (A_p0_file 0) 900 f_p0_file_bytes, oLb (A_p0 3) A_p0_labels I_p0_labels, gz cI (A_p0_labels 2) 24 f_p0_labels_characters, gz cI (A_p0_labels 1) 2 f_p0_labels_sizes, gz cI (A_p0_labels 0) 2 f_p0_labels_tags, gz cI (A_p0 13) 2 f_p0_writtenTexts] := hD
  refine lv_istore_n (lv' := [(2, .int r5), (0, .ref a_p0), (1, .int x1)]) hx hb d_X_appendTextEntry_8 rfl hl (by decide) rfl (fun ls hl => ?_)
  refine lv_aload_n hx hb d_X_appendTextEntry_9 rfl (lv_at hl 1 rfl) ?_
  refine va_get (D := (dC, dI)) (ci := 9) (v := .ref (A_p0 0)) (C := R_X) (T := T_X) (N := 14) hx hb hg in_X hown hK hP 0 rfl rfl 0 (by decide) (hg _ t_307) (fun _ h9 => h9) rfl d_X_appendTextEntry_10 ?_
  refine lv_aload_n hx hb d_X_appendTextEntry_13 rfl (lv_at hl 1 rfl) ?_
  refine va_get (D := (dC, dI)) (ci := 9) (v := .ref (A_p0 3)) (C := R_X) (T := T_X) (N := 14) hx hb hg in_X hown hK hP 0 rfl rfl 3 (by decide) (hg _ t_310) (fun _ h9 => h9) rfl d_X_appendTextEntry_14 ?_
  refine va_get (D := (dC, dI)) (ci := 2) (v := .ref (A_p0_labels 0)) (C := R_Lb) (T := T_Lb) (N := 4) hx hb hg in_Lb hown hK hP 3 rfl rfl 0 (by decide) (hg _ t_158) (fun _ h9 => h9) rfl d_X_appendTextEntry_17 ?_
  refine lv_iload_n hx hb d_X_appendTextEntry_20 rfl (lv_at hl 2 rfl) ?_
  obtain ⟨hin, hw⟩ := hw
  refine va_iald hx hb hK hP 6 0 rfl rfl hin d_X_appendTextEntry_21 ?_
  refine gc_v (wn := fun u => [oX a_p0 A_p0, oSt (A_p0 0) A_p0_file u.1, gz cI (A_p0_file 0) 900 u.2, oLb (A_p0 3) A_p0_labels I_p0_labels, gz cI (A_p0_labels 2) 24 f_p0_labels_characters, gz cI (A_p0_labels 1) 2 f_p0_labels_sizes, gz cI (A_p0_labels 0) 2 f_p0_labels_tags, gz cI (A_p0 13) 2 f_p0_writtenTexts]) (wr := [oX a_p0 A_p0, oLb (A_p0 3) A_p0_labels I_p0_labels, gz cI (A_p0_labels 2) 24 f_p0_labels_characters, gz cI (A_p0_labels 1) 2 f_p0_labels_sizes, gz cI (A_p0_labels 0) 2 f_p0_labels_tags, gz cI (A_p0 13) 2 f_p0_writtenTexts]) (gr_V (As := [.int (f_p0_labels_tags (x1).toNatClampNeg)]) (rest := []) ⟨hx, hb, hml, hown, hg⟩ (c_St_appendShort l dC dI cI (A_p0 0) A_p0_file I_p0_file f_p0_file_bytes (f_p0_labels_tags (x1).toNatClampNeg) hw _) (cwV 1 hg (gg_V t_610 t_289 t_290 t_61 t_291) rfl rfl rfl (by decide +kernel) ⟨Nat.le_of_ble_eq_true rfl, Nat.le_of_ble_eq_true rfl⟩) hK hN hP hD [1, 2] (by decide) rfl 1 7 rfl rfl rfl rfl hl.1 rfl (Nat.le_of_ble_eq_true rfl) d_X_appendTextEntry_22 ⟨Nat.le_of_ble_eq_true rfl, Nat.le_of_ble_eq_true rfl⟩) rfl rfl hP hD hS hA [1, 2] [0, 3, 4, 5, 6, 7] [0, 6, 7, 1, 2, 3, 4, 5] rfl rfl (by decide) (by decide) (by decide) (fun _ => rfl) ?_
  intro u9 H locs hw hP hD hS
  obtain ⟨I_p0_file_22, f_p0_file_bytes_22⟩ := u9
  try dsimp only at hw
  have hP : va_P (dC, dI) vwCl [oX a_p0 A_p0, oSt (A_p0 0) A_p0_file I_p0_file_22, gz cI (A_p0_file 0) 900 f_p0_file_bytes_22, oLb (A_p0 3) A_p0_labels I_p0_labels, gz cI (A_p0_labels 2) 24 f_p0_labels_characters, gz cI (A_p0_labels 1) 2 f_p0_labels_sizes, gz cI (A_p0_labels 0) 2 f_p0_labels_tags, gz cI (A_p0 13) 2 f_p0_writtenTexts] H := hP
  have hD : va_D A [oX a_p0 A_p0, oSt (A_p0 0) A_p0_file I_p0_file_22, gz cI (A_p0_file 0) 900 f_p0_file_bytes_22, oLb (A_p0 3) A_p0_labels I_p0_labels, gz cI (A_p0_labels 2) 24 f_p0_labels_characters, gz cI (A_p0_labels 1) 2 f_p0_labels_sizes, gz cI (A_p0_labels 0) 2 f_p0_labels_tags, gz cI (A_p0 13) 2 f_p0_writtenTexts] := hD
  refine lv_aload_n hx hb d_X_appendTextEntry_25 rfl (lv_at hl 1 rfl) ?_
  refine va_get (D := (dC, dI)) (ci := 9) (v := .ref (A_p0 0)) (C := R_X) (T := T_X) (N := 14) hx hb hg in_X hown hK hP 0 rfl rfl 0 (by decide) (hg _ t_307) (fun _ h9 => h9) rfl d_X_appendTextEntry_26 ?_
  refine lv_iconst (v := 2) hx hb d_X_appendTextEntry_29 (by decide) ?_
  refine gc_v (wn := fun u => [oX a_p0 A_p0, oSt (A_p0 0) A_p0_file u.1, gz cI (A_p0_file 0) 900 u.2, oLb (A_p0 3) A_p0_labels I_p0_labels, gz cI (A_p0_labels 2) 24 f_p0_labels_characters, gz cI (A_p0_labels 1) 2 f_p0_labels_sizes, gz cI (A_p0_labels 0) 2 f_p0_labels_tags, gz cI (A_p0 13) 2 f_p0_writtenTexts]) (wr := [oX a_p0 A_p0, oLb (A_p0 3) A_p0_labels I_p0_labels, gz cI (A_p0_labels 2) 24 f_p0_labels_characters, gz cI (A_p0_labels 1) 2 f_p0_labels_sizes, gz cI (A_p0_labels 0) 2 f_p0_labels_tags, gz cI (A_p0 13) 2 f_p0_writtenTexts]) (gr_V (As := [.int 2]) (rest := []) ⟨hx, hb, hml, hown, hg⟩ (c_St_appendShort l dC dI cI (A_p0 0) A_p0_file I_p0_file_22 f_p0_file_bytes_22 2 hw _) (cwV 1 hg (gg_V t_610 t_289 t_290 t_61 t_291) rfl rfl rfl (by decide +kernel) ⟨Nat.le_of_ble_eq_true rfl, Nat.le_of_ble_eq_true rfl⟩) hK hN hP hD [1, 2] (by decide) rfl 1 7 rfl rfl rfl rfl hl.1 rfl (Nat.le_of_ble_eq_true rfl) d_X_appendTextEntry_30 ⟨Nat.le_of_ble_eq_true rfl, Nat.le_of_ble_eq_true rfl⟩) rfl rfl hP hD hS hA [1, 2] [0, 3, 4, 5, 6, 7] [0, 6, 7, 1, 2, 3, 4, 5] rfl rfl (by decide) (by decide) (by decide) (fun _ => rfl) ?_
  intro u9 H locs hw hP hD hS
  obtain ⟨I_p0_file_30, f_p0_file_bytes_30⟩ := u9
  try dsimp only at hw
  have hP : va_P (dC, dI) vwCl [oX a_p0 A_p0, oSt (A_p0 0) A_p0_file I_p0_file_30, gz cI (A_p0_file 0) 900 f_p0_file_bytes_30, oLb (A_p0 3) A_p0_labels I_p0_labels, gz cI (A_p0_labels 2) 24 f_p0_labels_characters, gz cI (A_p0_labels 1) 2 f_p0_labels_sizes, gz cI (A_p0_labels 0) 2 f_p0_labels_tags, gz cI (A_p0 13) 2 f_p0_writtenTexts] H := hP
  have hD : va_D A [oX a_p0 A_p0, oSt (A_p0 0) A_p0_file I_p0_file_30, gz cI (A_p0_file 0) 900 f_p0_file_bytes_30, oLb (A_p0 3) A_p0_labels I_p0_labels, gz cI (A_p0_labels 2) 24 f_p0_labels_characters, gz cI (A_p0_labels 1) 2 f_p0_labels_sizes, gz cI (A_p0_labels 0) 2 f_p0_labels_tags, gz cI (A_p0 13) 2 f_p0_writtenTexts] := hD
  refine lv_aload_n hx hb d_X_appendTextEntry_33 rfl (lv_at hl 1 rfl) ?_
  refine va_get (D := (dC, dI)) (ci := 9) (v := .ref (A_p0 0)) (C := R_X) (T := T_X) (N := 14) hx hb hg in_X hown hK hP 0 rfl rfl 0 (by decide) (hg _ t_307) (fun _ h9 => h9) rfl d_X_appendTextEntry_34 ?_
  refine lv_iload_n hx hb d_X_appendTextEntry_37 rfl (lv_at hl 0 rfl) ?_
  refine gc_v (wn := fun u => [oX a_p0 A_p0, oSt (A_p0 0) A_p0_file u.1, gz cI (A_p0_file 0) 900 u.2, oLb (A_p0 3) A_p0_labels I_p0_labels, gz cI (A_p0_labels 2) 24 f_p0_labels_characters, gz cI (A_p0_labels 1) 2 f_p0_labels_sizes, gz cI (A_p0_labels 0) 2 f_p0_labels_tags, gz cI (A_p0 13) 2 f_p0_writtenTexts]) (wr := [oX a_p0 A_p0, oLb (A_p0 3) A_p0_labels I_p0_labels, gz cI (A_p0_labels 2) 24 f_p0_labels_characters, gz cI (A_p0_labels 1) 2 f_p0_labels_sizes, gz cI (A_p0_labels 0) 2 f_p0_labels_tags, gz cI (A_p0 13) 2 f_p0_writtenTexts]) (gr_V (As := [.int r5]) (rest := []) ⟨hx, hb, hml, hown, hg⟩ (c_St_appendLong l dC dI cI (A_p0 0) A_p0_file I_p0_file_30 f_p0_file_bytes_30 r5 hw _) (cwV 1 hg (gg_V t_588 t_293 t_294 t_61 t_295) rfl rfl rfl (by decide +kernel) ⟨Nat.le_of_ble_eq_true rfl, Nat.le_of_ble_eq_true rfl⟩) hK hN hP hD [1, 2] (by decide) rfl 1 7 rfl rfl rfl rfl hl.1 rfl (Nat.le_of_ble_eq_true rfl) d_X_appendTextEntry_38 ⟨Nat.le_of_ble_eq_true rfl, Nat.le_of_ble_eq_true rfl⟩) rfl rfl hP hD hS hA [1, 2] [0, 3, 4, 5, 6, 7] [0, 6, 7, 1, 2, 3, 4, 5] rfl rfl (by decide) (by decide) (by decide) (fun _ => rfl) ?_
  intro u9 H locs hw hP hD hS
  obtain ⟨I_p0_file_38, f_p0_file_bytes_38⟩ := u9
  try dsimp only at hw
  have hP : va_P (dC, dI) vwCl [oX a_p0 A_p0, oSt (A_p0 0) A_p0_file I_p0_file_38, gz cI (A_p0_file 0) 900 f_p0_file_bytes_38, oLb (A_p0 3) A_p0_labels I_p0_labels, gz cI (A_p0_labels 2) 24 f_p0_labels_characters, gz cI (A_p0_labels 1) 2 f_p0_labels_sizes, gz cI (A_p0_labels 0) 2 f_p0_labels_tags, gz cI (A_p0 13) 2 f_p0_writtenTexts] H := hP
  have hD : va_D A [oX a_p0 A_p0, oSt (A_p0 0) A_p0_file I_p0_file_38, gz cI (A_p0_file 0) 900 f_p0_file_bytes_38, oLb (A_p0 3) A_p0_labels I_p0_labels, gz cI (A_p0_labels 2) 24 f_p0_labels_characters, gz cI (A_p0_labels 1) 2 f_p0_labels_sizes, gz cI (A_p0_labels 0) 2 f_p0_labels_tags, gz cI (A_p0 13) 2 f_p0_writtenTexts] := hD
  refine lv_iload_n hx hb d_X_appendTextEntry_41 rfl (lv_at hl 0 rfl) ?_
  refine lv_iconst (v := 4) hx hb d_X_appendTextEntry_42 (by decide) ?_
  refine lv_icmp_le hx hb d_X_appendTextEntry_43 rfl (fun hc => ?_) (fun hc => ?_)
  · have hw := hw.1 hc
    refine lv_aload_n hx hb d_X_appendTextEntry_62 rfl (lv_at hl 1 rfl) ?_
    refine va_get (D := (dC, dI)) (ci := 9) (v := .ref (A_p0 3)) (C := R_X) (T := T_X) (N := 14) hx hb hg in_X hown hK hP 0 rfl rfl 3 (by decide) (hg _ t_310) (fun _ h9 => h9) rfl d_X_appendTextEntry_63 ?_
    refine lv_iload_n hx hb d_X_appendTextEntry_66 rfl (lv_at hl 2 rfl) ?_
    refine lv_iconst (v := 4) hx hb d_X_appendTextEntry_67 (by decide) ?_
    refine lv_aload_n hx hb d_X_appendTextEntry_68 rfl (lv_at hl 1 rfl) ?_
    refine va_get (D := (dC, dI)) (ci := 9) (v := .ref (A_p0 0)) (C := R_X) (T := T_X) (N := 14) hx hb hg in_X hown hK hP 0 rfl rfl 0 (by decide) (hg _ t_307) (fun _ h9 => h9) rfl d_X_appendTextEntry_69 ?_
    refine gc_v (wn := fun u => [oX a_p0 A_p0, oSt (A_p0 0) A_p0_file u.1, gz cI (A_p0_file 0) 900 u.2, oLb (A_p0 3) A_p0_labels I_p0_labels, gz cI (A_p0_labels 2) 24 f_p0_labels_characters, gz cI (A_p0_labels 1) 2 f_p0_labels_sizes, gz cI (A_p0_labels 0) 2 f_p0_labels_tags, gz cI (A_p0 13) 2 f_p0_writtenTexts]) (wr := [oX a_p0 A_p0, gz cI (A_p0_labels 0) 2 f_p0_labels_tags, gz cI (A_p0 13) 2 f_p0_writtenTexts]) (gr_V (As := [.int x1, .int 4, .ref (A_p0 0)]) (rest := []) ⟨hx, hb, hml, hown, hg⟩ (c_Lb_appendText l dC dI cI (A_p0 3) (A_p0 0) A_p0_labels A_p0_file I_p0_labels f_p0_labels_characters f_p0_labels_sizes I_p0_file_38 f_p0_file_bytes_38 x1 4 hw _) (cwV 3 hg (gg_V t_601 t_602 t_603 t_64 t_604) rfl rfl rfl (by decide +kernel) ⟨Nat.le_of_ble_eq_true rfl, Nat.le_of_ble_eq_true rfl⟩) hK hN hP hD [3, 4, 5, 1, 2] (by decide) rfl 3 2 rfl rfl rfl rfl hl.1 rfl (Nat.le_of_ble_eq_true rfl) d_X_appendTextEntry_72 ⟨Nat.le_of_ble_eq_true rfl, Nat.le_of_ble_eq_true rfl⟩) rfl rfl hP hD hS hA [3, 4, 5, 1, 2] [0, 6, 7] [0, 6, 7, 3, 4, 5, 1, 2] rfl rfl (by decide) (by decide) (by decide) (fun _ => rfl) ?_
    intro u9 H locs hw hP hD hS
    obtain ⟨I_p0_file_72, f_p0_file_bytes_72⟩ := u9
    try dsimp only at hw
    have hP : va_P (dC, dI) vwCl [oX a_p0 A_p0, oSt (A_p0 0) A_p0_file I_p0_file_72, gz cI (A_p0_file 0) 900 f_p0_file_bytes_72, oLb (A_p0 3) A_p0_labels I_p0_labels, gz cI (A_p0_labels 2) 24 f_p0_labels_characters, gz cI (A_p0_labels 1) 2 f_p0_labels_sizes, gz cI (A_p0_labels 0) 2 f_p0_labels_tags, gz cI (A_p0 13) 2 f_p0_writtenTexts] H := hP
    have hD : va_D A [oX a_p0 A_p0, oSt (A_p0 0) A_p0_file I_p0_file_72, gz cI (A_p0_file 0) 900 f_p0_file_bytes_72, oLb (A_p0 3) A_p0_labels I_p0_labels, gz cI (A_p0_labels 2) 24 f_p0_labels_characters, gz cI (A_p0_labels 1) 2 f_p0_labels_sizes, gz cI (A_p0_labels 0) 2 f_p0_labels_tags, gz cI (A_p0 13) 2 f_p0_writtenTexts] := hD
    exact hret _ _ _ _ (I_p0_file_72, f_p0_file_bytes_72) d_X_appendTextEntry_75 hP hD hS hw
  · have hw := hw.2 hc
    refine lv_aload_n hx hb d_X_appendTextEntry_46 rfl (lv_at hl 1 rfl) ?_
    refine va_get (D := (dC, dI)) (ci := 9) (v := .ref (A_p0 0)) (C := R_X) (T := T_X) (N := 14) hx hb hg in_X hown hK hP 0 rfl rfl 0 (by decide) (hg _ t_307) (fun _ h9 => h9) rfl d_X_appendTextEntry_47 ?_
    refine lv_aload_n hx hb d_X_appendTextEntry_50 rfl (lv_at hl 1 rfl) ?_
    refine va_get (D := (dC, dI)) (ci := 9) (v := .ref (A_p0 13)) (C := R_X) (T := T_X) (N := 14) hx hb hg in_X hown hK hP 0 rfl rfl 13 (by decide) (hg _ t_320) (fun _ h9 => h9) rfl d_X_appendTextEntry_51 ?_
    refine lv_iload_n hx hb d_X_appendTextEntry_54 rfl (lv_at hl 2 rfl) ?_
    obtain ⟨hin, hw⟩ := hw
    refine va_iald hx hb hK hP 7 0 rfl rfl hin d_X_appendTextEntry_55 ?_
    refine gc_v (wn := fun u => [oX a_p0 A_p0, oSt (A_p0 0) A_p0_file u.1, gz cI (A_p0_file 0) 900 u.2, oLb (A_p0 3) A_p0_labels I_p0_labels, gz cI (A_p0_labels 2) 24 f_p0_labels_characters, gz cI (A_p0_labels 1) 2 f_p0_labels_sizes, gz cI (A_p0_labels 0) 2 f_p0_labels_tags, gz cI (A_p0 13) 2 f_p0_writtenTexts]) (wr := [oX a_p0 A_p0, oLb (A_p0 3) A_p0_labels I_p0_labels, gz cI (A_p0_labels 2) 24 f_p0_labels_characters, gz cI (A_p0_labels 1) 2 f_p0_labels_sizes, gz cI (A_p0_labels 0) 2 f_p0_labels_tags, gz cI (A_p0 13) 2 f_p0_writtenTexts]) (gr_V (As := [.int (f_p0_writtenTexts (x1).toNatClampNeg)]) (rest := []) ⟨hx, hb, hml, hown, hg⟩ (c_St_appendLong l dC dI cI (A_p0 0) A_p0_file I_p0_file_38 f_p0_file_bytes_38 (f_p0_writtenTexts (x1).toNatClampNeg) hw _) (cwV 1 hg (gg_V t_588 t_293 t_294 t_61 t_295) rfl rfl rfl (by decide +kernel) ⟨Nat.le_of_ble_eq_true rfl, Nat.le_of_ble_eq_true rfl⟩) hK hN hP hD [1, 2] (by decide) rfl 1 7 rfl rfl rfl rfl hl.1 rfl (Nat.le_of_ble_eq_true rfl) d_X_appendTextEntry_56 ⟨Nat.le_of_ble_eq_true rfl, Nat.le_of_ble_eq_true rfl⟩) rfl rfl hP hD hS hA [1, 2] [0, 3, 4, 5, 6, 7] [0, 6, 7, 1, 2, 3, 4, 5] rfl rfl (by decide) (by decide) (by decide) (fun _ => rfl) ?_
    intro u9 H locs hw hP hD hS
    obtain ⟨I_p0_file_56, f_p0_file_bytes_56⟩ := u9
    try dsimp only at hw
    have hP : va_P (dC, dI) vwCl [oX a_p0 A_p0, oSt (A_p0 0) A_p0_file I_p0_file_56, gz cI (A_p0_file 0) 900 f_p0_file_bytes_56, oLb (A_p0 3) A_p0_labels I_p0_labels, gz cI (A_p0_labels 2) 24 f_p0_labels_characters, gz cI (A_p0_labels 1) 2 f_p0_labels_sizes, gz cI (A_p0_labels 0) 2 f_p0_labels_tags, gz cI (A_p0 13) 2 f_p0_writtenTexts] H := hP
    have hD : va_D A [oX a_p0 A_p0, oSt (A_p0 0) A_p0_file I_p0_file_56, gz cI (A_p0_file 0) 900 f_p0_file_bytes_56, oLb (A_p0 3) A_p0_labels I_p0_labels, gz cI (A_p0_labels 2) 24 f_p0_labels_characters, gz cI (A_p0_labels 1) 2 f_p0_labels_sizes, gz cI (A_p0_labels 0) 2 f_p0_labels_tags, gz cI (A_p0 13) 2 f_p0_writtenTexts] := hD
    refine lv_goto hx hb d_X_appendTextEntry_59 rfl ?_
    exact hret _ _ _ _ (I_p0_file_56, f_p0_file_bytes_56) d_X_appendTextEntry_75 hP hD hS hw
