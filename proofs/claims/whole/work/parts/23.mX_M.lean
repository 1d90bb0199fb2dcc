theorem d_X_write_0 : decode b_X_write 0 = .ok (.iload_n 1, 1) := by decide +kernel
theorem d_X_write_1 : decode b_X_write 1 = .ok (.i2l, 1) := by decide +kernel
theorem d_X_write_2 : decode b_X_write 2 = .ok (.invokestatic 147, 3) := by decide +kernel
theorem d_X_write_5 : decode b_X_write 5 = .ok (.ifCond .eq 11, 3) := by decide +kernel
theorem d_X_write_8 : decode b_X_write 8 = .ok (.iload_n 3, 1) := by decide +kernel
theorem d_X_write_9 : decode b_X_write 9 = .ok (.i2l, 1) := by decide +kernel
theorem d_X_write_10 : decode b_X_write 10 = .ok (.invokestatic 150, 3) := by decide +kernel
theorem d_X_write_13 : decode b_X_write 13 = .ok (.ifCond .ne 5, 3) := by decide +kernel
theorem d_X_write_16 : decode b_X_write 16 = .ok (.iconst (-1), 1) := by decide +kernel
theorem d_X_write_17 : decode b_X_write 17 = .ok (.ireturn, 1) := by decide +kernel
theorem d_X_write_18 : decode b_X_write 18 = .ok (.iload_n 2, 1) := by decide +kernel
theorem d_X_write_19 : decode b_X_write 19 = .ok (.iconst 1, 1) := by decide +kernel
theorem d_X_write_20 : decode b_X_write 20 = .ok (.if_icmp .lt 14, 3) := by decide +kernel
theorem d_X_write_23 : decode b_X_write 23 = .ok (.iload_n 2, 1) := by decide +kernel
theorem d_X_write_24 : decode b_X_write 24 = .ok (.aload_n 0, 1) := by decide +kernel
theorem d_X_write_25 : decode b_X_write 25 = .ok (.getfield 26, 3) := by decide +kernel
theorem d_X_write_28 : decode b_X_write 28 = .ok (.getfield 121, 3) := by decide +kernel
theorem d_X_write_31 : decode b_X_write 31 = .ok (.if_icmp .le 5, 3) := by decide +kernel
theorem d_X_write_34 : decode b_X_write 34 = .ok (.iconst (-1), 1) := by decide +kernel
theorem d_X_write_35 : decode b_X_write 35 = .ok (.ireturn, 1) := by decide +kernel
theorem d_X_write_36 : decode b_X_write 36 = .ok (.aload_n 0, 1) := by decide +kernel
theorem d_X_write_37 : decode b_X_write 37 = .ok (.getfield 19, 3) := by decide +kernel
theorem d_X_write_40 : decode b_X_write 40 = .ok (.aload_n 0, 1) := by decide +kernel
theorem d_X_write_41 : decode b_X_write 41 = .ok (.getfield 10, 3) := by decide +kernel
theorem d_X_write_44 : decode b_X_write 44 = .ok (.invokevirtual 153, 3) := by decide +kernel
theorem d_X_write_47 : decode b_X_write 47 = .ok (.aload_n 0, 1) := by decide +kernel
theorem d_X_write_48 : decode b_X_write 48 = .ok (.getfield 19, 3) := by decide +kernel
theorem d_X_write_51 : decode b_X_write 51 = .ok (.getfield 157, 3) := by decide +kernel
theorem d_X_write_54 : decode b_X_write 54 = .ok (.ifCond .ne 6, 3) := by decide +kernel
theorem d_X_write_57 : decode b_X_write 57 = .ok (.bipush (-2), 2) := by decide +kernel
theorem d_X_write_59 : decode b_X_write 59 = .ok (.ireturn, 1) := by decide +kernel
theorem d_X_write_60 : decode b_X_write 60 = .ok (.aload_n 0, 1) := by decide +kernel
theorem d_X_write_61 : decode b_X_write 61 = .ok (.getfield 19, 3) := by decide +kernel
theorem d_X_write_64 : decode b_X_write 64 = .ok (.getfield 161, 3) := by decide +kernel
theorem d_X_write_67 : decode b_X_write 67 = .ok (.bipush 8, 2) := by decide +kernel
theorem d_X_write_69 : decode b_X_write 69 = .ok (.if_icmp .ne 6, 3) := by decide +kernel
theorem d_X_write_72 : decode b_X_write 72 = .ok (.bipush (-3), 2) := by decide +kernel
theorem d_X_write_74 : decode b_X_write 74 = .ok (.ireturn, 1) := by decide +kernel
theorem d_X_write_75 : decode b_X_write 75 = .ok (.aload_n 0, 1) := by decide +kernel
theorem d_X_write_76 : decode b_X_write 76 = .ok (.getfield 40, 3) := by decide +kernel
theorem d_X_write_79 : decode b_X_write 79 = .ok (.aload_n 0, 1) := by decide +kernel
theorem d_X_write_80 : decode b_X_write 80 = .ok (.getfield 26, 3) := by decide +kernel
theorem d_X_write_83 : decode b_X_write 83 = .ok (.getfield 118, 3) := by decide +kernel
theorem d_X_write_86 : decode b_X_write 86 = .ok (.aload_n 0, 1) := by decide +kernel
theorem d_X_write_87 : decode b_X_write 87 = .ok (.getfield 26, 3) := by decide +kernel
theorem d_X_write_90 : decode b_X_write 90 = .ok (.getfield 121, 3) := by decide +kernel
theorem d_X_write_93 : decode b_X_write 93 = .ok (.aload_n 0, 1) := by decide +kernel
theorem d_X_write_94 : decode b_X_write 94 = .ok (.getfield 26, 3) := by decide +kernel
theorem d_X_write_97 : decode b_X_write 97 = .ok (.getfield 115, 3) := by decide +kernel
theorem d_X_write_100 : decode b_X_write 100 = .ok (.invokevirtual 164, 3) := by decide +kernel
theorem d_X_write_103 : decode b_X_write 103 = .ok (.aload_n 0, 1) := by decide +kernel
theorem d_X_write_104 : decode b_X_write 104 = .ok (.getfield 40, 3) := by decide +kernel
theorem d_X_write_107 : decode b_X_write 107 = .ok (.iload_n 1, 1) := by decide +kernel
theorem d_X_write_108 : decode b_X_write 108 = .ok (.iload_n 2, 1) := by decide +kernel
theorem d_X_write_109 : decode b_X_write 109 = .ok (.iload_n 3, 1) := by decide +kernel
theorem d_X_write_110 : decode b_X_write 110 = .ok (.invokevirtual 165, 3) := by decide +kernel
theorem d_X_write_113 : decode b_X_write 113 = .ok (.aload_n 0, 1) := by decide +kernel
theorem d_X_write_114 : decode b_X_write 114 = .ok (.getfield 10, 3) := by decide +kernel
theorem d_X_write_117 : decode b_X_write 117 = .ok (.invokevirtual 168, 3) := by decide +kernel
theorem d_X_write_120 : decode b_X_write 120 = .ok (.aload_n 0, 1) := by decide +kernel
theorem d_X_write_121 : decode b_X_write 121 = .ok (.invokevirtual 171, 3) := by decide +kernel
theorem d_X_write_124 : decode b_X_write 124 = .ok (.istore 4, 2) := by decide +kernel
theorem d_X_write_126 : decode b_X_write 126 = .ok (.aload_n 0, 1) := by decide +kernel
theorem d_X_write_127 : decode b_X_write 127 = .ok (.getfield 10, 3) := by decide +kernel
theorem d_X_write_130 : decode b_X_write 130 = .ok (.getfield 174, 3) := by decide +kernel
theorem d_X_write_133 : decode b_X_write 133 = .ok (.sipush 900, 3) := by decide +kernel
theorem d_X_write_136 : decode b_X_write 136 = .ok (.if_icmp .le 6, 3) := by decide +kernel
theorem d_X_write_139 : decode b_X_write 139 = .ok (.bipush (-3), 2) := by decide +kernel
theorem d_X_write_141 : decode b_X_write 141 = .ok (.ireturn, 1) := by decide +kernel
theorem d_X_write_142 : decode b_X_write 142 = .ok (.aload_n 0, 1) := by decide +kernel
theorem d_X_write_143 : decode b_X_write 143 = .ok (.getfield 10, 3) := by decide +kernel
theorem d_X_write_146 : decode b_X_write 146 = .ok (.aload_n 0, 1) := by decide +kernel
theorem d_X_write_147 : decode b_X_write 147 = .ok (.getfield 19, 3) := by decide +kernel
theorem d_X_write_150 : decode b_X_write 150 = .ok (.getfield 177, 3) := by decide +kernel
theorem d_X_write_153 : decode b_X_write 153 = .ok (.iload 4, 2) := by decide +kernel
theorem d_X_write_155 : decode b_X_write 155 = .ok (.invokevirtual 180, 3) := by decide +kernel
theorem d_X_write_158 : decode b_X_write 158 = .ok (.aload_n 0, 1) := by decide +kernel
theorem d_X_write_159 : decode b_X_write 159 = .ok (.getfield 10, 3) := by decide +kernel
theorem d_X_write_162 : decode b_X_write 162 = .ok (.invokevirtual 184, 3) := by decide +kernel
theorem d_X_write_165 : decode b_X_write 165 = .ok (.ireturn, 1) := by decide +kernel
def wp_X_write (post : Int32 → (Nat → Int32) → (Nat → Int32) → (Nat → Int32) → (Nat → Int32) → (Nat → Int32) → (Nat → Int32) → (Nat → Int32) → (Nat → Int32) → (Nat → Int32) → (Nat → Int32) → (Nat → Int32) → (Nat → Int32) → (Nat → Int32) → Prop) (I_p0_labels : Nat → Int32) (f_p0_labels_characters : Nat → Int32) (f_p0_labels_sizes : Nat → Int32) (f_p0_labels_tags : Nat → Int32) (I_p0_picture : Nat → Int32) (f_p0_picture_samples : Nat → Int32) (f_p0_data_bytes : Nat → Int32) (I_p0_encoder : Nat → Int32) (f_p0_encoder_firstChild : Nat → Int32) (f_p0_encoder_lastNibble : Nat → Int32) (f_p0_encoder_nextSibling : Nat → Int32) (I_p0_file : Nat → Int32) (f_p0_file_bytes : Nat → Int32) (I_p0_layout : Nat → Int32) (I_p0_walk : Nat → Int32) (f_p0_walk_places : Nat → Int32) (f_p0_writtenLengths : Nat → Int32) (f_p0_writtenPlaces : Nat → Int32) (f_p0_writtenTexts : Nat → Int32) (x1 : Int32) (x2 : Int32) (x3 : Int32) : Prop :=
  wp_X_isCompression (fun (r2 : Int32) =>
    ((r2 = 0 →
      post (-1) f_p0_data_bytes I_p0_encoder f_p0_encoder_firstChild f_p0_encoder_lastNibble f_p0_encoder_nextSibling I_p0_file f_p0_file_bytes I_p0_layout I_p0_walk f_p0_walk_places f_p0_writtenLengths f_p0_writtenPlaces f_p0_writtenTexts) ∧
     (¬ r2 = 0 →
      wp_X_isPredictor (fun (r10 : Int32) =>
        ((r10 = 0 →
          post (-1) f_p0_data_bytes I_p0_encoder f_p0_encoder_firstChild f_p0_encoder_lastNibble f_p0_encoder_nextSibling I_p0_file f_p0_file_bytes I_p0_layout I_p0_walk f_p0_walk_places f_p0_writtenLengths f_p0_writtenPlaces f_p0_writtenTexts) ∧
         (¬ r10 = 0 →
          ((x2 < 1 →
            post (-1) f_p0_data_bytes I_p0_encoder f_p0_encoder_firstChild f_p0_encoder_lastNibble f_p0_encoder_nextSibling I_p0_file f_p0_file_bytes I_p0_layout I_p0_walk f_p0_walk_places f_p0_writtenLengths f_p0_writtenPlaces f_p0_writtenTexts) ∧
           (¬ x2 < 1 →
            ((x2 ≤ (I_p0_picture 2) →
              wp_Wk_follow (fun (I_p0_walk_44 : Nat → Int32) (f_p0_walk_places_44 : Nat → Int32) =>
                (((I_p0_walk_44 2) = 0 →
                  post (-2) f_p0_data_bytes I_p0_encoder f_p0_encoder_firstChild f_p0_encoder_lastNibble f_p0_encoder_nextSibling I_p0_file f_p0_file_bytes I_p0_layout I_p0_walk_44 f_p0_walk_places_44 f_p0_writtenLengths f_p0_writtenPlaces f_p0_writtenTexts) ∧
                 (¬ (I_p0_walk_44 2) = 0 →
                  (((I_p0_walk_44 1) = 8 →
                    post (-3) f_p0_data_bytes I_p0_encoder f_p0_encoder_firstChild f_p0_encoder_lastNibble f_p0_encoder_nextSibling I_p0_file f_p0_file_bytes I_p0_layout I_p0_walk_44 f_p0_walk_places_44 f_p0_writtenLengths f_p0_writtenPlaces f_p0_writtenTexts) ∧
                   (¬ (I_p0_walk_44 1) = 8 →
                    wp_Ly_become (fun (I_p0_layout_100 : Nat → Int32) =>
                      wp_Ly_choose (fun (I_p0_layout_110 : Nat → Int32) =>
                        wp_St_startAppending (fun (I_p0_file_117 : Nat → Int32) =>
                          wp_X_appendPage (fun (r121 : Int32) (f_p0_data_bytes_121 : Nat → Int32) (I_p0_encoder_121 : Nat → Int32) (f_p0_encoder_firstChild_121 : Nat → Int32) (f_p0_encoder_lastNibble_121 : Nat → Int32) (f_p0_encoder_nextSibling_121 : Nat → Int32) (I_p0_file_121 : Nat → Int32) (f_p0_file_bytes_121 : Nat → Int32) (f_p0_writtenLengths_121 : Nat → Int32) (f_p0_writtenPlaces_121 : Nat → Int32) (f_p0_writtenTexts_121 : Nat → Int32) =>
                            (((I_p0_file_121 2) ≤ 900 →
                              wp_St_putLong (fun (f_p0_file_bytes_155 : Nat → Int32) =>
                                wp_St_keepAppended (fun (r162 : Int32) (I_p0_file_162 : Nat → Int32) =>
                                  post r162 f_p0_data_bytes_121 I_p0_encoder_121 f_p0_encoder_firstChild_121 f_p0_encoder_lastNibble_121 f_p0_encoder_nextSibling_121 I_p0_file_162 f_p0_file_bytes_155 I_p0_layout_110 I_p0_walk_44 f_p0_walk_places_44 f_p0_writtenLengths_121 f_p0_writtenPlaces_121 f_p0_writtenTexts_121) I_p0_file_121) I_p0_file_121 f_p0_file_bytes_121 (I_p0_walk_44 3) r121) ∧
                             (¬ (I_p0_file_121 2) ≤ 900 →
                              post (-3) f_p0_data_bytes_121 I_p0_encoder_121 f_p0_encoder_firstChild_121 f_p0_encoder_lastNibble_121 f_p0_encoder_nextSibling_121 I_p0_file_121 f_p0_file_bytes_121 I_p0_layout_110 I_p0_walk_44 f_p0_walk_places_44 f_p0_writtenLengths_121 f_p0_writtenPlaces_121 f_p0_writtenTexts_121))) I_p0_labels f_p0_labels_characters f_p0_labels_sizes f_p0_labels_tags I_p0_layout_110 I_p0_picture f_p0_picture_samples f_p0_data_bytes I_p0_encoder f_p0_encoder_firstChild f_p0_encoder_lastNibble f_p0_encoder_nextSibling I_p0_file_117 f_p0_file_bytes f_p0_writtenLengths f_p0_writtenPlaces f_p0_writtenTexts) I_p0_file) I_p0_layout_100 x1 x2 x3) I_p0_layout (I_p0_picture 1) (I_p0_picture 2) (I_p0_picture 3)))))) I_p0_file f_p0_file_bytes I_p0_walk f_p0_walk_places) ∧
             (¬ x2 ≤ (I_p0_picture 2) →
              post (-1) f_p0_data_bytes I_p0_encoder f_p0_encoder_firstChild f_p0_encoder_lastNibble f_p0_encoder_nextSibling I_p0_file f_p0_file_bytes I_p0_layout I_p0_walk f_p0_walk_places f_p0_writtenLengths f_p0_writtenPlaces f_p0_writtenTexts))))))) x3.toInt64))) x1.toInt64
set_option maxRecDepth 100000 in
set_option maxHeartbeats 4000000 in
theorem c_X_write (l : Launch) (dC : Nat → ClassId) (dI : Nat → Nat → Nat) (cI : ClassId) (a_p0 : Nat) (A_p0 : Nat → Nat) (A_p0_data : Nat → Nat) (A_p0_encoder : Nat → Nat) (A_p0_file : Nat → Nat) (A_p0_labels : Nat → Nat) (A_p0_picture : Nat → Nat) (A_p0_walk : Nat → Nat) (I_p0_labels : Nat → Int32) (f_p0_labels_characters : Nat → Int32) (f_p0_labels_sizes : Nat → Int32) (f_p0_labels_tags : Nat → Int32) (I_p0_picture : Nat → Int32) (f_p0_picture_samples : Nat → Int32) (f_p0_data_bytes : Nat → Int32) (I_p0_encoder : Nat → Int32) (f_p0_encoder_firstChild : Nat → Int32) (f_p0_encoder_lastNibble : Nat → Int32) (f_p0_encoder_nextSibling : Nat → Int32) (I_p0_file : Nat → Int32) (f_p0_file_bytes : Nat → Int32) (I_p0_layout : Nat → Int32) (I_p0_walk : Nat → Int32) (f_p0_walk_places : Nat → Int32) (f_p0_writtenLengths : Nat → Int32) (f_p0_writtenPlaces : Nat → Int32) (f_p0_writtenTexts : Nat → Int32) (x1 : Int32) (x2 : Int32) (x3 : Int32) {post : Int32 → (Nat → Int32) → (Nat → Int32) → (Nat → Int32) → (Nat → Int32) → (Nat → Int32) → (Nat → Int32) → (Nat → Int32) → (Nat → Int32) → (Nat → Int32) → (Nat → Int32) → (Nat → Int32) → (Nat → Int32) → (Nat → Int32) → Prop} (hw : wp_X_write post I_p0_labels f_p0_labels_characters f_p0_labels_sizes f_p0_labels_tags I_p0_picture f_p0_picture_samples f_p0_data_bytes I_p0_encoder f_p0_encoder_firstChild f_p0_encoder_lastNibble f_p0_encoder_nextSibling I_p0_file f_p0_file_bytes I_p0_layout I_p0_walk f_p0_walk_places f_p0_writtenLengths f_p0_writtenPlaces f_p0_writtenTexts x1 x2 x3) : gm_i l y_X_write ws_X_write ({ frames := 6, cells := 0, slots := 0, locals := 141 } : Room) (dC, dI) vwCl [(cI, .int)] [.ref a_p0, .int x1, .int x2, .int x3] [oX a_p0 A_p0, oDa (A_p0 5) A_p0_data, gz cI (A_p0_data 0) 256 f_p0_data_bytes, oNe (A_p0 6) A_p0_encoder I_p0_encoder, gz cI (A_p0_encoder 0) 127 f_p0_encoder_firstChild, gz cI (A_p0_encoder 2) 127 f_p0_encoder_lastNibble, gz cI (A_p0_encoder 1) 127 f_p0_encoder_nextSibling, oSt (A_p0 0) A_p0_file I_p0_file, gz cI (A_p0_file 0) 900 f_p0_file_bytes, oLb (A_p0 3) A_p0_labels I_p0_labels, gz cI (A_p0_labels 2) 24 f_p0_labels_characters, gz cI (A_p0_labels 1) 2 f_p0_labels_sizes, gz cI (A_p0_labels 0) 2 f_p0_labels_tags, oLy (A_p0 4) I_p0_layout, oPi (A_p0 2) A_p0_picture I_p0_picture, gz cI (A_p0_picture 0) 256 f_p0_picture_samples, oWk (A_p0 1) A_p0_walk I_p0_walk, gz cI (A_p0_walk 0) 8 f_p0_walk_places, gz cI (A_p0 12) 16 f_p0_writtenLengths, gz cI (A_p0 11) 16 f_p0_writtenPlaces, gz cI (A_p0 13) 2 f_p0_writtenTexts] (fun (u : (Nat → Int32) × (Nat → Int32) × (Nat → Int32) × (Nat → Int32) × (Nat → Int32) × (Nat → Int32) × (Nat → Int32) × (Nat → Int32) × (Nat → Int32) × (Nat → Int32) × (Nat → Int32) × (Nat → Int32) × (Nat → Int32)) => [oX a_p0 A_p0, oDa (A_p0 5) A_p0_data, gz cI (A_p0_data 0) 256 u.1, oNe (A_p0 6) A_p0_encoder u.2.1, gz cI (A_p0_encoder 0) 127 u.2.2.1, gz cI (A_p0_encoder 2) 127 u.2.2.2.1, gz cI (A_p0_encoder 1) 127 u.2.2.2.2.1, oSt (A_p0 0) A_p0_file u.2.2.2.2.2.1, gz cI (A_p0_file 0) 900 u.2.2.2.2.2.2.1, oLb (A_p0 3) A_p0_labels I_p0_labels, gz cI (A_p0_labels 2) 24 f_p0_labels_characters, gz cI (A_p0_labels 1) 2 f_p0_labels_sizes, gz cI (A_p0_labels 0) 2 f_p0_labels_tags, oLy (A_p0 4) u.2.2.2.2.2.2.2.1, oPi (A_p0 2) A_p0_picture I_p0_picture, gz cI (A_p0_picture 0) 256 f_p0_picture_samples, oWk (A_p0 1) A_p0_walk u.2.2.2.2.2.2.2.2.1, gz cI (A_p0_walk 0) 8 u.2.2.2.2.2.2.2.2.2.1, gz cI (A_p0 12) 16 u.2.2.2.2.2.2.2.2.2.2.1, gz cI (A_p0 11) 16 u.2.2.2.2.2.2.2.2.2.2.2.1, gz cI (A_p0 13) 2 u.2.2.2.2.2.2.2.2.2.2.2.2]) (fun (r : Int32) (u : (Nat → Int32) × (Nat → Int32) × (Nat → Int32) × (Nat → Int32) × (Nat → Int32) × (Nat → Int32) × (Nat → Int32) × (Nat → Int32) × (Nat → Int32) × (Nat → Int32) × (Nat → Int32) × (Nat → Int32) × (Nat → Int32)) => post r u.1 u.2.1 u.2.2.1 u.2.2.2.1 u.2.2.2.2.1 u.2.2.2.2.2.1 u.2.2.2.2.2.2.1 u.2.2.2.2.2.2.2.1 u.2.2.2.2.2.2.2.2.1 u.2.2.2.2.2.2.2.2.2.1 u.2.2.2.2.2.2.2.2.2.2.1 u.2.2.2.2.2.2.2.2.2.2.2.1 u.2.2.2.2.2.2.2.2.2.2.2.2) := by
  refine gm_iof (cc := b_X_write) (maxL := 5) (ty := .int) (by decide) rfl (Nat.le_of_ble_eq_true rfl) ?_
  intro p e s m args below meth c A Q hx hb hml hown hg hK hN hA hret
  have hown : s.vm.findClass R_X = some m.cls := hown
  intro ls hl hP hD hS
  have hl : lv_has ls 5 [(0, .ref a_p0), (1, .int x1), (2, .int x2), (3, .int x3)] := hl
  unfold wp_X_write at hw
  refine lv_iload_n hx hb d_X_write_0 rfl (lv_at hl 1 rfl) ?_
  refine lv_i2l hx hb d_X_write_1 rfl ?_
  refine gc_i (wn := fun (_ : Unit) => [oX a_p0 A_p0, oDa (A_p0 5) A_p0_data, gz cI (A_p0_data 0) 256 f_p0_data_bytes, oNe (A_p0 6) A_p0_encoder I_p0_encoder, gz cI (A_p0_encoder 0) 127 f_p0_encoder_firstChild, gz cI (A_p0_encoder 2) 127 f_p0_encoder_lastNibble, gz cI (A_p0_encoder 1) 127 f_p0_encoder_nextSibling, oSt (A_p0 0) A_p0_file I_p0_file, gz cI (A_p0_file 0) 900 f_p0_file_bytes, oLb (A_p0 3) A_p0_labels I_p0_labels, gz cI (A_p0_labels 2) 24 f_p0_labels_characters, gz cI (A_p0_labels 1) 2 f_p0_labels_sizes, gz cI (A_p0_labels 0) 2 f_p0_labels_tags, oLy (A_p0 4) I_p0_layout, oPi (A_p0 2) A_p0_picture I_p0_picture, gz cI (A_p0_picture 0) 256 f_p0_picture_samples, oWk (A_p0 1) A_p0_walk I_p0_walk, gz cI (A_p0_walk 0) 8 f_p0_walk_places, gz cI (A_p0 12) 16 f_p0_writtenLengths, gz cI (A_p0 11) 16 f_p0_writtenPlaces, gz cI (A_p0 13) 2 f_p0_writtenTexts]) (wr := [oX a_p0 A_p0, oDa (A_p0 5) A_p0_data, gz cI (A_p0_data 0) 256 f_p0_data_bytes, oNe (A_p0 6) A_p0_encoder I_p0_encoder, gz cI (A_p0_encoder 0) 127 f_p0_encoder_firstChild, gz cI (A_p0_encoder 2) 127 f_p0_encoder_lastNibble, gz cI (A_p0_encoder 1) 127 f_p0_encoder_nextSibling, oSt (A_p0 0) A_p0_file I_p0_file, gz cI (A_p0_file 0) 900 f_p0_file_bytes, oLb (A_p0 3) A_p0_labels I_p0_labels, gz cI (A_p0_labels 2) 24 f_p0_labels_characters, gz cI (A_p0_labels 1) 2 f_p0_labels_sizes, gz cI (A_p0_labels 0) 2 f_p0_labels_tags, oLy (A_p0 4) I_p0_layout, oPi (A_p0 2) A_p0_picture I_p0_picture, gz cI (A_p0_picture 0) 256 f_p0_picture_samples, oWk (A_p0 1) A_p0_walk I_p0_walk, gz cI (A_p0_walk 0) 8 f_p0_walk_places, gz cI (A_p0 12) 16 f_p0_writtenLengths, gz cI (A_p0 11) 16 f_p0_writtenPlaces, gz cI (A_p0 13) 2 f_p0_writtenTexts]) (gr_S (As := [.long x1.toInt64]) (rest := []) ⟨hx, hb, hml, hown, hg⟩ (c_X_isCompression l dC dI cI x1.toInt64 hw _) (va_cwS 1 hg (gg_S t_441 t_442 t_60 t_443) rfl rfl rfl (by decide +kernel) ⟨Nat.le_of_ble_eq_true rfl, Nat.le_of_ble_eq_true rfl⟩) hK hN hP hD [] (by decide) rfl rfl hl.1 rfl (Nat.le_of_ble_eq_true rfl) d_X_write_2 ⟨Nat.le_of_ble_eq_true rfl, Nat.le_of_ble_eq_true rfl⟩) rfl rfl hP hD hS hA [] [0, 1, 2, 3, 4, 5, 6, 7, 8, 9, 10, 11, 12, 13, 14, 15, 16, 17, 18, 19, 20] [0, 1, 2, 3, 4, 5, 6, 7, 8, 9, 10, 11, 12, 13, 14, 15, 16, 17, 18, 19, 20] rfl rfl (by decide) (by decide) (by decide) (fun _ => rfl) ?_
  intro r2 _ H locs hw hP hD hS
  try dsimp only at hw
  have hP : va_P (dC, dI) vwCl [oX a_p0 A_p0, oDa (A_p0 5) A_p0_data, gz cI (A_p0_data 0) 256 f_p0_data_bytes, oNe (A_p0 6) A_p0_encoder I_p0_encoder, gz cI (A_p0_encoder 0) 127 f_p0_encoder_firstChild, gz cI (A_p0_encoder 2) 127 f_p0_encoder_lastNibble, gz cI (A_p0_encoder 1) 127 f_p0_encoder_nextSibling, oSt (A_p0 0) A_p0_file I_p0_file, gz cI (A_p0_file 0) 900 f_p0_file_bytes, oLb (A_p0 3) A_p0_labels I_p0_labels, gz cI (A_p0_labels 2) 24 f_p0_labels_characters, gz cI (A_p0_labels 1) 2 f_p0_labels_sizes, gz cI (A_p0_labels 0) 2 f_p0_labels_tags, oLy (A_p0 4) I_p0_layout, oPi (A_p0 2) A_p0_picture I_p0_picture, gz cI (A_p0_picture 0) 256 f_p0_picture_samples, oWk (A_p0 1) A_p0_walk I_p0_walk, gz cI (A_p0_walk 0) 8 f_p0_walk_places, gz cI (A_p0 12) 16 f_p0_writtenLengths, gz cI (A_p0 11) 16 f_p0_writtenPlaces, gz cI (A_p0 13) 2 f_p0_writtenTexts] H := hP
  have hD : va_D A [oX a_p0 A_p0, oDa (A_p0 5) A_p0_data, gz cI (A_p0_data 0) 256 f_p0_data_bytes, oNe (A_p0 6) A_p0_encoder I_p0_encoder, gz cI (A_p0_encoder 0) 127 f_p0_encoder_firstChild, gz cI (A_p0_encoder 2) 127 f_p0_encoder_lastNibble, gz cI (A_p0_encoder 1) 127 f_p0_encoder_nextSibling, oSt (A_p0 0) A_p0_file I_p0_file, gz cI (A_p0_file 0) 900 f_p0_file_bytes, oLb (A_p0 3) A_p0_labels I_p0_labels, gz cI (A_p0_labels 2) 24 f_p0_labels_characters, gz cI (A_p0_labels 1) 2 f_p0_labels_sizes, gz cI (A_p0_labels 0) 2 f_p0_labels_tags, oLy (A_p0 4) I_p0_layout, oPi (A_p0 2) A_p0_picture I_p0_picture, gz cI (A_p0_picture 0) 256 f_p0_picture_samples, oWk (A_p0 1) A_p0_walk I_p0_walk, gz cI (A_p0_walk 0) 8 f_p0_walk_places, gz cI (A_p0 12) 16 f_p0_writtenLengths, gz cI (A_p0 11) 16 f_p0_writtenPlaces, gz cI (A_p0 13) 2 f_p0_writtenTexts] := hD
  refine lv_if_eq hx hb d_X_write_5 rfl (fun hc => ?_) (fun hc => ?_)
  · have hw := hw.1 hc
    refine lv_iconst (v := (-1)) hx hb d_X_write_16 (by decide) ?_
    exact hret _ _ _ _ _ (f_p0_data_bytes, I_p0_encoder, f_p0_encoder_firstChild, f_p0_encoder_lastNibble, f_p0_encoder_nextSibling, I_p0_file, f_p0_file_bytes, I_p0_layout, I_p0_walk, f_p0_walk_places, f_p0_writtenLengths, f_p0_writtenPlaces, f_p0_writtenTexts) d_X_write_17 rfl hP hD hS hw
  · have hw := hw.2 hc
    refine lv_iload_n hx hb d_X_write_8 rfl (lv_at hl 3 rfl) ?_
    refine lv_i2l hx hb d_X_write_9 rfl ?_
    refine gc_i (wn := fun (_ : Unit) => [oX a_p0 A_p0, oDa (A_p0 5) A_p0_data, gz cI (A_p0_data 0) 256 f_p0_data_bytes, oNe (A_p0 6) A_p0_encoder I_p0_encoder, gz cI (A_p0_encoder 0) 127 f_p0_encoder_firstChild, gz cI (A_p0_encoder 2) 127 f_p0_encoder_lastNibble, gz cI (A_p0_encoder 1) 127 f_p0_encoder_nextSibling, oSt (A_p0 0) A_p0_file I_p0_file, gz cI (A_p0_file 0) 900 f_p0_file_bytes, oLb (A_p0 3) A_p0_labels I_p0_labels, gz cI (A_p0_labels 2) 24 f_p0_labels_characters, gz cI (A_p0_labels 1) 2 f_p0_labels_sizes, gz cI (A_p0_labels 0) 2 f_p0_labels_tags, oLy (A_p0 4) I_p0_layout, oPi (A_p0 2) A_p0_picture I_p0_picture, gz cI (A_p0_picture 0) 256 f_p0_picture_samples, oWk (A_p0 1) A_p0_walk I_p0_walk, gz cI (A_p0_walk 0) 8 f_p0_walk_places, gz cI (A_p0 12) 16 f_p0_writtenLengths, gz cI (A_p0 11) 16 f_p0_writtenPlaces, gz cI (A_p0 13) 2 f_p0_writtenTexts]) (wr := [oX a_p0 A_p0, oDa (A_p0 5) A_p0_data, gz cI (A_p0_data 0) 256 f_p0_data_bytes, oNe (A_p0 6) A_p0_encoder I_p0_encoder, gz cI (A_p0_encoder 0) 127 f_p0_encoder_firstChild, gz cI (A_p0_encoder 2) 127 f_p0_encoder_lastNibble, gz cI (A_p0_encoder 1) 127 f_p0_encoder_nextSibling, oSt (A_p0 0) A_p0_file I_p0_file, gz cI (A_p0_file 0) 900 f_p0_file_bytes, oLb (A_p0 3) A_p0_labels I_p0_labels, gz cI (A_p0_labels 2) 24 f_p0_labels_characters, gz cI (A_p0_labels 1) 2 f_p0_labels_sizes, gz cI (A_p0_labels 0) 2 f_p0_labels_tags, oLy (A_p0 4) I_p0_layout, oPi (A_p0 2) A_p0_picture I_p0_picture, gz cI (A_p0_picture 0) 256 f_p0_picture_samples, oWk (A_p0 1) A_p0_walk I_p0_walk, gz cI (A_p0_walk 0) 8 f_p0_walk_places, gz cI (A_p0 12) 16 f_p0_writtenLengths, gz cI (A_p0 11) 16 f_p0_writtenPlaces, gz cI (A_p0 13) 2 f_p0_writtenTexts]) (gr_S (As := [.long x3.toInt64]) (rest := []) ⟨hx, hb, hml, hown, hg⟩ (c_X_isPredictor l dC dI cI x3.toInt64 hw _) (va_cwS 1 hg (gg_S t_446 t_447 t_60 t_448) rfl rfl rfl (by decide +kernel) ⟨Nat.le_of_ble_eq_true rfl, Nat.le_of_ble_eq_true rfl⟩) hK hN hP hD [] (by decide) rfl rfl hl.1 rfl (Nat.le_of_ble_eq_true rfl) d_X_write_10 ⟨Nat.le_of_ble_eq_true rfl, Nat.le_of_ble_eq_true rfl⟩) rfl rfl hP hD hS hA [] [0, 1, 2, 3, 4, 5, 6, 7, 8, 9, 10, 11, 12, 13, 14, 15, 16, 17, 18, 19, 20] [0, 1, 2, 3, 4, 5, 6, 7, 8, 9, 10, 11, 12, 13, 14, 15, 16, 17, 18, 19, 20] rfl rfl (by decide) (by decide) (by decide) (fun _ => rfl) ?_
    intro r10 _ H locs hw hP hD hS
    try dsimp only at hw
    have hP : va_P (dC, dI) vwCl [oX a_p0 A_p0, oDa (A_p0 5) A_p0_data, gz cI (A_p0_data 0) 256 f_p0_data_bytes, oNe (A_p0 6) A_p0_encoder I_p0_encoder, gz cI (A_p0_encoder 0) 127 f_p0_encoder_firstChild, gz cI (A_p0_encoder 2) 127 f_p0_encoder_lastNibble, gz cI (A_p0_encoder 1) 127 f_p0_encoder_nextSibling, oSt (A_p0 0) A_p0_file I_p0_file, gz cI (A_p0_file 0) 900 f_p0_file_bytes, oLb (A_p0 3) A_p0_labels I_p0_labels, gz cI (A_p0_labels 2) 24 f_p0_labels_characters, gz cI (A_p0_labels 1) 2 f_p0_labels_sizes, gz cI (A_p0_labels 0) 2 f_p0_labels_tags, oLy (A_p0 4) I_p0_layout, oPi (A_p0 2) A_p0_picture I_p0_picture, gz cI (A_p0_picture 0) 256 f_p0_picture_samples, oWk (A_p0 1) A_p0_walk I_p0_walk, gz cI (A_p0_walk 0) 8 f_p0_walk_places, gz cI (A_p0 12) 16 f_p0_writtenLengths, gz cI (A_p0 11) 16 f_p0_writtenPlaces, gz cI (A_p0 13) 2 f_p0_writtenTexts] H := hP
    have hD : va_D A [oX a_p0 A_p0, oDa (A_p0 5) A_p0_data, gz cI (A_p0_data 0) 256 f_p0_data_bytes, oNe (A_p0 6) A_p0_encoder I_p0_encoder, gz cI (A_p0_encoder 0) 127 f_p0_encoder_firstChild, gz cI (A_p0_encoder 2) 127 f_p0_encoder_lastNibble, gz cI (A_p0_encoder 1) 127 f_p0_encoder_nextSibling, oSt (A_p0 0) A_p0_file I_p0_file, gz cI (A_p0_file 0) 900 f_p0_file_bytes, oLb (A_p0 3) A_p0_labels I_p0_labels, gz cI (A_p0_labels 2) 24 f_p0_labels_characters, gz cI (A_p0_labels 1) 2 f_p0_labels_sizes, gz cI (A_p0_labels 0) 2 f_p0_labels_tags, oLy (A_p0 4) I_p0_layout, oPi (A_p0 2) A_p0_picture I_p0_picture, gz cI (A_p0_picture 0) 256 f_p0_picture_samples, oWk (A_p0 1) A_p0_walk I_p0_walk, gz cI (A_p0_walk 0) 8 f_p0_walk_places, gz cI (A_p0 12) 16 f_p0_writtenLengths, gz cI (A_p0 11) 16 f_p0_writtenPlaces, gz cI (A_p0 13) 2 f_p0_writtenTexts] := hD
    refine lv_if_ne hx hb d_X_write_13 rfl (fun hc => ?_) (fun hc => ?_)
    · have hw := hw.2 hc
      refine lv_iload_n hx hb d_X_write_18 rfl (lv_at hl 2 rfl) ?_
      refine lv_iconst (v := 1) hx hb d_X_write_19 (by decide) ?_
      refine lv_icmp_lt hx hb d_X_write_20 rfl (fun hc => ?_) (fun hc => ?_)
      · have hw := hw.1 hc
        refine lv_iconst (v := (-1)) hx hb d_X_write_34 (by decide) ?_
        exact hret _ _ _ _ _ (f_p0_data_bytes, I_p0_encoder, f_p0_encoder_firstChild, f_p0_encoder_lastNibble, f_p0_encoder_nextSibling, I_p0_file, f_p0_file_bytes, I_p0_layout, I_p0_walk, f_p0_walk_places, f_p0_writtenLengths, f_p0_writtenPlaces, f_p0_writtenTexts) d_X_write_35 rfl hP hD hS hw
      · have hw := hw.2 hc
        refine lv_iload_n hx hb d_X_write_23 rfl (lv_at hl 2 rfl) ?_
        refine lv_aload_n hx hb d_X_write_24 rfl (lv_at hl 0 rfl) ?_
        refine va_get (D := (dC, dI)) (ci := 9) (v := .ref (A_p0 2)) (C := R_X) (T := T_X) (N := 14) hx hb hg in_X hown hK hP 0 rfl rfl 2 (by decide) (hg _ t_309) (fun _ h9 => h9) rfl d_X_write_25 ?_
        refine va_get (D := (dC, dI)) (ci := 6) (v := .int (I_p0_picture 2)) (C := R_Pi) (T := T_Pi) (N := 4) hx hb hg in_Pi hown hK hP 14 rfl rfl 2 (by decide) (hg _ t_139) (fun _ h9 => h9) rfl d_X_write_28 ?_
        refine lv_icmp_le hx hb d_X_write_31 rfl (fun hc => ?_) (fun hc => ?_)
        · have hw := hw.1 hc
          refine lv_aload_n hx hb d_X_write_36 rfl (lv_at hl 0 rfl) ?_
          refine va_get (D := (dC, dI)) (ci := 9) (v := .ref (A_p0 1)) (C := R_X) (T := T_X) (N := 14) hx hb hg in_X hown hK hP 0 rfl rfl 1 (by decide) (hg _ t_308) (fun _ h9 => h9) rfl d_X_write_37 ?_
          refine lv_aload_n hx hb d_X_write_40 rfl (lv_at hl 0 rfl) ?_
          refine va_get (D := (dC, dI)) (ci := 9) (v := .ref (A_p0 0)) (C := R_X) (T := T_X) (N := 14) hx hb hg in_X hown hK hP 0 rfl rfl 0 (by decide) (hg _ t_307) (fun _ h9 => h9) rfl d_X_write_41 ?_
          refine gc_v (wn := fun u => [oX a_p0 A_p0, oDa (A_p0 5) A_p0_data, gz cI (A_p0_data 0) 256 f_p0_data_bytes, oNe (A_p0 6) A_p0_encoder I_p0_encoder, gz cI (A_p0_encoder 0) 127 f_p0_encoder_firstChild, gz cI (A_p0_encoder 2) 127 f_p0_encoder_lastNibble, gz cI (A_p0_encoder 1) 127 f_p0_encoder_nextSibling, oSt (A_p0 0) A_p0_file I_p0_file, gz cI (A_p0_file 0) 900 f_p0_file_bytes, oLb (A_p0 3) A_p0_labels I_p0_labels, gz cI (A_p0_labels 2) 24 f_p0_labels_characters, gz cI (A_p0_labels 1) 2 f_p0_labels_sizes, gz cI (A_p0_labels 0) 2 f_p0_labels_tags, oLy (A_p0 4) I_p0_layout, oPi (A_p0 2) A_p0_picture I_p0_picture, gz cI (A_p0_picture 0) 256 f_p0_picture_samples, oWk (A_p0 1) A_p0_walk u.1, gz cI (A_p0_walk 0) 8 u.2, gz cI (A_p0 12) 16 f_p0_writtenLengths, gz cI (A_p0 11) 16 f_p0_writtenPlaces, gz cI (A_p0 13) 2 f_p0_writtenTexts]) (wr := [oX a_p0 A_p0, oDa (A_p0 5) A_p0_data, gz cI (A_p0_data 0) 256 f_p0_data_bytes, oNe (A_p0 6) A_p0_encoder I_p0_encoder, gz cI (A_p0_encoder 0) 127 f_p0_encoder_firstChild, gz cI (A_p0_encoder 2) 127 f_p0_encoder_lastNibble, gz cI (A_p0_encoder 1) 127 f_p0_encoder_nextSibling, oLb (A_p0 3) A_p0_labels I_p0_labels, gz cI (A_p0_labels 2) 24 f_p0_labels_characters, gz cI (A_p0_labels 1) 2 f_p0_labels_sizes, gz cI (A_p0_labels 0) 2 f_p0_labels_tags, oLy (A_p0 4) I_p0_layout, oPi (A_p0 2) A_p0_picture I_p0_picture, gz cI (A_p0_picture 0) 256 f_p0_picture_samples, gz cI (A_p0 12) 16 f_p0_writtenLengths, gz cI (A_p0 11) 16 f_p0_writtenPlaces, gz cI (A_p0 13) 2 f_p0_writtenTexts]) (gr_V (As := [.ref (A_p0 0)]) (rest := []) ⟨hx, hb, hml, hown, hg⟩ (c_Wk_follow l dC dI cI (A_p0 1) (A_p0 0) A_p0_walk A_p0_file I_p0_file f_p0_file_bytes I_p0_walk f_p0_walk_places hw _) (cwV 1 hg (gg_V t_449 t_450 t_451 t_62 t_452) rfl rfl rfl (by decide +kernel) ⟨Nat.le_of_ble_eq_true rfl, Nat.le_of_ble_eq_true rfl⟩) hK hN hP hD [16, 17, 7, 8] (by decide) rfl 16 8 rfl rfl rfl rfl hl.1 rfl (Nat.le_of_ble_eq_true rfl) d_X_write_44 ⟨Nat.le_of_ble_eq_true rfl, Nat.le_of_ble_eq_true rfl⟩) rfl rfl hP hD hS hA [16, 17, 7, 8] [0, 1, 2, 3, 4, 5, 6, 9, 10, 11, 12, 13, 14, 15, 18, 19, 20] [0, 1, 2, 3, 4, 5, 6, 19, 20, 7, 8, 9, 10, 11, 12, 13, 17, 18, 14, 15, 16] rfl rfl (by decide) (by decide) (by decide) (fun _ => rfl) ?_
          intro u9 H locs hw hP hD hS
          obtain ⟨I_p0_walk_44, f_p0_walk_places_44⟩ := u9
          try dsimp only at hw
          have hP : va_P (dC, dI) vwCl [oX a_p0 A_p0, oDa (A_p0 5) A_p0_data, gz cI (A_p0_data 0) 256 f_p0_data_bytes, oNe (A_p0 6) A_p0_encoder I_p0_encoder, gz cI (A_p0_encoder 0) 127 f_p0_encoder_firstChild, gz cI (A_p0_encoder 2) 127 f_p0_encoder_lastNibble, gz cI (A_p0_encoder 1) 127 f_p0_encoder_nextSibling, oSt (A_p0 0) A_p0_file I_p0_file, gz cI (A_p0_file 0) 900 f_p0_file_bytes, oLb (A_p0 3) A_p0_labels I_p0_labels, gz cI (A_p0_labels 2) 24 f_p0_labels_characters, gz cI (A_p0_labels 1) 2 f_p0_labels_sizes, gz cI (A_p0_labels 0) 2 f_p0_labels_tags, oLy (A_p0 4) I_p0_layout, oPi (A_p0 2) A_p0_picture I_p0_picture, gz cI (A_p0_picture 0) 256 f_p0_picture_samples, oWk (A_p0 1) A_p0_walk I_p0_walk_44, gz cI (A_p0_walk 0) 8 f_p0_walk_places_44, gz cI (A_p0 12) 16 f_p0_writtenLengths, gz cI (A_p0 11) 16 f_p0_writtenPlaces, gz cI (A_p0 13) 2 f_p0_writtenTexts] H := hP
          have hD : va_D A [oX a_p0 A_p0, oDa (A_p0 5) A_p0_data, gz cI (A_p0_data 0) 256 f_p0_data_bytes, oNe (A_p0 6) A_p0_encoder I_p0_encoder, gz cI (A_p0_encoder 0) 127 f_p0_encoder_firstChild, gz cI (A_p0_encoder 2) 127 f_p0_encoder_lastNibble, gz cI (A_p0_encoder 1) 127 f_p0_encoder_nextSibling, oSt (A_p0 0) A_p0_file I_p0_file, gz cI (A_p0_file 0) 900 f_p0_file_bytes, oLb (A_p0 3) A_p0_labels I_p0_labels, gz cI (A_p0_labels 2) 24 f_p0_labels_characters, gz cI (A_p0_labels 1) 2 f_p0_labels_sizes, gz cI (A_p0_labels 0) 2 f_p0_labels_tags, oLy (A_p0 4) I_p0_layout, oPi (A_p0 2) A_p0_picture I_p0_picture, gz cI (A_p0_picture 0) 256 f_p0_picture_samples, oWk (A_p0 1) A_p0_walk I_p0_walk_44, gz cI (A_p0_walk 0) 8 f_p0_walk_places_44, gz cI (A_p0 12) 16 f_p0_writtenLengths, gz cI (A_p0 11) 16 f_p0_writtenPlaces, gz cI (A_p0 13) 2 f_p0_writtenTexts] := hD
          refine lv_aload_n hx hb d_X_write_47 rfl (lv_at hl 0 rfl) ?_
          refine va_get (D := (dC, dI)) (ci := 9) (v := .ref (A_p0 1)) (C := R_X) (T := T_X) (N := 14) hx hb hg in_X hown hK hP 0 rfl rfl 1 (by decide) (hg _ t_308) (fun _ h9 => h9) rfl d_X_write_48 ?_
          refine va_get (D := (dC, dI)) (ci := 8) (v := .int (I_p0_walk_44 2)) (C := R_Wk) (T := T_Wk) (N := 4) hx hb hg in_Wk hown hK hP 16 rfl rfl 2 (by decide) (hg _ t_117) (fun _ h9 => h9) rfl d_X_write_51 ?_
          refine lv_if_ne hx hb d_X_write_54 rfl (fun hc => ?_) (fun hc => ?_)
          · have hw := hw.2 hc
            refine lv_aload_n hx hb d_X_write_60 rfl (lv_at hl 0 rfl) ?_
            refine va_get (D := (dC, dI)) (ci := 9) (v := .ref (A_p0 1)) (C := R_X) (T := T_X) (N := 14) hx hb hg in_X hown hK hP 0 rfl rfl 1 (by decide) (hg _ t_308) (fun _ h9 => h9) rfl d_X_write_61 ?_
            refine va_get (D := (dC, dI)) (ci := 8) (v := .int (I_p0_walk_44 1)) (C := R_Wk) (T := T_Wk) (N := 4) hx hb hg in_Wk hown hK hP 16 rfl rfl 1 (by decide) (hg _ t_115) (fun _ h9 => h9) rfl d_X_write_64 ?_
            refine lv_bipush (v := 8) hx hb d_X_write_67 (by decide) ?_
            refine lv_icmp_ne hx hb d_X_write_69 rfl (fun hc => ?_) (fun hc => ?_)
            · have hw := hw.2 hc
              refine lv_aload_n hx hb d_X_write_75 rfl (lv_at hl 0 rfl) ?_
              refine va_get (D := (dC, dI)) (ci := 9) (v := .ref (A_p0 4)) (C := R_X) (T := T_X) (N := 14) hx hb hg in_X hown hK hP 0 rfl rfl 4 (by decide) (hg _ t_311) (fun _ h9 => h9) rfl d_X_write_76 ?_
              refine lv_aload_n hx hb d_X_write_79 rfl (lv_at hl 0 rfl) ?_
              refine va_get (D := (dC, dI)) (ci := 9) (v := .ref (A_p0 2)) (C := R_X) (T := T_X) (N := 14) hx hb hg in_X hown hK hP 0 rfl rfl 2 (by decide) (hg _ t_309) (fun _ h9 => h9) rfl d_X_write_80 ?_
              refine va_get (D := (dC, dI)) (ci := 6) (v := .int (I_p0_picture 1)) (C := R_Pi) (T := T_Pi) (N := 4) hx hb hg in_Pi hown hK hP 14 rfl rfl 1 (by decide) (hg _ t_137) (fun _ h9 => h9) rfl d_X_write_83 ?_
              refine lv_aload_n hx hb d_X_write_86 rfl (lv_at hl 0 rfl) ?_
              refine va_get (D := (dC, dI)) (ci := 9) (v := .ref (A_p0 2)) (C := R_X) (T := T_X) (N := 14) hx hb hg in_X hown hK hP 0 rfl rfl 2 (by decide) (hg _ t_309) (fun _ h9 => h9) rfl d_X_write_87 ?_
              refine va_get (D := (dC, dI)) (ci := 6) (v := .int (I_p0_picture 2)) (C := R_Pi) (T := T_Pi) (N := 4) hx hb hg in_Pi hown hK hP 14 rfl rfl 2 (by decide) (hg _ t_139) (fun _ h9 => h9) rfl d_X_write_90 ?_
              refine lv_aload_n hx hb d_X_write_93 rfl (lv_at hl 0 rfl) ?_
              refine va_get (D := (dC, dI)) (ci := 9) (v := .ref (A_p0 2)) (C := R_X) (T := T_X) (N := 14) hx hb hg in_X hown hK hP 0 rfl rfl 2 (by decide) (hg _ t_309) (fun _ h9 => h9) rfl d_X_write_94 ?_
              refine va_get (D := (dC, dI)) (ci := 6) (v := .int (I_p0_picture 3)) (C := R_Pi) (T := T_Pi) (N := 4) hx hb hg in_Pi hown hK hP 14 rfl rfl 3 (by decide) (hg _ t_141) (fun _ h9 => h9) rfl d_X_write_97 ?_
              refine gc_v (wn := fun u => [oX a_p0 A_p0, oDa (A_p0 5) A_p0_data, gz cI (A_p0_data 0) 256 f_p0_data_bytes, oNe (A_p0 6) A_p0_encoder I_p0_encoder, gz cI (A_p0_encoder 0) 127 f_p0_encoder_firstChild, gz cI (A_p0_encoder 2) 127 f_p0_encoder_lastNibble, gz cI (A_p0_encoder 1) 127 f_p0_encoder_nextSibling, oSt (A_p0 0) A_p0_file I_p0_file, gz cI (A_p0_file 0) 900 f_p0_file_bytes, oLb (A_p0 3) A_p0_labels I_p0_labels, gz cI (A_p0_labels 2) 24 f_p0_labels_characters, gz cI (A_p0_labels 1) 2 f_p0_labels_sizes, gz cI (A_p0_labels 0) 2 f_p0_labels_tags, oLy (A_p0 4) u, oPi (A_p0 2) A_p0_picture I_p0_picture, gz cI (A_p0_picture 0) 256 f_p0_picture_samples, oWk (A_p0 1) A_p0_walk I_p0_walk_44, gz cI (A_p0_walk 0) 8 f_p0_walk_places_44, gz cI (A_p0 12) 16 f_p0_writtenLengths, gz cI (A_p0 11) 16 f_p0_writtenPlaces, gz cI (A_p0 13) 2 f_p0_writtenTexts]) (wr := [oX a_p0 A_p0, oDa (A_p0 5) A_p0_data, gz cI (A_p0_data 0) 256 f_p0_data_bytes, oNe (A_p0 6) A_p0_encoder I_p0_encoder, gz cI (A_p0_encoder 0) 127 f_p0_encoder_firstChild, gz cI (A_p0_encoder 2) 127 f_p0_encoder_lastNibble, gz cI (A_p0_encoder 1) 127 f_p0_encoder_nextSibling, oSt (A_p0 0) A_p0_file I_p0_file, gz cI (A_p0_file 0) 900 f_p0_file_bytes, oLb (A_p0 3) A_p0_labels I_p0_labels, gz cI (A_p0_labels 2) 24 f_p0_labels_characters, gz cI (A_p0_labels 1) 2 f_p0_labels_sizes, gz cI (A_p0_labels 0) 2 f_p0_labels_tags, oPi (A_p0 2) A_p0_picture I_p0_picture, gz cI (A_p0_picture 0) 256 f_p0_picture_samples, oWk (A_p0 1) A_p0_walk I_p0_walk_44, gz cI (A_p0_walk 0) 8 f_p0_walk_places_44, gz cI (A_p0 12) 16 f_p0_writtenLengths, gz cI (A_p0 11) 16 f_p0_writtenPlaces, gz cI (A_p0 13) 2 f_p0_writtenTexts]) (gr_V (As := [.int (I_p0_picture 1), .int (I_p0_picture 2), .int (I_p0_picture 3)]) (rest := []) ⟨hx, hb, hml, hown, hg⟩ (c_Ly_become l dC dI cI (A_p0 4) I_p0_layout (I_p0_picture 1) (I_p0_picture 2) (I_p0_picture 3) hw _) (cwV 3 hg (gg_V t_477 t_478 t_479 t_65 t_480) rfl rfl rfl (by decide +kernel) ⟨Nat.le_of_ble_eq_true rfl, Nat.le_of_ble_eq_true rfl⟩) hK hN hP hD [13] (by decide) rfl 13 3 rfl rfl rfl rfl hl.1 rfl (Nat.le_of_ble_eq_true rfl) d_X_write_100 ⟨Nat.le_of_ble_eq_true rfl, Nat.le_of_ble_eq_true rfl⟩) rfl rfl hP hD hS hA [13] [0, 1, 2, 3, 4, 5, 6, 7, 8, 9, 10, 11, 12, 14, 15, 16, 17, 18, 19, 20] [0, 1, 2, 3, 4, 5, 6, 7, 8, 9, 10, 11, 12, 20, 13, 14, 15, 16, 17, 18, 19] rfl rfl (by decide) (by decide) (by decide) (fun _ => rfl) ?_
              intro I_p0_layout_100 H locs hw hP hD hS
              try dsimp only at hw
              have hP : va_P (dC, dI) vwCl [oX a_p0 A_p0, oDa (A_p0 5) A_p0_data, gz cI (A_p0_data 0) 256 f_p0_data_bytes, oNe (A_p0 6) A_p0_encoder I_p0_encoder, gz cI (A_p0_encoder 0) 127 f_p0_encoder_firstChild, gz cI (A_p0_encoder 2) 127 f_p0_encoder_lastNibble, gz cI (A_p0_encoder 1) 127 f_p0_encoder_nextSibling, oSt (A_p0 0) A_p0_file I_p0_file, gz cI (A_p0_file 0) 900 f_p0_file_bytes, oLb (A_p0 3) A_p0_labels I_p0_labels, gz cI (A_p0_labels 2) 24 f_p0_labels_characters, gz cI (A_p0_labels 1) 2 f_p0_labels_sizes, gz cI (A_p0_labels 0) 2 f_p0_labels_tags, oLy (A_p0 4) I_p0_layout_100, oPi (A_p0 2) A_p0_picture I_p0_picture, gz cI (A_p0_picture 0) 256 f_p0_picture_samples, oWk (A_p0 1) A_p0_walk I_p0_walk_44, gz cI (A_p0_walk 0) 8 f_p0_walk_places_44, gz cI (A_p0 12) 16 f_p0_writtenLengths, gz cI (A_p0 11) 16 f_p0_writtenPlaces, gz cI (A_p0 13) 2 f_p0_writtenTexts] H := hP
              have hD : va_D A [oX a_p0 A_p0, oDa (A_p0 5) A_p0_data, gz cI (A_p0_data 0) 256 f_p0_data_bytes, oNe (A_p0 6) A_p0_encoder I_p0_encoder, gz cI (A_p0_encoder 0) 127 f_p0_encoder_firstChild, gz cI (A_p0_encoder 2) 127 f_p0_encoder_lastNibble, gz cI (A_p0_encoder 1) 127 f_p0_encoder_nextSibling, oSt (A_p0 0) A_p0_file I_p0_file, gz cI (A_p0_file 0) 900 f_p0_file_bytes, oLb (A_p0 3) A_p0_labels I_p0_labels, gz cI (A_p0_labels 2) 24 f_p0_labels_characters, gz cI (A_p0_labels 1) 2 f_p0_labels_sizes, gz cI (A_p0_labels 0) 2 f_p0_labels_tags, oLy (A_p0 4) I_p0_layout_100, oPi (A_p0 2) A_p0_picture I_p0_picture, gz cI (A_p0_picture 0) 256 f_p0_picture_samples, oWk (A_p0 1) A_p0_walk I_p0_walk_44, gz cI (A_p0_walk 0) 8 f_p0_walk_places_44, gz cI (A_p0 12) 16 f_p0_writtenLengths, gz cI (A_p0 11) 16 f_p0_writtenPlaces, gz cI (A_p0 13) 2 f_p0_writtenTexts] := hD
              refine lv_aload_n hx hb d_X_write_103 rfl (lv_at hl 0 rfl) ?_
              refine va_get (D := (dC, dI)) (ci := 9) (v := .ref (A_p0 4)) (C := R_X) (T := T_X) (N := 14) hx hb hg in_X hown hK hP 0 rfl rfl 4 (by decide) (hg _ t_311) (fun _ h9 => h9) rfl d_X_write_104 ?_
              refine lv_iload_n hx hb d_X_write_107 rfl (lv_at hl 1 rfl) ?_
              refine lv_iload_n hx hb d_X_write_108 rfl (lv_at hl 2 rfl) ?_
              refine lv_iload_n hx hb d_X_write_109 rfl (lv_at hl 3 rfl) ?_
              refine gc_v (wn := fun u => [oX a_p0 A_p0, oDa (A_p0 5) A_p0_data, gz cI (A_p0_data 0) 256 f_p0_data_bytes, oNe (A_p0 6) A_p0_encoder I_p0_encoder, gz cI (A_p0_encoder 0) 127 f_p0_encoder_firstChild, gz cI (A_p0_encoder 2) 127 f_p0_encoder_lastNibble, gz cI (A_p0_encoder 1) 127 f_p0_encoder_nextSibling, oSt (A_p0 0) A_p0_file I_p0_file, gz cI (A_p0_file 0) 900 f_p0_file_bytes, oLb (A_p0 3) A_p0_labels I_p0_labels, gz cI (A_p0_labels 2) 24 f_p0_labels_characters, gz cI (A_p0_labels 1) 2 f_p0_labels_sizes, gz cI (A_p0_labels 0) 2 f_p0_labels_tags, oLy (A_p0 4) u, oPi (A_p0 2) A_p0_picture I_p0_picture, gz cI (A_p0_picture 0) 256 f_p0_picture_samples, oWk (A_p0 1) A_p0_walk I_p0_walk_44, gz cI (A_p0_walk 0) 8 f_p0_walk_places_44, gz cI (A_p0 12) 16 f_p0_writtenLengths, gz cI (A_p0 11) 16 f_p0_writtenPlaces, gz cI (A_p0 13) 2 f_p0_writtenTexts]) (wr := [oX a_p0 A_p0, oDa (A_p0 5) A_p0_data, gz cI (A_p0_data 0) 256 f_p0_data_bytes, oNe (A_p0 6) A_p0_encoder I_p0_encoder, gz cI (A_p0_encoder 0) 127 f_p0_encoder_firstChild, gz cI (A_p0_encoder 2) 127 f_p0_encoder_lastNibble, gz cI (A_p0_encoder 1) 127 f_p0_encoder_nextSibling, oSt (A_p0 0) A_p0_file I_p0_file, gz cI (A_p0_file 0) 900 f_p0_file_bytes, oLb (A_p0 3) A_p0_labels I_p0_labels, gz cI (A_p0_labels 2) 24 f_p0_labels_characters, gz cI (A_p0_labels 1) 2 f_p0_labels_sizes, gz cI (A_p0_labels 0) 2 f_p0_labels_tags, oPi (A_p0 2) A_p0_picture I_p0_picture, gz cI (A_p0_picture 0) 256 f_p0_picture_samples, oWk (A_p0 1) A_p0_walk I_p0_walk_44, gz cI (A_p0_walk 0) 8 f_p0_walk_places_44, gz cI (A_p0 12) 16 f_p0_writtenLengths, gz cI (A_p0 11) 16 f_p0_writtenPlaces, gz cI (A_p0 13) 2 f_p0_writtenTexts]) (gr_V (As := [.int x1, .int x2, .int x3]) (rest := []) ⟨hx, hb, hml, hown, hg⟩ (c_Ly_choose l dC dI cI (A_p0 4) I_p0_layout_100 x1 x2 x3 hw _) (cwV 3 hg (gg_V t_481 t_482 t_483 t_65 t_484) rfl rfl rfl (by decide +kernel) ⟨Nat.le_of_ble_eq_true rfl, Nat.le_of_ble_eq_true rfl⟩) hK hN hP hD [13] (by decide) rfl 13 3 rfl rfl rfl rfl hl.1 rfl (Nat.le_of_ble_eq_true rfl) d_X_write_110 ⟨Nat.le_of_ble_eq_true rfl, Nat.le_of_ble_eq_true rfl⟩) rfl rfl hP hD hS hA [13] [0, 1, 2, 3, 4, 5, 6, 7, 8, 9, 10, 11, 12, 14, 15, 16, 17, 18, 19, 20] [0, 1, 2, 3, 4, 5, 6, 7, 8, 9, 10, 11, 12, 20, 13, 14, 15, 16, 17, 18, 19] rfl rfl (by decide) (by decide) (by decide) (fun _ => rfl) ?_
              intro I_p0_layout_110 H locs hw hP hD hS
              try dsimp only at hw
              have hP : va_P (dC, dI) vwCl [oX a_p0 A_p0, oDa (A_p0 5) A_p0_data, gz cI (A_p0_data 0) 256 f_p0_data_bytes, oNe (A_p0 6) A_p0_encoder I_p0_encoder, gz cI (A_p0_encoder 0) 127 f_p0_encoder_firstChild, gz cI (A_p0_encoder 2) 127 f_p0_encoder_lastNibble, gz cI (A_p0_encoder 1) 127 f_p0_encoder_nextSibling, oSt (A_p0 0) A_p0_file I_p0_file, gz cI (A_p0_file 0) 900 f_p0_file_bytes, oLb (A_p0 3) A_p0_labels I_p0_labels, gz cI (A_p0_labels 2) 24 f_p0_labels_characters, gz cI (A_p0_labels 1) 2 f_p0_labels_sizes, gz cI (A_p0_labels 0) 2 f_p0_labels_tags, oLy (A_p0 4) I_p0_layout_110, oPi (A_p0 2) A_p0_picture I_p0_picture, gz cI (A_p0_picture 0) 256 f_p0_picture_samples, oWk (A_p0 1) A_p0_walk I_p0_walk_44, gz cI (A_p0_walk 0) 8 f_p0_walk_places_44, gz cI (A_p0 12) 16 f_p0_writtenLengths, gz cI (A_p0 11) 16 f_p0_writtenPlaces, gz cI (A_p0 13) 2 f_p0_writtenTexts] H := hP
              have hD : va_D A [oX a_p0 A_p0, oDa (A_p0 5) A_p0_data, gz cI (A_p0_data 0) 256 f_p0_data_bytes, oNe (A_p0 6) A_p0_encoder I_p0_encoder, gz cI (A_p0_encoder 0) 127 f_p0_encoder_firstChild, gz cI (A_p0_encoder 2) 127 f_p0_encoder_lastNibble, gz cI (A_p0_encoder 1) 127 f_p0_encoder_nextSibling, oSt (A_p0 0) A_p0_file I_p0_file, gz cI (A_p0_file 0) 900 f_p0_file_bytes, oLb (A_p0 3) A_p0_labels I_p0_labels, gz cI (A_p0_labels 2) 24 f_p0_labels_characters, gz cI (A_p0_labels 1) 2 f_p0_labels_sizes, gz cI (A_p0_labels 0) 2 f_p0_labels_tags, oLy (A_p0 4) I_p0_layout_110, oPi (A_p0 2) A_p0_picture I_p0_picture, gz cI (A_p0_picture 0) 256 f_p0_picture_samples, oWk (A_p0 1) A_p0_walk I_p0_walk_44, gz cI (A_p0_walk 0) 8 f_p0_walk_places_44, gz cI (A_p0 12) 16 f_p0_writtenLengths, gz cI (A_p0 11) 16 f_p0_writtenPlaces, gz cI (A_p0 13) 2 f_p0_writtenTexts] := hD
              refine lv_aload_n hx hb d_X_write_113 rfl (lv_at hl 0 rfl) ?_
              refine va_get (D := (dC, dI)) (ci := 9) (v := .ref (A_p0 0)) (C := R_X) (T := T_X) (N := 14) hx hb hg in_X hown hK hP 0 rfl rfl 0 (by decide) (hg _ t_307) (fun _ h9 => h9) rfl d_X_write_114 ?_
              refine gc_v (wn := fun u => [oX a_p0 A_p0, oDa (A_p0 5) A_p0_data, gz cI (A_p0_data 0) 256 f_p0_data_bytes, oNe (A_p0 6) A_p0_encoder I_p0_encoder, gz cI (A_p0_encoder 0) 127 f_p0_encoder_firstChild, gz cI (A_p0_encoder 2) 127 f_p0_encoder_lastNibble, gz cI (A_p0_encoder 1) 127 f_p0_encoder_nextSibling, oSt (A_p0 0) A_p0_file u, gz cI (A_p0_file 0) 900 f_p0_file_bytes, oLb (A_p0 3) A_p0_labels I_p0_labels, gz cI (A_p0_labels 2) 24 f_p0_labels_characters, gz cI (A_p0_labels 1) 2 f_p0_labels_sizes, gz cI (A_p0_labels 0) 2 f_p0_labels_tags, oLy (A_p0 4) I_p0_layout_110, oPi (A_p0 2) A_p0_picture I_p0_picture, gz cI (A_p0_picture 0) 256 f_p0_picture_samples, oWk (A_p0 1) A_p0_walk I_p0_walk_44, gz cI (A_p0_walk 0) 8 f_p0_walk_places_44, gz cI (A_p0 12) 16 f_p0_writtenLengths, gz cI (A_p0 11) 16 f_p0_writtenPlaces, gz cI (A_p0 13) 2 f_p0_writtenTexts]) (wr := [oX a_p0 A_p0, oDa (A_p0 5) A_p0_data, gz cI (A_p0_data 0) 256 f_p0_data_bytes, oNe (A_p0 6) A_p0_encoder I_p0_encoder, gz cI (A_p0_encoder 0) 127 f_p0_encoder_firstChild, gz cI (A_p0_encoder 2) 127 f_p0_encoder_lastNibble, gz cI (A_p0_encoder 1) 127 f_p0_encoder_nextSibling, gz cI (A_p0_file 0) 900 f_p0_file_bytes, oLb (A_p0 3) A_p0_labels I_p0_labels, gz cI (A_p0_labels 2) 24 f_p0_labels_characters, gz cI (A_p0_labels 1) 2 f_p0_labels_sizes, gz cI (A_p0_labels 0) 2 f_p0_labels_tags, oLy (A_p0 4) I_p0_layout_110, oPi (A_p0 2) A_p0_picture I_p0_picture, gz cI (A_p0_picture 0) 256 f_p0_picture_samples, oWk (A_p0 1) A_p0_walk I_p0_walk_44, gz cI (A_p0_walk 0) 8 f_p0_walk_places_44, gz cI (A_p0 12) 16 f_p0_writtenLengths, gz cI (A_p0 11) 16 f_p0_writtenPlaces, gz cI (A_p0 13) 2 f_p0_writtenTexts]) (gr_V (As := []) (rest := []) ⟨hx, hb, hml, hown, hg⟩ (c_St_startAppending l dC dI cI (A_p0 0) A_p0_file I_p0_file hw _) (cwV 0 hg (gg_V t_488 t_489 t_490 t_61 t_491) rfl rfl rfl (by decide +kernel) ⟨Nat.le_of_ble_eq_true rfl, Nat.le_of_ble_eq_true rfl⟩) hK hN hP hD [7] (by decide) rfl 7 7 rfl rfl rfl rfl hl.1 rfl (Nat.le_of_ble_eq_true rfl) d_X_write_117 ⟨Nat.le_of_ble_eq_true rfl, Nat.le_of_ble_eq_true rfl⟩) rfl rfl hP hD hS hA [7] [0, 1, 2, 3, 4, 5, 6, 8, 9, 10, 11, 12, 13, 14, 15, 16, 17, 18, 19, 20] [0, 1, 2, 3, 4, 5, 6, 20, 7, 8, 9, 10, 11, 12, 13, 14, 15, 16, 17, 18, 19] rfl rfl (by decide) (by decide) (by decide) (fun _ => rfl) ?_
              intro I_p0_file_117 H locs hw hP hD hS
              try dsimp only at hw
              have hP : va_P (dC, dI) vwCl [oX a_p0 A_p0, oDa (A_p0 5) A_p0_data, gz cI (A_p0_data 0) 256 f_p0_data_bytes, oNe (A_p0 6) A_p0_encoder I_p0_encoder, gz cI (A_p0_encoder 0) 127 f_p0_encoder_firstChild, gz cI (A_p0_encoder 2) 127 f_p0_encoder_lastNibble, gz cI (A_p0_encoder 1) 127 f_p0_encoder_nextSibling, oSt (A_p0 0) A_p0_file I_p0_file_117, gz cI (A_p0_file 0) 900 f_p0_file_bytes, oLb (A_p0 3) A_p0_labels I_p0_labels, gz cI (A_p0_labels 2) 24 f_p0_labels_characters, gz cI (A_p0_labels 1) 2 f_p0_labels_sizes, gz cI (A_p0_labels 0) 2 f_p0_labels_tags, oLy (A_p0 4) I_p0_layout_110, oPi (A_p0 2) A_p0_picture I_p0_picture, gz cI (A_p0_picture 0) 256 f_p0_picture_samples, oWk (A_p0 1) A_p0_walk I_p0_walk_44, gz cI (A_p0_walk 0) 8 f_p0_walk_places_44, gz cI (A_p0 12) 16 f_p0_writtenLengths, gz cI (A_p0 11) 16 f_p0_writtenPlaces, gz cI (A_p0 13) 2 f_p0_writtenTexts] H := hP
              have hD : va_D A [oX a_p0 A_p0, oDa (A_p0 5) A_p0_data, gz cI (A_p0_data 0) 256 f_p0_data_bytes, oNe (A_p0 6) A_p0_encoder I_p0_encoder, gz cI (A_p0_encoder 0) 127 f_p0_encoder_firstChild, gz cI (A_p0_encoder 2) 127 f_p0_encoder_lastNibble, gz cI (A_p0_encoder 1) 127 f_p0_encoder_nextSibling, oSt (A_p0 0) A_p0_file I_p0_file_117, gz cI (A_p0_file 0) 900 f_p0_file_bytes, oLb (A_p0 3) A_p0_labels I_p0_labels, gz cI (A_p0_labels 2) 24 f_p0_labels_characters, gz cI (A_p0_labels 1) 2 f_p0_labels_sizes, gz cI (A_p0_labels 0) 2 f_p0_labels_tags, oLy (A_p0 4) I_p0_layout_110, oPi (A_p0 2) A_p0_picture I_p0_picture, gz cI (A_p0_picture 0) 256 f_p0_picture_samples, oWk (A_p0 1) A_p0_walk I_p0_walk_44, gz cI (A_p0_walk 0) 8 f_p0_walk_places_44, gz cI (A_p0 12) 16 f_p0_writtenLengths, gz cI (A_p0 11) 16 f_p0_writtenPlaces, gz cI (A_p0 13) 2 f_p0_writtenTexts] := hD
              refine lv_aload_n hx hb d_X_write_120 rfl (lv_at hl 0 rfl) ?_
              refine gc_i (wn := fun u => [oX a_p0 A_p0, oDa (A_p0 5) A_p0_data, gz cI (A_p0_data 0) 256 u.1, oNe (A_p0 6) A_p0_encoder u.2.1, gz cI (A_p0_encoder 0) 127 u.2.2.1, gz cI (A_p0_encoder 2) 127 u.2.2.2.1, gz cI (A_p0_encoder 1) 127 u.2.2.2.2.1, oSt (A_p0 0) A_p0_file u.2.2.2.2.2.1, gz cI (A_p0_file 0) 900 u.2.2.2.2.2.2.1, oLb (A_p0 3) A_p0_labels I_p0_labels, gz cI (A_p0_labels 2) 24 f_p0_labels_characters, gz cI (A_p0_labels 1) 2 f_p0_labels_sizes, gz cI (A_p0_labels 0) 2 f_p0_labels_tags, oLy (A_p0 4) I_p0_layout_110, oPi (A_p0 2) A_p0_picture I_p0_picture, gz cI (A_p0_picture 0) 256 f_p0_picture_samples, oWk (A_p0 1) A_p0_walk I_p0_walk_44, gz cI (A_p0_walk 0) 8 f_p0_walk_places_44, gz cI (A_p0 12) 16 u.2.2.2.2.2.2.2.1, gz cI (A_p0 11) 16 u.2.2.2.2.2.2.2.2.1, gz cI (A_p0 13) 2 u.2.2.2.2.2.2.2.2.2]) (wr := [oWk (A_p0 1) A_p0_walk I_p0_walk_44, gz cI (A_p0_walk 0) 8 f_p0_walk_places_44]) (gr_V (As := []) (rest := []) ⟨hx, hb, hml, hown, hg⟩ (c_X_appendPage l dC dI cI a_p0 A_p0 A_p0_data A_p0_encoder A_p0_file A_p0_labels A_p0_picture I_p0_labels f_p0_labels_characters f_p0_labels_sizes f_p0_labels_tags I_p0_layout_110 I_p0_picture f_p0_picture_samples f_p0_data_bytes I_p0_encoder f_p0_encoder_firstChild f_p0_encoder_lastNibble f_p0_encoder_nextSibling I_p0_file_117 f_p0_file_bytes f_p0_writtenLengths f_p0_writtenPlaces f_p0_writtenTexts hw _) (cwV 0 hg (gg_V t_492 t_494 t_3 t_60 t_495) rfl rfl rfl (by decide +kernel) ⟨Nat.le_of_ble_eq_true rfl, Nat.le_of_ble_eq_true rfl⟩) hK hN hP hD [0, 1, 2, 3, 4, 5, 6, 7, 8, 9, 10, 11, 12, 13, 14, 15, 18, 19, 20] (by decide) rfl 0 9 rfl rfl rfl rfl hl.1 rfl (Nat.le_of_ble_eq_true rfl) d_X_write_121 ⟨Nat.le_of_ble_eq_true rfl, Nat.le_of_ble_eq_true rfl⟩) rfl rfl hP hD hS hA [0, 1, 2, 3, 4, 5, 6, 7, 8, 9, 10, 11, 12, 13, 14, 15, 18, 19, 20] [16, 17] [2, 3, 4, 5, 6, 7, 8, 9, 10, 11, 12, 13, 14, 15, 16, 17, 0, 1, 18, 19, 20] rfl rfl (by decide) (by decide) (by decide) (fun _ => rfl) ?_
              intro r121 u9 H locs hw hP hD hS
              obtain ⟨f_p0_data_bytes_121, I_p0_encoder_121, f_p0_encoder_firstChild_121, f_p0_encoder_lastNibble_121, f_p0_encoder_nextSibling_121, I_p0_file_121, f_p0_file_bytes_121, f_p0_writtenLengths_121, f_p0_writtenPlaces_121, f_p0_writtenTexts_121⟩ := u9
              try dsimp only at hw
              have hP : va_P (dC, dI) vwCl [oX a_p0 A_p0, oDa (A_p0 5) A_p0_data, gz cI (A_p0_data 0) 256 f_p0_data_bytes_121, oNe (A_p0 6) A_p0_encoder I_p0_encoder_121, gz cI (A_p0_encoder 0) 127 f_p0_encoder_firstChild_121, gz cI (A_p0_encoder 2) 127 f_p0_encoder_lastNibble_121, gz cI (A_p0_encoder 1) 127 f_p0_encoder_nextSibling_121, oSt (A_p0 0) A_p0_file I_p0_file_121, gz cI (A_p0_file 0) 900 f_p0_file_bytes_121, oLb (A_p0 3) A_p0_labels I_p0_labels, gz cI (A_p0_labels 2) 24 f_p0_labels_characters, gz cI (A_p0_labels 1) 2 f_p0_labels_sizes, gz cI (A_p0_labels 0) 2 f_p0_labels_tags, oLy (A_p0 4) I_p0_layout_110, oPi (A_p0 2) A_p0_picture I_p0_picture, gz cI (A_p0_picture 0) 256 f_p0_picture_samples, oWk (A_p0 1) A_p0_walk I_p0_walk_44, gz cI (A_p0_walk 0) 8 f_p0_walk_places_44, gz cI (A_p0 12) 16 f_p0_writtenLengths_121, gz cI (A_p0 11) 16 f_p0_writtenPlaces_121, gz cI (A_p0 13) 2 f_p0_writtenTexts_121] H := hP
              have hD : va_D A [oX a_p0 A_p0, oDa (A_p0 5) A_p0_data, gz cI (A_p0_data 0) 256 f_p0_data_bytes_121, oNe (A_p0 6) A_p0_encoder I_p0_encoder_121, gz cI (A_p0_encoder 0) 127 f_p0_encoder_firstChild_121, gz cI (A_p0_encoder 2) 127 f_p0_encoder_lastNibble_121, gz cI (A_p0_encoder 1) 127 f_p0_encoder_nextSibling_121, oSt (A_p0 0) A_p0_file I_p0_file_121, gz cI (A_p0_file 0) 900 f_p0_file_bytes_121, oLb (A_p0 3) A_p0_labels I_p0_labels, gz cI (A_p0_labels 2) 24 f_p0_labels_characters, gz cI (A_p0_labels 1) 2 f_p0_labels_sizes, gz cI (A_p0_labels 0) 2 f_p0_labels_tags, oLy (A_p0 4) I_p0_layout_110, oPi (A_p0 2) A_p0_picture I_p0_picture, gz cI (A_p0_picture 0) 256 f_p0_picture_samples, oWk (A_p0 1) A_p0_walk I_p0_walk_44, gz cI (A_p0_walk 0) 8 f_p0_walk_places_44, gz cI (A_p0 12) 16 f_p0_writtenLengths_121, gz cI (A_p0 11) 16 f_p0_writtenPlaces_121, gz cI (A_p0 13) 2 f_p0_writtenTexts_121] := hD
              refine lv_istore (lv' := [(4, .int r121), (0, .ref a_p0), (1, .int x1), (2, .int x2), (3, .int x3)]) hx hb d_X_write_124 hl (by decide) rfl (fun ls hl => ?_)
              refine lv_aload_n hx hb d_X_write_126 rfl (lv_at hl 1 rfl) ?_
              refine va_get (D := (dC, dI)) (ci := 9) (v := .ref (A_p0 0)) (C := R_X) (T := T_X) (N := 14) hx hb hg in_X hown hK hP 0 rfl rfl 0 (by decide) (hg _ t_307) (fun _ h9 => h9) rfl d_X_write_127 ?_
              refine va_get (D := (dC, dI)) (ci := 7) (v := .int (I_p0_file_121 2)) (C := R_St) (T := T_St) (N := 3) hx hb hg in_St hown hK hP 7 rfl rfl 2 (by decide) (hg _ t_97) (fun _ h9 => h9) rfl d_X_write_130 ?_
              refine lv_sipush (v := 900) hx hb d_X_write_133 (by decide) ?_
              refine lv_icmp_le hx hb d_X_write_136 rfl (fun hc => ?_) (fun hc => ?_)
              · have hw := hw.1 hc
                refine lv_aload_n hx hb d_X_write_142 rfl (lv_at hl 1 rfl) ?_
                refine va_get (D := (dC, dI)) (ci := 9) (v := .ref (A_p0 0)) (C := R_X) (T := T_X) (N := 14) hx hb hg in_X hown hK hP 0 rfl rfl 0 (by decide) (hg _ t_307) (fun _ h9 => h9) rfl d_X_write_143 ?_
                refine lv_aload_n hx hb d_X_write_146 rfl (lv_at hl 1 rfl) ?_
                refine va_get (D := (dC, dI)) (ci := 9) (v := .ref (A_p0 1)) (C := R_X) (T := T_X) (N := 14) hx hb hg in_X hown hK hP 0 rfl rfl 1 (by decide) (hg _ t_308) (fun _ h9 => h9) rfl d_X_write_147 ?_
                refine va_get (D := (dC, dI)) (ci := 8) (v := .int (I_p0_walk_44 3)) (C := R_Wk) (T := T_Wk) (N := 4) hx hb hg in_Wk hown hK hP 16 rfl rfl 3 (by decide) (hg _ t_119) (fun _ h9 => h9) rfl d_X_write_150 ?_
                refine lv_iload hx hb d_X_write_153 (lv_at hl 0 rfl) ?_
                refine gc_v (wn := fun u => [oX a_p0 A_p0, oDa (A_p0 5) A_p0_data, gz cI (A_p0_data 0) 256 f_p0_data_bytes_121, oNe (A_p0 6) A_p0_encoder I_p0_encoder_121, gz cI (A_p0_encoder 0) 127 f_p0_encoder_firstChild_121, gz cI (A_p0_encoder 2) 127 f_p0_encoder_lastNibble_121, gz cI (A_p0_encoder 1) 127 f_p0_encoder_nextSibling_121, oSt (A_p0 0) A_p0_file I_p0_file_121, gz cI (A_p0_file 0) 900 u, oLb (A_p0 3) A_p0_labels I_p0_labels, gz cI (A_p0_labels 2) 24 f_p0_labels_characters, gz cI (A_p0_labels 1) 2 f_p0_labels_sizes, gz cI (A_p0_labels 0) 2 f_p0_labels_tags, oLy (A_p0 4) I_p0_layout_110, oPi (A_p0 2) A_p0_picture I_p0_picture, gz cI (A_p0_picture 0) 256 f_p0_picture_samples, oWk (A_p0 1) A_p0_walk I_p0_walk_44, gz cI (A_p0_walk 0) 8 f_p0_walk_places_44, gz cI (A_p0 12) 16 f_p0_writtenLengths_121, gz cI (A_p0 11) 16 f_p0_writtenPlaces_121, gz cI (A_p0 13) 2 f_p0_writtenTexts_121]) (wr := [oX a_p0 A_p0, oDa (A_p0 5) A_p0_data, gz cI (A_p0_data 0) 256 f_p0_data_bytes_121, oNe (A_p0 6) A_p0_encoder I_p0_encoder_121, gz cI (A_p0_encoder 0) 127 f_p0_encoder_firstChild_121, gz cI (A_p0_encoder 2) 127 f_p0_encoder_lastNibble_121, gz cI (A_p0_encoder 1) 127 f_p0_encoder_nextSibling_121, oLb (A_p0 3) A_p0_labels I_p0_labels, gz cI (A_p0_labels 2) 24 f_p0_labels_characters, gz cI (A_p0_labels 1) 2 f_p0_labels_sizes, gz cI (A_p0_labels 0) 2 f_p0_labels_tags, oLy (A_p0 4) I_p0_layout_110, oPi (A_p0 2) A_p0_picture I_p0_picture, gz cI (A_p0_picture 0) 256 f_p0_picture_samples, oWk (A_p0 1) A_p0_walk I_p0_walk_44, gz cI (A_p0_walk 0) 8 f_p0_walk_places_44, gz cI (A_p0 12) 16 f_p0_writtenLengths_121, gz cI (A_p0 11) 16 f_p0_writtenPlaces_121, gz cI (A_p0 13) 2 f_p0_writtenTexts_121]) (gr_V (As := [.int (I_p0_walk_44 3), .int r121]) (rest := []) ⟨hx, hb, hml, hown, hg⟩ (c_St_putLong l dC dI cI (A_p0 0) A_p0_file I_p0_file_121 f_p0_file_bytes_121 (I_p0_walk_44 3) r121 hw _) (cwV 2 hg (gg_V t_623 t_624 t_625 t_61 t_626) rfl rfl rfl (by decide +kernel) ⟨Nat.le_of_ble_eq_true rfl, Nat.le_of_ble_eq_true rfl⟩) hK hN hP hD [7, 8] (by decide) rfl 7 7 rfl rfl rfl rfl hl.1 rfl (Nat.le_of_ble_eq_true rfl) d_X_write_155 ⟨Nat.le_of_ble_eq_true rfl, Nat.le_of_ble_eq_true rfl⟩) rfl rfl hP hD hS hA [7, 8] [0, 1, 2, 3, 4, 5, 6, 9, 10, 11, 12, 13, 14, 15, 16, 17, 18, 19, 20] [0, 1, 2, 3, 4, 5, 6, 19, 20, 7, 8, 9, 10, 11, 12, 13, 14, 15, 16, 17, 18] rfl rfl (by decide) (by decide) (by decide) (fun _ => rfl) ?_
                intro f_p0_file_bytes_155 H locs hw hP hD hS
                try dsimp only at hw
                have hP : va_P (dC, dI) vwCl [oX a_p0 A_p0, oDa (A_p0 5) A_p0_data, gz cI (A_p0_data 0) 256 f_p0_data_bytes_121, oNe (A_p0 6) A_p0_encoder I_p0_encoder_121, gz cI (A_p0_encoder 0) 127 f_p0_encoder_firstChild_121, gz cI (A_p0_encoder 2) 127 f_p0_encoder_lastNibble_121, gz cI (A_p0_encoder 1) 127 f_p0_encoder_nextSibling_121, oSt (A_p0 0) A_p0_file I_p0_file_121, gz cI (A_p0_file 0) 900 f_p0_file_bytes_155, oLb (A_p0 3) A_p0_labels I_p0_labels, gz cI (A_p0_labels 2) 24 f_p0_labels_characters, gz cI (A_p0_labels 1) 2 f_p0_labels_sizes, gz cI (A_p0_labels 0) 2 f_p0_labels_tags, oLy (A_p0 4) I_p0_layout_110, oPi (A_p0 2) A_p0_picture I_p0_picture, gz cI (A_p0_picture 0) 256 f_p0_picture_samples, oWk (A_p0 1) A_p0_walk I_p0_walk_44, gz cI (A_p0_walk 0) 8 f_p0_walk_places_44, gz cI (A_p0 12) 16 f_p0_writtenLengths_121, gz cI (A_p0 11) 16 f_p0_writtenPlaces_121, gz cI (A_p0 13) 2 f_p0_writtenTexts_121] H := hP
                have hD : va_D A [oX a_p0 A_p0, oDa (A_p0 5) A_p0_data, gz cI (A_p0_data 0) 256 f_p0_data_bytes_121, oNe (A_p0 6) A_p0_encoder I_p0_encoder_121, gz cI (A_p0_encoder 0) 127 f_p0_encoder_firstChild_121, gz cI (A_p0_encoder 2) 127 f_p0_encoder_lastNibble_121, gz cI (A_p0_encoder 1) 127 f_p0_encoder_nextSibling_121, oSt (A_p0 0) A_p0_file I_p0_file_121, gz cI (A_p0_file 0) 900 f_p0_file_bytes_155, oLb (A_p0 3) A_p0_labels I_p0_labels, gz cI (A_p0_labels 2) 24 f_p0_labels_characters, gz cI (A_p0_labels 1) 2 f_p0_labels_sizes, gz cI (A_p0_labels 0) 2 f_p0_labels_tags, oLy (A_p0 4) I_p0_layout_110, oPi (A_p0 2) A_p0_picture I_p0_picture, gz cI (A_p0_picture 0) 256 f_p0_picture_samples, oWk (A_p0 1) A_p0_walk I_p0_walk_44, gz cI (A_p0_walk 0) 8 f_p0_walk_places_44, gz cI (A_p0 12) 16 f_p0_writtenLengths_121, gz cI (A_p0 11) 16 f_p0_writtenPlaces_121, gz cI (A_p0 13) 2 f_p0_writtenTexts_121] := hD
                refine lv_aload_n hx hb d_X_write_158 rfl (lv_at hl 1 rfl) ?_
                refine va_get (D := (dC, dI)) (ci := 9) (v := .ref (A_p0 0)) (C := R_X) (T := T_X) (N := 14) hx hb hg in_X hown hK hP 0 rfl rfl 0 (by decide) (hg _ t_307) (fun _ h9 => h9) rfl d_X_write_159 ?_
                refine gc_i (wn := fun u => [oX a_p0 A_p0, oDa (A_p0 5) A_p0_data, gz cI (A_p0_data 0) 256 f_p0_data_bytes_121, oNe (A_p0 6) A_p0_encoder I_p0_encoder_121, gz cI (A_p0_encoder 0) 127 f_p0_encoder_firstChild_121, gz cI (A_p0_encoder 2) 127 f_p0_encoder_lastNibble_121, gz cI (A_p0_encoder 1) 127 f_p0_encoder_nextSibling_121, oSt (A_p0 0) A_p0_file u, gz cI (A_p0_file 0) 900 f_p0_file_bytes_155, oLb (A_p0 3) A_p0_labels I_p0_labels, gz cI (A_p0_labels 2) 24 f_p0_labels_characters, gz cI (A_p0_labels 1) 2 f_p0_labels_sizes, gz cI (A_p0_labels 0) 2 f_p0_labels_tags, oLy (A_p0 4) I_p0_layout_110, oPi (A_p0 2) A_p0_picture I_p0_picture, gz cI (A_p0_picture 0) 256 f_p0_picture_samples, oWk (A_p0 1) A_p0_walk I_p0_walk_44, gz cI (A_p0_walk 0) 8 f_p0_walk_places_44, gz cI (A_p0 12) 16 f_p0_writtenLengths_121, gz cI (A_p0 11) 16 f_p0_writtenPlaces_121, gz cI (A_p0 13) 2 f_p0_writtenTexts_121]) (wr := [oX a_p0 A_p0, oDa (A_p0 5) A_p0_data, gz cI (A_p0_data 0) 256 f_p0_data_bytes_121, oNe (A_p0 6) A_p0_encoder I_p0_encoder_121, gz cI (A_p0_encoder 0) 127 f_p0_encoder_firstChild_121, gz cI (A_p0_encoder 2) 127 f_p0_encoder_lastNibble_121, gz cI (A_p0_encoder 1) 127 f_p0_encoder_nextSibling_121, gz cI (A_p0_file 0) 900 f_p0_file_bytes_155, oLb (A_p0 3) A_p0_labels I_p0_labels, gz cI (A_p0_labels 2) 24 f_p0_labels_characters, gz cI (A_p0_labels 1) 2 f_p0_labels_sizes, gz cI (A_p0_labels 0) 2 f_p0_labels_tags, oLy (A_p0 4) I_p0_layout_110, oPi (A_p0 2) A_p0_picture I_p0_picture, gz cI (A_p0_picture 0) 256 f_p0_picture_samples, oWk (A_p0 1) A_p0_walk I_p0_walk_44, gz cI (A_p0_walk 0) 8 f_p0_walk_places_44, gz cI (A_p0 12) 16 f_p0_writtenLengths_121, gz cI (A_p0 11) 16 f_p0_writtenPlaces_121, gz cI (A_p0 13) 2 f_p0_writtenTexts_121]) (gr_V (As := []) (rest := []) ⟨hx, hb, hml, hown, hg⟩ (c_St_keepAppended l dC dI cI (A_p0 0) A_p0_file I_p0_file_121 hw _) (cwV 0 hg (gg_V t_629 t_630 t_631 t_61 t_632) rfl rfl rfl (by decide +kernel) ⟨Nat.le_of_ble_eq_true rfl, Nat.le_of_ble_eq_true rfl⟩) hK hN hP hD [7] (by decide) rfl 7 7 rfl rfl rfl rfl hl.1 rfl (Nat.le_of_ble_eq_true rfl) d_X_write_162 ⟨Nat.le_of_ble_eq_true rfl, Nat.le_of_ble_eq_true rfl⟩) rfl rfl hP hD hS hA [7] [0, 1, 2, 3, 4, 5, 6, 8, 9, 10, 11, 12, 13, 14, 15, 16, 17, 18, 19, 20] [0, 1, 2, 3, 4, 5, 6, 20, 7, 8, 9, 10, 11, 12, 13, 14, 15, 16, 17, 18, 19] rfl rfl (by decide) (by decide) (by decide) (fun _ => rfl) ?_
                intro r162 I_p0_file_162 H locs hw hP hD hS
                try dsimp only at hw
                have hP : va_P (dC, dI) vwCl [oX a_p0 A_p0, oDa (A_p0 5) A_p0_data, gz cI (A_p0_data 0) 256 f_p0_data_bytes_121, oNe (A_p0 6) A_p0_encoder I_p0_encoder_121, gz cI (A_p0_encoder 0) 127 f_p0_encoder_firstChild_121, gz cI (A_p0_encoder 2) 127 f_p0_encoder_lastNibble_121, gz cI (A_p0_encoder 1) 127 f_p0_encoder_nextSibling_121, oSt (A_p0 0) A_p0_file I_p0_file_162, gz cI (A_p0_file 0) 900 f_p0_file_bytes_155, oLb (A_p0 3) A_p0_labels I_p0_labels, gz cI (A_p0_labels 2) 24 f_p0_labels_characters, gz cI (A_p0_labels 1) 2 f_p0_labels_sizes, gz cI (A_p0_labels 0) 2 f_p0_labels_tags, oLy (A_p0 4) I_p0_layout_110, oPi (A_p0 2) A_p0_picture I_p0_picture, gz cI (A_p0_picture 0) 256 f_p0_picture_samples, oWk (A_p0 1) A_p0_walk I_p0_walk_44, gz cI (A_p0_walk 0) 8 f_p0_walk_places_44, gz cI (A_p0 12) 16 f_p0_writtenLengths_121, gz cI (A_p0 11) 16 f_p0_writtenPlaces_121, gz cI (A_p0 13) 2 f_p0_writtenTexts_121] H := hP
                have hD : va_D A [oX a_p0 A_p0, oDa (A_p0 5) A_p0_data, gz cI (A_p0_data 0) 256 f_p0_data_bytes_121, oNe (A_p0 6) A_p0_encoder I_p0_encoder_121, gz cI (A_p0_encoder 0) 127 f_p0_encoder_firstChild_121, gz cI (A_p0_encoder 2) 127 f_p0_encoder_lastNibble_121, gz cI (A_p0_encoder 1) 127 f_p0_encoder_nextSibling_121, oSt (A_p0 0) A_p0_file I_p0_file_162, gz cI (A_p0_file 0) 900 f_p0_file_bytes_155, oLb (A_p0 3) A_p0_labels I_p0_labels, gz cI (A_p0_labels 2) 24 f_p0_labels_characters, gz cI (A_p0_labels 1) 2 f_p0_labels_sizes, gz cI (A_p0_labels 0) 2 f_p0_labels_tags, oLy (A_p0 4) I_p0_layout_110, oPi (A_p0 2) A_p0_picture I_p0_picture, gz cI (A_p0_picture 0) 256 f_p0_picture_samples, oWk (A_p0 1) A_p0_walk I_p0_walk_44, gz cI (A_p0_walk 0) 8 f_p0_walk_places_44, gz cI (A_p0 12) 16 f_p0_writtenLengths_121, gz cI (A_p0 11) 16 f_p0_writtenPlaces_121, gz cI (A_p0 13) 2 f_p0_writtenTexts_121] := hD
                exact hret _ _ _ _ _ (f_p0_data_bytes_121, I_p0_encoder_121, f_p0_encoder_firstChild_121, f_p0_encoder_lastNibble_121, f_p0_encoder_nextSibling_121, I_p0_file_162, f_p0_file_bytes_155, I_p0_layout_110, I_p0_walk_44, f_p0_walk_places_44, f_p0_writtenLengths_121, f_p0_writtenPlaces_121, f_p0_writtenTexts_121) d_X_write_165 rfl hP hD hS hw
              · have hw := hw.2 hc
                refine lv_bipush (v := (-3)) hx hb d_X_write_139 (by decide) ?_
                exact hret _ _ _ _ _ (f_p0_data_bytes_121, I_p0_encoder_121, f_p0_encoder_firstChild_121, f_p0_encoder_lastNibble_121, f_p0_encoder_nextSibling_121, I_p0_file_121, f_p0_file_bytes_121, I_p0_layout_110, I_p0_walk_44, f_p0_walk_places_44, f_p0_writtenLengths_121, f_p0_writtenPlaces_121, f_p0_writtenTexts_121) d_X_write_141 rfl hP hD hS hw
            · have hw := hw.1 hc
              refine lv_bipush (v := (-3)) hx hb d_X_write_72 (by decide) ?_
              exact hret _ _ _ _ _ (f_p0_data_bytes, I_p0_encoder, f_p0_encoder_firstChild, f_p0_encoder_lastNibble, f_p0_encoder_nextSibling, I_p0_file, f_p0_file_bytes, I_p0_layout, I_p0_walk_44, f_p0_walk_places_44, f_p0_writtenLengths, f_p0_writtenPlaces, f_p0_writtenTexts) d_X_write_74 rfl hP hD hS hw
          · have hw := hw.1 hc
            refine lv_bipush (v := (-2)) hx hb d_X_write_57 (by decide) ?_
            exact hret _ _ _ _ _ (f_p0_data_bytes, I_p0_encoder, f_p0_encoder_firstChild, f_p0_encoder_lastNibble, f_p0_encoder_nextSibling, I_p0_file, f_p0_file_bytes, I_p0_layout, I_p0_walk_44, f_p0_walk_places_44, f_p0_writtenLengths, f_p0_writtenPlaces, f_p0_writtenTexts) d_X_write_59 rfl hP hD hS hw
        · have hw := hw.2 hc
          refine lv_iconst (v := (-1)) hx hb d_X_write_34 (by decide) ?_
          exact hret _ _ _ _ _ (f_p0_data_bytes, I_p0_encoder, f_p0_encoder_firstChild, f_p0_encoder_lastNibble, f_p0_encoder_nextSibling, I_p0_file, f_p0_file_bytes, I_p0_layout, I_p0_walk, f_p0_walk_places, f_p0_writtenLengths, f_p0_writtenPlaces, f_p0_writtenTexts) d_X_write_35 rfl hP hD hS hw
    · have hw := hw.1 hc
      refine lv_iconst (v := (-1)) hx hb d_X_write_16 (by decide) ?_
      exact hret _ _ _ _ _ (f_p0_data_bytes, I_p0_encoder, f_p0_encoder_firstChild, f_p0_encoder_lastNibble, f_p0_encoder_nextSibling, I_p0_file, f_p0_file_bytes, I_p0_layout, I_p0_walk, f_p0_walk_places, f_p0_writtenLengths, f_p0_writtenPlaces, f_p0_writtenTexts) d_X_write_17 rfl hP hD hS hw
theorem d_M_clear_0 : decode b_M_clear 0 = .ok (.iconst 0, 1) := by decide +kernel
theorem d_M_clear_1 : decode b_M_clear 1 = .ok (.istore_n 2, 1) := by decide +kernel
theorem d_M_clear_2 : decode b_M_clear 2 = .ok (.iload_n 2, 1) := by decide +kernel
theorem d_M_clear_3 : decode b_M_clear 3 = .ok (.bipush 8, 2) := by decide +kernel
theorem d_M_clear_5 : decode b_M_clear 5 = .ok (.if_icmp .ge 35, 3) := by decide +kernel
theorem d_M_clear_8 : decode b_M_clear 8 = .ok (.aload_n 0, 1) := by decide +kernel
theorem d_M_clear_9 : decode b_M_clear 9 = .ok (.getfield 7, 3) := by decide +kernel
theorem d_M_clear_12 : decode b_M_clear 12 = .ok (.iload_n 2, 1) := by decide +kernel
theorem d_M_clear_13 : decode b_M_clear 13 = .ok (.iload_n 2, 1) := by decide +kernel
theorem d_M_clear_14 : decode b_M_clear 14 = .ok (.iconst 2, 1) := by decide +kernel
theorem d_M_clear_15 : decode b_M_clear 15 = .ok (.if_icmp .ge 17, 3) := by decide +kernel
theorem d_M_clear_18 : decode b_M_clear 18 = .ok (.iload_n 1, 1) := by decide +kernel
theorem d_M_clear_19 : decode b_M_clear 19 = .ok (.ifCond .eq 8, 3) := by decide +kernel
theorem d_M_clear_22 : decode b_M_clear 22 = .ok (.bipush 77, 2) := by decide +kernel
theorem d_M_clear_24 : decode b_M_clear 24 = .ok (.goto 9, 3) := by decide +kernel
theorem d_M_clear_27 : decode b_M_clear 27 = .ok (.bipush 73, 2) := by decide +kernel
theorem d_M_clear_29 : decode b_M_clear 29 = .ok (.goto 4, 3) := by decide +kernel
theorem d_M_clear_32 : decode b_M_clear 32 = .ok (.iconst 0, 1) := by decide +kernel
theorem d_M_clear_33 : decode b_M_clear 33 = .ok (.iastore, 1) := by decide +kernel
theorem d_M_clear_34 : decode b_M_clear 34 = .ok (.iinc 2 1, 3) := by decide +kernel
theorem d_M_clear_37 : decode b_M_clear 37 = .ok (.goto (-35), 3) := by decide +kernel
theorem d_M_clear_40 : decode b_M_clear 40 = .ok (.aload_n 0, 1) := by decide +kernel
theorem d_M_clear_41 : decode b_M_clear 41 = .ok (.getfield 7, 3) := by decide +kernel
theorem d_M_clear_44 : decode b_M_clear 44 = .ok (.iload_n 1, 1) := by decide +kernel
theorem d_M_clear_45 : decode b_M_clear 45 = .ok (.ifCond .eq 7, 3) := by decide +kernel
theorem d_M_clear_48 : decode b_M_clear 48 = .ok (.iconst 3, 1) := by decide +kernel
theorem d_M_clear_49 : decode b_M_clear 49 = .ok (.goto 4, 3) := by decide +kernel
theorem d_M_clear_52 : decode b_M_clear 52 = .ok (.iconst 2, 1) := by decide +kernel
theorem d_M_clear_53 : decode b_M_clear 53 = .ok (.bipush 42, 2) := by decide +kernel
theorem d_M_clear_55 : decode b_M_clear 55 = .ok (.iastore, 1) := by decide +kernel
theorem d_M_clear_56 : decode b_M_clear 56 = .ok (.aload_n 0, 1) := by decide +kernel
theorem d_M_clear_57 : decode b_M_clear 57 = .ok (.bipush 8, 2) := by decide +kernel
theorem d_M_clear_59 : decode b_M_clear 59 = .ok (.putfield 63, 3) := by decide +kernel
theorem d_M_clear_62 : decode b_M_clear 62 = .ok (.return_, 1) := by decide +kernel
def wp_M_clear_b53 (post : (Nat → Int32) → (Nat → Int32) → Prop) (I_p0 : Nat → Int32) (f_p0_file : Nat → Int32) (s0 : Int32) : Prop :=
  vp_in s0 2000 ∧
  post (upd I_p0 1 8) (upd f_p0_file (s0).toNatClampNeg 42)
def wp_M_clear_b33 (post : (Nat → Int32) → (Nat → Int32) → Prop) (k2 : (Nat → Int32) → (Nat → Int32) → Int32 → Int32 → Prop) (I_p0 : Nat → Int32) (f_p0_file : Nat → Int32) (x1 : Int32) (x2 : Int32) (s0 : Int32) (s1 : Int32) : Prop :=
  vp_in s1 2000 ∧
  k2 I_p0 (upd f_p0_file (s1).toNatClampNeg s0) x1 (x2 + 1)
def wp_M_clear_l2 (post : (Nat → Int32) → (Nat → Int32) → Prop) : Nat → (Nat → Int32) → (Nat → Int32) → Int32 → Int32 → Prop
  | 0, _, _, _, _ => False
  | n + 1, I_p0, f_p0_file, x1, x2 =>
    ((8 ≤ x2 →
      ((x1 = 0 →
        wp_M_clear_b53 post I_p0 f_p0_file 2) ∧
       (¬ x1 = 0 →
        wp_M_clear_b53 post I_p0 f_p0_file 3))) ∧
     (¬ 8 ≤ x2 →
      ((2 ≤ x2 →
        wp_M_clear_b33 post (wp_M_clear_l2 post n) I_p0 f_p0_file x1 x2 0 x2) ∧
       (¬ 2 ≤ x2 →
        ((x1 = 0 →
          wp_M_clear_b33 post (wp_M_clear_l2 post n) I_p0 f_p0_file x1 x2 73 x2) ∧
         (¬ x1 = 0 →
          wp_M_clear_b33 post (wp_M_clear_l2 post n) I_p0 f_p0_file x1 x2 77 x2))))))
def wp_M_clear (post : (Nat → Int32) → (Nat → Int32) → Prop) (I_p0 : Nat → Int32) (f_p0_file : Nat → Int32) (x1 : Int32) : Prop :=
  (∃ n1 : Nat, wp_M_clear_l2 post n1 I_p0 f_p0_file x1 0)
set_option maxRecDepth 100000 in
set_option maxHeartbeats 4000000 in
theorem c_M_clear (l : Launch) (dC : Nat → ClassId) (dI : Nat → Nat → Nat) (cI : ClassId) (a_p0 : Nat) (A_p0 : Nat → Nat) (I_p0 : Nat → Int32) (f_p0_file : Nat → Int32) (x1 : Int32) {post : (Nat → Int32) → (Nat → Int32) → Prop} (hw : wp_M_clear post I_p0 f_p0_file x1) : gm_v l y_M_clear ws_M_clear ({ frames := 0, cells := 0, slots := 0, locals := 0 } : Room) (dC, dI) vwCl [(cI, .int)] [.ref a_p0, .int x1] [oM a_p0 A_p0 I_p0, gz cI (A_p0 0) 2000 f_p0_file] (fun (u : (Nat → Int32) × (Nat → Int32)) => [oM a_p0 A_p0 u.1, gz cI (A_p0 0) 2000 u.2]) (fun (u : (Nat → Int32) × (Nat → Int32)) => post  u.1 u.2) := by
  refine gm_vof (cc := b_M_clear) (maxL := 3) (by decide) rfl (Nat.le_of_ble_eq_true rfl) ?_
  intro p e s m args below meth c A Q hx hb hml hown hg hK hN hA hnm hret
  have hown : s.vm.findClass R_M = some m.cls := hown
  have b53 : ∀ (H : Heap) (locs : List Loc) (ls : Array Slot) (I_p0 : Nat → Int32) (f_p0_file : Nat → Int32) (s0 : Int32), va_P (dC, dI) vwCl [oM a_p0 A_p0 I_p0, gz cI (A_p0 0) 2000 f_p0_file] H → va_D A [oM a_p0 A_p0 I_p0, gz cI (A_p0 0) 2000 f_p0_file] → va_S A s.heap H locs → lv_has ls 3 [(0, .ref a_p0)] → wp_M_clear_b53 post I_p0 f_p0_file s0 → W p l e ({ frames := 0, cells := 0, slots := 0, locals := 0 } : Room) s m args below meth c H locs 0 0 Q (F0 m 53 ls [.int s0, .ref (A_p0 0)]) := by
    intro H locs ls I_p0 f_p0_file s0 hP hD hS hl hw
    unfold wp_M_clear_b53 at hw
    refine lv_bipush (v := 42) hx hb d_M_clear_53 (by decide) ?_
    obtain ⟨hin, hw⟩ := hw
    refine va_iast hx hb hK hP hD hS 1 0 rfl rfl hin d_M_clear_55 (fun H locs hP hD hS => ?_)
    have hP : va_P (dC, dI) vwCl [oM a_p0 A_p0 I_p0, gz cI (A_p0 0) 2000 (upd f_p0_file (s0).toNatClampNeg 42)] H := hP
    have hD : va_D A [oM a_p0 A_p0 I_p0, gz cI (A_p0 0) 2000 (upd f_p0_file (s0).toNatClampNeg 42)] := hD
    refine lv_aload_n hx hb d_M_clear_56 rfl (lv_at hl 0 rfl) ?_
    refine lv_bipush (v := 8) hx hb d_M_clear_57 (by decide) ?_
    refine va_put (D := (dC, dI)) (ci := 10) (v := .int 8) (ty := .int) (C := R_M) (T := T_M) (N := 30) hx hb hg in_M t_M tok_M nok_M hown hK hP hD hS 0 rfl rfl 1 (by decide) (hg _ t_759) (fun _ h9 => h9) rfl (by decide +kernel) rfl rfl (Nat.le_of_ble_eq_true rfl) d_M_clear_59 (fun H locs hP hD hS => ?_)
    have hP : va_P (dC, dI) vwCl [oM a_p0 A_p0 (upd I_p0 1 8), gz cI (A_p0 0) 2000 (upd f_p0_file (s0).toNatClampNeg 42)] H := hP
    have hD : va_D A [oM a_p0 A_p0 (upd I_p0 1 8), gz cI (A_p0 0) 2000 (upd f_p0_file (s0).toNatClampNeg 42)] := hD
    exact hret _ _ _ _ ((upd I_p0 1 8), (upd f_p0_file (s0).toNatClampNeg 42)) d_M_clear_62 hP hD hS hw
  have b33 : ∀ (k2 : (Nat → Int32) → (Nat → Int32) → Int32 → Int32 → Prop), (∀ (H : Heap) (locs : List Loc) (ls : Array Slot) (I_p0 : Nat → Int32) (f_p0_file : Nat → Int32) (x1 : Int32) (x2 : Int32), va_P (dC, dI) vwCl [oM a_p0 A_p0 I_p0, gz cI (A_p0 0) 2000 f_p0_file] H → va_D A [oM a_p0 A_p0 I_p0, gz cI (A_p0 0) 2000 f_p0_file] → va_S A s.heap H locs → lv_has ls 3 [(0, .ref a_p0), (1, .int x1), (2, .int x2)] → k2 I_p0 f_p0_file x1 x2 → W p l e ({ frames := 0, cells := 0, slots := 0, locals := 0 } : Room) s m args below meth c H locs 0 0 Q (F0 m 2 ls [])) → ∀ (H : Heap) (locs : List Loc) (ls : Array Slot) (I_p0 : Nat → Int32) (f_p0_file : Nat → Int32) (x1 : Int32) (x2 : Int32) (s0 : Int32) (s1 : Int32), va_P (dC, dI) vwCl [oM a_p0 A_p0 I_p0, gz cI (A_p0 0) 2000 f_p0_file] H → va_D A [oM a_p0 A_p0 I_p0, gz cI (A_p0 0) 2000 f_p0_file] → va_S A s.heap H locs → lv_has ls 3 [(0, .ref a_p0), (1, .int x1), (2, .int x2)] → wp_M_clear_b33 post k2 I_p0 f_p0_file x1 x2 s0 s1 → W p l e ({ frames := 0, cells := 0, slots := 0, locals := 0 } : Room) s m args below meth c H locs 0 0 Q (F0 m 33 ls [.int s0, .int s1, .ref (A_p0 0)]) := by
    intro k2 hk2 H locs ls I_p0 f_p0_file x1 x2 s0 s1 hP hD hS hl hw
    unfold wp_M_clear_b33 at hw
    obtain ⟨hin, hw⟩ := hw
    refine va_iast hx hb hK hP hD hS 1 0 rfl rfl hin d_M_clear_33 (fun H locs hP hD hS => ?_)
    have hP : va_P (dC, dI) vwCl [oM a_p0 A_p0 I_p0, gz cI (A_p0 0) 2000 (upd f_p0_file (s1).toNatClampNeg s0)] H := hP
    have hD : va_D A [oM a_p0 A_p0 I_p0, gz cI (A_p0 0) 2000 (upd f_p0_file (s1).toNatClampNeg s0)] := hD
    refine lv_iinc (k := 2) (v := (x2 + 1)) (lv' := [(2, .int (x2 + 1)), (0, .ref a_p0), (1, .int x1)]) hx hb d_M_clear_34 hl rfl (congrArg (fun z => x2 + z) (by decide : Int32.ofInt 1 = 1)) (by decide) rfl (fun ls hl => ?_)
    refine lv_goto hx hb d_M_clear_37 rfl ?_
    exact hk2 _ _ _ I_p0 (upd f_p0_file (s1).toNatClampNeg s0) x1 (x2 + 1) hP hD hS (lv_sub hl [1, 2, 0] rfl) hw
  have l2 : ∀ n : Nat, ∀ (H : Heap) (locs : List Loc) (ls : Array Slot) (I_p0 : Nat → Int32) (f_p0_file : Nat → Int32) (x1 : Int32) (x2 : Int32), va_P (dC, dI) vwCl [oM a_p0 A_p0 I_p0, gz cI (A_p0 0) 2000 f_p0_file] H → va_D A [oM a_p0 A_p0 I_p0, gz cI (A_p0 0) 2000 f_p0_file] → va_S A s.heap H locs → lv_has ls 3 [(0, .ref a_p0), (1, .int x1), (2, .int x2)] → wp_M_clear_l2 post n I_p0 f_p0_file x1 x2 → W p l e ({ frames := 0, cells := 0, slots := 0, locals := 0 } : Room) s m args below meth c H locs 0 0 Q (F0 m 2 ls []) := by
    intro n
    induction n with
    | zero => intro H locs ls I_p0 f_p0_file x1 x2 hP hD hS hl hw; exact hw.elim
    | succ n ih =>
      intro H locs ls I_p0 f_p0_file x1 x2 hP hD hS hl hw
      unfold wp_M_clear_l2 at hw
      refine lv_iload_n hx hb d_M_clear_2 rfl (lv_at hl 2 rfl) ?_
      refine lv_bipush (v := 8) hx hb d_M_clear_3 (by decide) ?_
      refine lv_icmp_ge hx hb d_M_clear_5 rfl (fun hc => ?_) (fun hc => ?_)
      · have hw := hw.1 hc
        refine lv_aload_n hx hb d_M_clear_40 rfl (lv_at hl 0 rfl) ?_
        refine va_get (D := (dC, dI)) (ci := 10) (v := .ref (A_p0 0)) (C := R_M) (T := T_M) (N := 30) hx hb hg in_M hown hK hP 0 rfl rfl 0 (by decide) (hg _ t_758) (fun _ h9 => h9) rfl d_M_clear_41 ?_
        refine lv_iload_n hx hb d_M_clear_44 rfl (lv_at hl 1 rfl) ?_
        refine lv_if_eq hx hb d_M_clear_45 rfl (fun hc => ?_) (fun hc => ?_)
        · have hw := hw.1 hc
          refine lv_iconst (v := 2) hx hb d_M_clear_52 (by decide) ?_
          exact b53 _ _ _ I_p0 f_p0_file 2 hP hD hS (lv_sub hl [0] rfl) hw
        · have hw := hw.2 hc
          refine lv_iconst (v := 3) hx hb d_M_clear_48 (by decide) ?_
          refine lv_goto hx hb d_M_clear_49 rfl ?_
          exact b53 _ _ _ I_p0 f_p0_file 3 hP hD hS (lv_sub hl [0] rfl) hw
      · have hw := hw.2 hc
        refine lv_aload_n hx hb d_M_clear_8 rfl (lv_at hl 0 rfl) ?_
        refine va_get (D := (dC, dI)) (ci := 10) (v := .ref (A_p0 0)) (C := R_M) (T := T_M) (N := 30) hx hb hg in_M hown hK hP 0 rfl rfl 0 (by decide) (hg _ t_758) (fun _ h9 => h9) rfl d_M_clear_9 ?_
        refine lv_iload_n hx hb d_M_clear_12 rfl (lv_at hl 2 rfl) ?_
        refine lv_iload_n hx hb d_M_clear_13 rfl (lv_at hl 2 rfl) ?_
        refine lv_iconst (v := 2) hx hb d_M_clear_14 (by decide) ?_
        refine lv_icmp_ge hx hb d_M_clear_15 rfl (fun hc => ?_) (fun hc => ?_)
        · have hw := hw.1 hc
          refine lv_iconst (v := 0) hx hb d_M_clear_32 (by decide) ?_
          exact b33 _ ih _ _ _ I_p0 f_p0_file x1 x2 0 x2 hP hD hS (lv_sub hl [0, 1, 2] rfl) hw
        · have hw := hw.2 hc
          refine lv_iload_n hx hb d_M_clear_18 rfl (lv_at hl 1 rfl) ?_
          refine lv_if_eq hx hb d_M_clear_19 rfl (fun hc => ?_) (fun hc => ?_)
          · have hw := hw.1 hc
            refine lv_bipush (v := 73) hx hb d_M_clear_27 (by decide) ?_
            refine lv_goto hx hb d_M_clear_29 rfl ?_
            exact b33 _ ih _ _ _ I_p0 f_p0_file x1 x2 73 x2 hP hD hS (lv_sub hl [0, 1, 2] rfl) hw
          · have hw := hw.2 hc
            refine lv_bipush (v := 77) hx hb d_M_clear_22 (by decide) ?_
            refine lv_goto hx hb d_M_clear_24 rfl ?_
            exact b33 _ ih _ _ _ I_p0 f_p0_file x1 x2 77 x2 hP hD hS (lv_sub hl [0, 1, 2] rfl) hw
  intro ls hl hP hD hS
  have hl : lv_has ls 3 [(0, .ref a_p0), (1, .int x1)] := hl
  unfold wp_M_clear at hw
  refine lv_iconst (v := 0) hx hb d_M_clear_0 (by decide) ?_
  refine lv_istore_n (lv' := [(2, .int 0), (0, .ref a_p0), (1, .int x1)]) hx hb d_M_clear_1 rfl hl (by decide) rfl (fun ls hl => ?_)
  obtain ⟨n1, hw⟩ := hw
  exact l2 n1 _ _ _ I_p0 f_p0_file x1 0 hP hD hS (lv_sub hl [1, 2, 0] rfl) hw
theorem d_M_init_0 : decode b_M_init 0 = .ok (.aload_n 0, 1) := by decide +kernel
theorem d_M_init_1 : decode b_M_init 1 = .ok (.invokespecial 1, 3) := by decide +kernel
theorem d_M_init_4 : decode b_M_init 4 = .ok (.aload_n 0, 1) := by decide +kernel
theorem d_M_init_5 : decode b_M_init 5 = .ok (.sipush 2000, 3) := by decide +kernel
theorem d_M_init_8 : decode b_M_init 8 = .ok (.newarray .int, 2) := by decide +kernel
theorem d_M_init_10 : decode b_M_init 10 = .ok (.putfield 7, 3) := by decide +kernel
theorem d_M_init_13 : decode b_M_init 13 = .ok (.aload_n 0, 1) := by decide +kernel
theorem d_M_init_14 : decode b_M_init 14 = .ok (.iconst 1, 1) := by decide +kernel
theorem d_M_init_15 : decode b_M_init 15 = .ok (.putfield 13, 3) := by decide +kernel
theorem d_M_init_18 : decode b_M_init 18 = .ok (.aload_n 0, 1) := by decide +kernel
theorem d_M_init_19 : decode b_M_init 19 = .ok (.iconst 1, 1) := by decide +kernel
theorem d_M_init_20 : decode b_M_init 20 = .ok (.putfield 17, 3) := by decide +kernel
theorem d_M_init_23 : decode b_M_init 23 = .ok (.aload_n 0, 1) := by decide +kernel
theorem d_M_init_24 : decode b_M_init 24 = .ok (.iconst 1, 1) := by decide +kernel
theorem d_M_init_25 : decode b_M_init 25 = .ok (.putfield 20, 3) := by decide +kernel
theorem d_M_init_28 : decode b_M_init 28 = .ok (.aload_n 0, 1) := by decide +kernel
theorem d_M_init_29 : decode b_M_init 29 = .ok (.sipush 256, 3) := by decide +kernel
theorem d_M_init_32 : decode b_M_init 32 = .ok (.newarray .int, 2) := by decide +kernel
theorem d_M_init_34 : decode b_M_init 34 = .ok (.putfield 23, 3) := by decide +kernel
theorem d_M_init_37 : decode b_M_init 37 = .ok (.aload_n 0, 1) := by decide +kernel
theorem d_M_init_38 : decode b_M_init 38 = .ok (.iconst 2, 1) := by decide +kernel
theorem d_M_init_39 : decode b_M_init 39 = .ok (.newarray .int, 2) := by decide +kernel
theorem d_M_init_41 : decode b_M_init 41 = .ok (.putfield 26, 3) := by decide +kernel
theorem d_M_init_44 : decode b_M_init 44 = .ok (.aload_n 0, 1) := by decide +kernel
theorem d_M_init_45 : decode b_M_init 45 = .ok (.iconst 2, 1) := by decide +kernel
theorem d_M_init_46 : decode b_M_init 46 = .ok (.newarray .int, 2) := by decide +kernel
theorem d_M_init_48 : decode b_M_init 48 = .ok (.putfield 29, 3) := by decide +kernel
theorem d_M_init_51 : decode b_M_init 51 = .ok (.aload_n 0, 1) := by decide +kernel
theorem d_M_init_52 : decode b_M_init 52 = .ok (.bipush 24, 2) := by decide +kernel
theorem d_M_init_54 : decode b_M_init 54 = .ok (.newarray .int, 2) := by decide +kernel
theorem d_M_init_56 : decode b_M_init 56 = .ok (.putfield 32, 3) := by decide +kernel
theorem d_M_init_59 : decode b_M_init 59 = .ok (.aload_n 0, 1) := by decide +kernel
theorem d_M_init_60 : decode b_M_init 60 = .ok (.bipush 8, 2) := by decide +kernel
theorem d_M_init_62 : decode b_M_init 62 = .ok (.newarray .int, 2) := by decide +kernel
theorem d_M_init_64 : decode b_M_init 64 = .ok (.putfield 35, 3) := by decide +kernel
theorem d_M_init_67 : decode b_M_init 67 = .ok (.aload_n 0, 1) := by decide +kernel
theorem d_M_init_68 : decode b_M_init 68 = .ok (.sipush 256, 3) := by decide +kernel
theorem d_M_init_71 : decode b_M_init 71 = .ok (.newarray .int, 2) := by decide +kernel
theorem d_M_init_73 : decode b_M_init 73 = .ok (.putfield 38, 3) := by decide +kernel
theorem d_M_init_76 : decode b_M_init 76 = .ok (.aload_n 0, 1) := by decide +kernel
theorem d_M_init_77 : decode b_M_init 77 = .ok (.sipush 512, 3) := by decide +kernel
theorem d_M_init_80 : decode b_M_init 80 = .ok (.newarray .int, 2) := by decide +kernel
theorem d_M_init_82 : decode b_M_init 82 = .ok (.putfield 41, 3) := by decide +kernel
theorem d_M_init_85 : decode b_M_init 85 = .ok (.aload_n 0, 1) := by decide +kernel
theorem d_M_init_86 : decode b_M_init 86 = .ok (.bipush 120, 2) := by decide +kernel
theorem d_M_init_88 : decode b_M_init 88 = .ok (.newarray .int, 2) := by decide +kernel
theorem d_M_init_90 : decode b_M_init 90 = .ok (.putfield 44, 3) := by decide +kernel
theorem d_M_init_93 : decode b_M_init 93 = .ok (.aload_n 0, 1) := by decide +kernel
theorem d_M_init_94 : decode b_M_init 94 = .ok (.bipush 120, 2) := by decide +kernel
theorem d_M_init_96 : decode b_M_init 96 = .ok (.newarray .int, 2) := by decide +kernel
theorem d_M_init_98 : decode b_M_init 98 = .ok (.putfield 47, 3) := by decide +kernel
theorem d_M_init_101 : decode b_M_init 101 = .ok (.aload_n 0, 1) := by decide +kernel
theorem d_M_init_102 : decode b_M_init 102 = .ok (.bipush 16, 2) := by decide +kernel
theorem d_M_init_104 : decode b_M_init 104 = .ok (.newarray .int, 2) := by decide +kernel
theorem d_M_init_106 : decode b_M_init 106 = .ok (.putfield 50, 3) := by decide +kernel
theorem d_M_init_109 : decode b_M_init 109 = .ok (.aload_n 0, 1) := by decide +kernel
theorem d_M_init_110 : decode b_M_init 110 = .ok (.bipush 16, 2) := by decide +kernel
theorem d_M_init_112 : decode b_M_init 112 = .ok (.newarray .int, 2) := by decide +kernel
theorem d_M_init_114 : decode b_M_init 114 = .ok (.putfield 53, 3) := by decide +kernel
theorem d_M_init_117 : decode b_M_init 117 = .ok (.aload_n 0, 1) := by decide +kernel
theorem d_M_init_118 : decode b_M_init 118 = .ok (.sipush 256, 3) := by decide +kernel
theorem d_M_init_121 : decode b_M_init 121 = .ok (.newarray .int, 2) := by decide +kernel
theorem d_M_init_123 : decode b_M_init 123 = .ok (.putfield 56, 3) := by decide +kernel
theorem d_M_init_126 : decode b_M_init 126 = .ok (.aload_n 0, 1) := by decide +kernel
theorem d_M_init_127 : decode b_M_init 127 = .ok (.iconst 0, 1) := by decide +kernel
theorem d_M_init_128 : decode b_M_init 128 = .ok (.invokevirtual 59, 3) := by decide +kernel
theorem d_M_init_131 : decode b_M_init 131 = .ok (.return_, 1) := by decide +kernel
def wp_M_init (post : (Nat → Int32) → (Nat → Int32) → (Nat → Int32) → (Nat → Int32) → (Nat → Int32) → (Nat → Int32) → (Nat → Int32) → (Nat → Int32) → (Nat → Int32) → (Nat → Int32) → (Nat → Int32) → (Nat → Int32) → (Nat → Int32) → (Nat → Int32) → Prop) : Prop :=
  wp_M_clear (fun (I_p0_128 : Nat → Int32) (f_p0_file_128 : Nat → Int32) =>
    post (gi [0, (I_p0_128 1), (I_p0_128 2), (I_p0_128 3), (I_p0_128 4), (I_p0_128 5), 0, (I_p0_128 7), 0, 0, 0, (I_p0_128 11), (I_p0_128 12), 0, (I_p0_128 14), 0, 0, 0, 0, (I_p0_128 19), (I_p0_128 20), 0, 0, (I_p0_128 23), (I_p0_128 24), (I_p0_128 25), (I_p0_128 26), (I_p0_128 27), (I_p0_128 28), 0]) (fun _ => 0) (fun _ => 0) f_p0_file_128 (fun _ => 0) (fun _ => 0) (fun _ => 0) (fun _ => 0) (fun _ => 0) (fun _ => 0) (fun _ => 0) (fun _ => 0) (fun _ => 0) (fun _ => 0)) (gi [0, 0, 0, 1, 1, 1, 0, 0, 0, 0, 0, 0, 0, 0, 0, 0, 0, 0, 0, 0, 0, 0, 0, 0, 0, 0, 0, 0, 0, 0]) (fun _ => 0) 0
set_option maxRecDepth 100000 in
set_option maxHeartbeats 8000000 in
theorem c_M_init (l : Launch) (dC : Nat → ClassId) (dI : Nat → Nat → Nat) (cI : ClassId) (a_p0 : Nat) {post : (Nat → Int32) → (Nat → Int32) → (Nat → Int32) → (Nat → Int32) → (Nat → Int32) → (Nat → Int32) → (Nat → Int32) → (Nat → Int32) → (Nat → Int32) → (Nat → Int32) → (Nat → Int32) → (Nat → Int32) → (Nat → Int32) → (Nat → Int32) → Prop} (hw : wp_M_init post) : gm_v l y_M_init ws_M_init ({ frames := 1, cells := 13, slots := 3588, locals := 22 } : Room) (dC, dI) vwCl [(cI, .int)] [.ref a_p0] [(a_p0, .inr (10, [.null, .int 0, .int 0, .int 0, .int 0, .int 0, .null, .int 0, .null, .null, .null, .int 0, .int 0, .null, .int 0, .null, .null, .null, .null, .int 0, .int 0, .null, .null, .int 0, .int 0, .int 0, .int 0, .int 0, .int 0, .null]))] (fun (u : (Nat → Nat) × (Nat → Int32) × (Nat → Int32) × (Nat → Int32) × (Nat → Int32) × (Nat → Int32) × (Nat → Int32) × (Nat → Int32) × (Nat → Int32) × (Nat → Int32) × (Nat → Int32) × (Nat → Int32) × (Nat → Int32) × (Nat → Int32) × (Nat → Int32)) => [oM a_p0 u.1 u.2.1, gz cI (u.1 15) 256 u.2.2.1, gz cI (u.1 13) 8 u.2.2.2.1, gz cI (u.1 0) 2000 u.2.2.2.2.1, gz cI (u.1 9) 2 u.2.2.2.2.2.1, gz cI (u.1 10) 24 u.2.2.2.2.2.2.1, gz cI (u.1 18) 120 u.2.2.2.2.2.2.2.1, gz cI (u.1 29) 256 u.2.2.2.2.2.2.2.2.1, gz cI (u.1 16) 512 u.2.2.2.2.2.2.2.2.2.1, gz cI (u.1 21) 16 u.2.2.2.2.2.2.2.2.2.2.1, gz cI (u.1 6) 256 u.2.2.2.2.2.2.2.2.2.2.2.1, gz cI (u.1 22) 16 u.2.2.2.2.2.2.2.2.2.2.2.2.1, gz cI (u.1 17) 120 u.2.2.2.2.2.2.2.2.2.2.2.2.2.1, gz cI (u.1 8) 2 u.2.2.2.2.2.2.2.2.2.2.2.2.2.2]) (fun (u : (Nat → Nat) × (Nat → Int32) × (Nat → Int32) × (Nat → Int32) × (Nat → Int32) × (Nat → Int32) × (Nat → Int32) × (Nat → Int32) × (Nat → Int32) × (Nat → Int32) × (Nat → Int32) × (Nat → Int32) × (Nat → Int32) × (Nat → Int32) × (Nat → Int32)) => post u.2.1 u.2.2.1 u.2.2.2.1 u.2.2.2.2.1 u.2.2.2.2.2.1 u.2.2.2.2.2.2.1 u.2.2.2.2.2.2.2.1 u.2.2.2.2.2.2.2.2.1 u.2.2.2.2.2.2.2.2.2.1 u.2.2.2.2.2.2.2.2.2.2.1 u.2.2.2.2.2.2.2.2.2.2.2.1 u.2.2.2.2.2.2.2.2.2.2.2.2.1 u.2.2.2.2.2.2.2.2.2.2.2.2.2.1 u.2.2.2.2.2.2.2.2.2.2.2.2.2.2) := by
  refine gm_vof (cc := b_M_init) (maxL := 1) (by decide) rfl (Nat.le_of_ble_eq_true rfl) ?_
  intro p e s m args below meth c A Q hx hb hml hown hg hK hN hA hnm hret
  have hown : s.vm.findClass R_M = some m.cls := hown
  intro ls hl hP hD hS
  have hl : lv_has ls 1 [(0, .ref a_p0)] := hl
  unfold wp_M_init at hw
  refine lv_aload_n hx hb d_M_init_0 rfl (lv_at hl 0 rfl) ?_
  refine W.objInit hx hb hown (hg _ t_753) (hg _ t_80) (hg _ t_81) rfl (by rw [hml]; exact hl.1) rfl d_M_init_1 (Nat.le_of_ble_eq_true rfl) (Nat.le_of_ble_eq_true rfl) ?_
  refine W.eq (g2 := F0 m 4 ls []) rfl ?_
  refine lv_aload_n hx hb d_M_init_4 rfl (lv_at hl 0 rfl) ?_
  refine lv_sipush (v := 2000) hx hb d_M_init_5 (by decide) ?_
  refine va_newa (atype := .int) (n := 2000) (N' := 2000) (ty := .int) (a0 := (2000, .inl (fun _ => 0))) hx hb (hg _ t_105) rfl hK hP hD hS hA (fun _ => rfl) (by decide) (by decide) (by decide) (Nat.le_of_ble_eq_true rfl) (Nat.le_of_ble_eq_true rfl) d_M_init_8 (fun a_n8 cA H hK1 hP hD hS => ?_)
  rw [gk_same hK1] at hP hD
  have hP : va_P (dC, dI) vwCl [(a_p0, .inr (10, [.null, .int 0, .int 0, .int 0, .int 0, .int 0, .null, .int 0, .null, .null, .null, .int 0, .int 0, .null, .int 0, .null, .null, .null, .null, .int 0, .int 0, .null, .null, .int 0, .int 0, .int 0, .int 0, .int 0, .int 0, .null])), gz cI a_n8 2000 (fun _ => 0)] H := hP
  have hD : va_D A [(a_p0, .inr (10, [.null, .int 0, .int 0, .int 0, .int 0, .int 0, .null, .int 0, .null, .null, .null, .int 0, .int 0, .null, .int 0, .null, .null, .null, .null, .int 0, .int 0, .null, .null, .int 0, .int 0, .int 0, .int 0, .int 0, .int 0, .null])), gz cI a_n8 2000 (fun _ => 0)] := hD
  refine va_put (D := (dC, dI)) (ci := 10) (v := .ref a_n8) (ty := (.array .int)) (C := R_M) (T := T_M) (N := 30) hx hb hg in_M t_M tok_M nok_M hown hK hP hD hS 0 rfl rfl 0 (by decide) (hg _ t_758) (fun _ h9 => h9) rfl (by decide +kernel) rfl rfl (Nat.le_of_ble_eq_true rfl) d_M_init_10 (fun H locs hP hD hS => ?_)
  have hP : va_P (dC, dI) vwCl [(a_p0, .inr (10, [.ref a_n8, .int 0, .int 0, .int 0, .int 0, .int 0, .null, .int 0, .null, .null, .null, .int 0, .int 0, .null, .int 0, .null, .null, .null, .null, .int 0, .int 0, .null, .null, .int 0, .int 0, .int 0, .int 0, .int 0, .int 0, .null])), gz cI a_n8 2000 (fun _ => 0)] H := hP
  have hD : va_D A [(a_p0, .inr (10, [.ref a_n8, .int 0, .int 0, .int 0, .int 0, .int 0, .null, .int 0, .null, .null, .null, .int 0, .int 0, .null, .int 0, .null, .null, .null, .null, .int 0, .int 0, .null, .null, .int 0, .int 0, .int 0, .int 0, .int 0, .int 0, .null])), gz cI a_n8 2000 (fun _ => 0)] := hD
  refine lv_aload_n hx hb d_M_init_13 rfl (lv_at hl 0 rfl) ?_
  refine lv_iconst (v := 1) hx hb d_M_init_14 (by decide) ?_
  refine va_put (D := (dC, dI)) (ci := 10) (v := .int 1) (ty := .int) (C := R_M) (T := T_M) (N := 30) hx hb hg in_M t_M tok_M nok_M hown hK hP hD hS 0 rfl rfl 3 (by decide) (hg _ t_761) (fun _ h9 => h9) rfl (by decide +kernel) rfl rfl (Nat.le_of_ble_eq_true rfl) d_M_init_15 (fun H locs hP hD hS => ?_)
  have hP : va_P (dC, dI) vwCl [(a_p0, .inr (10, [.ref a_n8, .int 0, .int 0, .int 1, .int 0, .int 0, .null, .int 0, .null, .null, .null, .int 0, .int 0, .null, .int 0, .null, .null, .null, .null, .int 0, .int 0, .null, .null, .int 0, .int 0, .int 0, .int 0, .int 0, .int 0, .null])), gz cI a_n8 2000 (fun _ => 0)] H := hP
  have hD : va_D A [(a_p0, .inr (10, [.ref a_n8, .int 0, .int 0, .int 1, .int 0, .int 0, .null, .int 0, .null, .null, .null, .int 0, .int 0, .null, .int 0, .null, .null, .null, .null, .int 0, .int 0, .null, .null, .int 0, .int 0, .int 0, .int 0, .int 0, .int 0, .null])), gz cI a_n8 2000 (fun _ => 0)] := hD
  refine lv_aload_n hx hb d_M_init_18 rfl (lv_at hl 0 rfl) ?_
  refine lv_iconst (v := 1) hx hb d_M_init_19 (by decide) ?_
  refine va_put (D := (dC, dI)) (ci := 10) (v := .int 1) (ty := .int) (C := R_M) (T := T_M) (N := 30) hx hb hg in_M t_M tok_M nok_M hown hK hP hD hS 0 rfl rfl 4 (by decide) (hg _ t_762) (fun _ h9 => h9) rfl (by decide +kernel) rfl rfl (Nat.le_of_ble_eq_true rfl) d_M_init_20 (fun H locs hP hD hS => ?_)
  have hP : va_P (dC, dI) vwCl [(a_p0, .inr (10, [.ref a_n8, .int 0, .int 0, .int 1, .int 1, .int 0, .null, .int 0, .null, .null, .null, .int 0, .int 0, .null, .int 0, .null, .null, .null, .null, .int 0, .int 0, .null, .null, .int 0, .int 0, .int 0, .int 0, .int 0, .int 0, .null])), gz cI a_n8 2000 (fun _ => 0)] H := hP
  have hD : va_D A [(a_p0, .inr (10, [.ref a_n8, .int 0, .int 0, .int 1, .int 1, .int 0, .null, .int 0, .null, .null, .null, .int 0, .int 0, .null, .int 0, .null, .null, .null, .null, .int 0, .int 0, .null, .null, .int 0, .int 0, .int 0, .int 0, .int 0, .int 0, .null])), gz cI a_n8 2000 (fun _ => 0)] := hD
  refine lv_aload_n hx hb d_M_init_23 rfl (lv_at hl 0 rfl) ?_
  refine lv_iconst (v := 1) hx hb d_M_init_24 (by decide) ?_
  refine va_put (D := (dC, dI)) (ci := 10) (v := .int 1) (ty := .int) (C := R_M) (T := T_M) (N := 30) hx hb hg in_M t_M tok_M nok_M hown hK hP hD hS 0 rfl rfl 5 (by decide) (hg _ t_763) (fun _ h9 => h9) rfl (by decide +kernel) rfl rfl (Nat.le_of_ble_eq_true rfl) d_M_init_25 (fun H locs hP hD hS => ?_)
  have hP : va_P (dC, dI) vwCl [(a_p0, .inr (10, [.ref a_n8, .int 0, .int 0, .int 1, .int 1, .int 1, .null, .int 0, .null, .null, .null, .int 0, .int 0, .null, .int 0, .null, .null, .null, .null, .int 0, .int 0, .null, .null, .int 0, .int 0, .int 0, .int 0, .int 0, .int 0, .null])), gz cI a_n8 2000 (fun _ => 0)] H := hP
  have hD : va_D A [(a_p0, .inr (10, [.ref a_n8, .int 0, .int 0, .int 1, .int 1, .int 1, .null, .int 0, .null, .null, .null, .int 0, .int 0, .null, .int 0, .null, .null, .null, .null, .int 0, .int 0, .null, .null, .int 0, .int 0, .int 0, .int 0, .int 0, .int 0, .null])), gz cI a_n8 2000 (fun _ => 0)] := hD
  refine lv_aload_n hx hb d_M_init_28 rfl (lv_at hl 0 rfl) ?_
  refine lv_sipush (v := 256) hx hb d_M_init_29 (by decide) ?_
  refine va_newa (atype := .int) (n := 256) (N' := 256) (ty := .int) (a0 := (256, .inl (fun _ => 0))) hx hb (hg _ t_105) rfl hK hP hD hS hA (fun _ => rfl) (by decide) (by decide) (by decide) (Nat.le_of_ble_eq_true rfl) (Nat.le_of_ble_eq_true rfl) d_M_init_32 (fun a_n32 cA H hK1 hP hD hS => ?_)
  rw [gk_same hK1] at hP hD
  have hP : va_P (dC, dI) vwCl [(a_p0, .inr (10, [.ref a_n8, .int 0, .int 0, .int 1, .int 1, .int 1, .null, .int 0, .null, .null, .null, .int 0, .int 0, .null, .int 0, .null, .null, .null, .null, .int 0, .int 0, .null, .null, .int 0, .int 0, .int 0, .int 0, .int 0, .int 0, .null])), gz cI a_n8 2000 (fun _ => 0), gz cI a_n32 256 (fun _ => 0)] H := hP
  have hD : va_D A [(a_p0, .inr (10, [.ref a_n8, .int 0, .int 0, .int 1, .int 1, .int 1, .null, .int 0, .null, .null, .null, .int 0, .int 0, .null, .int 0, .null, .null, .null, .null, .int 0, .int 0, .null, .null, .int 0, .int 0, .int 0, .int 0, .int 0, .int 0, .null])), gz cI a_n8 2000 (fun _ => 0), gz cI a_n32 256 (fun _ => 0)] := hD
  refine va_put (D := (dC, dI)) (ci := 10) (v := .ref a_n32) (ty := (.array .int)) (C := R_M) (T := T_M) (N := 30) hx hb hg in_M t_M tok_M nok_M hown hK hP hD hS 0 rfl rfl 6 (by decide) (hg _ t_764) (fun _ h9 => h9) rfl (by decide +kernel) rfl rfl (Nat.le_of_ble_eq_true rfl) d_M_init_34 (fun H locs hP hD hS => ?_)
  have hP : va_P (dC, dI) vwCl [(a_p0, .inr (10, [.ref a_n8, .int 0, .int 0, .int 1, .int 1, .int 1, .ref a_n32, .int 0, .null, .null, .null, .int 0, .int 0, .null, .int 0, .null, .null, .null, .null, .int 0, .int 0, .null, .null, .int 0, .int 0, .int 0, .int 0, .int 0, .int 0, .null])), gz cI a_n8 2000 (fun _ => 0), gz cI a_n32 256 (fun _ => 0)] H := hP
  have hD : va_D A [(a_p0, .inr (10, [.ref a_n8, .int 0, .int 0, .int 1, .int 1, .int 1, .ref a_n32, .int 0, .null, .null, .null, .int 0, .int 0, .null, .int 0, .null, .null, .null, .null, .int 0, .int 0, .null, .null, .int 0, .int 0, .int 0, .int 0, .int 0, .int 0, .null])), gz cI a_n8 2000 (fun _ => 0), gz cI a_n32 256 (fun _ => 0)] := hD
  refine lv_aload_n hx hb d_M_init_37 rfl (lv_at hl 0 rfl) ?_
  refine lv_iconst (v := 2) hx hb d_M_init_38 (by decide) ?_
  refine va_newa (atype := .int) (n := 2) (N' := 2) (ty := .int) (a0 := (2, .inl (fun _ => 0))) hx hb (hg _ t_105) rfl hK hP hD hS hA (fun _ => rfl) (by decide) (by decide) (by decide) (Nat.le_of_ble_eq_true rfl) (Nat.le_of_ble_eq_true rfl) d_M_init_39 (fun a_n39 cA H hK1 hP hD hS => ?_)
  rw [gk_same hK1] at hP hD
  have hP : va_P (dC, dI) vwCl [(a_p0, .inr (10, [.ref a_n8, .int 0, .int 0, .int 1, .int 1, .int 1, .ref a_n32, .int 0, .null, .null, .null, .int 0, .int 0, .null, .int 0, .null, .null, .null, .null, .int 0, .int 0, .null, .null, .int 0, .int 0, .int 0, .int 0, .int 0, .int 0, .null])), gz cI a_n8 2000 (fun _ => 0), gz cI a_n32 256 (fun _ => 0), gz cI a_n39 2 (fun _ => 0)] H := hP
  have hD : va_D A [(a_p0, .inr (10, [.ref a_n8, .int 0, .int 0, .int 1, .int 1, .int 1, .ref a_n32, .int 0, .null, .null, .null, .int 0, .int 0, .null, .int 0, .null, .null, .null, .null, .int 0, .int 0, .null, .null, .int 0, .int 0, .int 0, .int 0, .int 0, .int 0, .null])), gz cI a_n8 2000 (fun _ => 0), gz cI a_n32 256 (fun _ => 0), gz cI a_n39 2 (fun _ => 0)] := hD
  refine va_put (D := (dC, dI)) (ci := 10) (v := .ref a_n39) (ty := (.array .int)) (C := R_M) (T := T_M) (N := 30) hx hb hg in_M t_M tok_M nok_M hown hK hP hD hS 0 rfl rfl 8 (by decide) (hg _ t_766) (fun _ h9 => h9) rfl (by decide +kernel) rfl rfl (Nat.le_of_ble_eq_true rfl) d_M_init_41 (fun H locs hP hD hS => ?_)
  have hP : va_P (dC, dI) vwCl [(a_p0, .inr (10, [.ref a_n8, .int 0, .int 0, .int 1, .int 1, .int 1, .ref a_n32, .int 0, .ref a_n39, .null, .null, .int 0, .int 0, .null, .int 0, .null, .null, .null, .null, .int 0, .int 0, .null, .null, .int 0, .int 0, .int 0, .int 0, .int 0, .int 0, .null])), gz cI a_n8 2000 (fun _ => 0), gz cI a_n32 256 (fun _ => 0), gz cI a_n39 2 (fun _ => 0)] H := hP
  have hD : va_D A [(a_p0, .inr (10, [.ref a_n8, .int 0, .int 0, .int 1, .int 1, .int 1, .ref a_n32, .int 0, .ref a_n39, .null, .null, .int 0, .int 0, .null, .int 0, .null, .null, .null, .null, .int 0, .int 0, .null, .null, .int 0, .int 0, .int 0, .int 0, .int 0, .int 0, .null])), gz cI a_n8 2000 (fun _ => 0), gz cI a_n32 256 (fun _ => 0), gz cI a_n39 2 (fun _ => 0)] := hD
  refine lv_aload_n hx hb d_M_init_44 rfl (lv_at hl 0 rfl) ?_
  refine lv_iconst (v := 2) hx hb d_M_init_45 (by decide) ?_
  refine va_newa (atype := .int) (n := 2) (N' := 2) (ty := .int) (a0 := (2, .inl (fun _ => 0))) hx hb (hg _ t_105) rfl hK hP hD hS hA (fun _ => rfl) (by decide) (by decide) (by decide) (Nat.le_of_ble_eq_true rfl) (Nat.le_of_ble_eq_true rfl) d_M_init_46 (fun a_n46 cA H hK1 hP hD hS => ?_)
  rw [gk_same hK1] at hP hD
  have hP : va_P (dC, dI) vwCl [(a_p0, .inr (10, [.ref a_n8, .int 0, .int 0, .int 1, .int 1, .int 1, .ref a_n32, .int 0, .ref a_n39, .null, .null, .int 0, .int 0, .null, .int 0, .null, .null, .null, .null, .int 0, .int 0, .null, .null, .int 0, .int 0, .int 0, .int 0, .int 0, .int 0, .null])), gz cI a_n8 2000 (fun _ => 0), gz cI a_n32 256 (fun _ => 0), gz cI a_n39 2 (fun _ => 0), gz cI a_n46 2 (fun _ => 0)] H := hP
  have hD : va_D A [(a_p0, .inr (10, [.ref a_n8, .int 0, .int 0, .int 1, .int 1, .int 1, .ref a_n32, .int 0, .ref a_n39, .null, .null, .int 0, .int 0, .null, .int 0, .null, .null, .null, .null, .int 0, .int 0, .null, .null, .int 0, .int 0, .int 0, .int 0, .int 0, .int 0, .null])), gz cI a_n8 2000 (fun _ => 0), gz cI a_n32 256 (fun _ => 0), gz cI a_n39 2 (fun _ => 0), gz cI a_n46 2 (fun _ => 0)] := hD
  refine va_put (D := (dC, dI)) (ci := 10) (v := .ref a_n46) (ty := (.array .int)) (C := R_M) (T := T_M) (N := 30) hx hb hg in_M t_M tok_M nok_M hown hK hP hD hS 0 rfl rfl 9 (by decide) (hg _ t_767) (fun _ h9 => h9) rfl (by decide +kernel) rfl rfl (Nat.le_of_ble_eq_true rfl) d_M_init_48 (fun H locs hP hD hS => ?_)
  have hP : va_P (dC, dI) vwCl [(a_p0, .inr (10, [.ref a_n8, .int 0, .int 0, .int 1, .int 1, .int 1, .ref a_n32, .int 0, .ref a_n39, .ref a_n46, .null, .int 0, .int 0, .null, .int 0, .null, .null, .null, .null, .int 0, .int 0, .null, .null, .int 0, .int 0, .int 0, .int 0, .int 0, .int 0, .null])), gz cI a_n8 2000 (fun _ => 0), gz cI a_n32 256 (fun _ => 0), gz cI a_n39 2 (fun _ => 0), gz cI a_n46 2 (fun _ => 0)] H := hP
  have hD : va_D A [(a_p0, .inr (10, [.ref a_n8, .int 0, .int 0, .int 1, .int 1, .int 1, .ref a_n32, .int 0, .ref a_n39, .ref a_n46, .null, .int 0, .int 0, .null, .int 0, .null, .null, .null, .null, .int 0, .int 0, .null, .null, .int 0, .int 0, .int 0, .int 0, .int 0, .int 0, .null])), gz cI a_n8 2000 (fun _ => 0), gz cI a_n32 256 (fun _ => 0), gz cI a_n39 2 (fun _ => 0), gz cI a_n46 2 (fun _ => 0)] := hD
  refine lv_aload_n hx hb d_M_init_51 rfl (lv_at hl 0 rfl) ?_
  refine lv_bipush (v := 24) hx hb d_M_init_52 (by decide) ?_
  refine va_newa (atype := .int) (n := 24) (N' := 24) (ty := .int) (a0 := (24, .inl (fun _ => 0))) hx hb (hg _ t_105) rfl hK hP hD hS hA (fun _ => rfl) (by decide) (by decide) (by decide) (Nat.le_of_ble_eq_true rfl) (Nat.le_of_ble_eq_true rfl) d_M_init_54 (fun a_n54 cA H hK1 hP hD hS => ?_)
  rw [gk_same hK1] at hP hD
  have hP : va_P (dC, dI) vwCl [(a_p0, .inr (10, [.ref a_n8, .int 0, .int 0, .int 1, .int 1, .int 1, .ref a_n32, .int 0, .ref a_n39, .ref a_n46, .null, .int 0, .int 0, .null, .int 0, .null, .null, .null, .null, .int 0, .int 0, .null, .null, .int 0, .int 0, .int 0, .int 0, .int 0, .int 0, .null])), gz cI a_n8 2000 (fun _ => 0), gz cI a_n32 256 (fun _ => 0), gz cI a_n39 2 (fun _ => 0), gz cI a_n46 2 (fun _ => 0), gz cI a_n54 24 (fun _ => 0)] H := hP
  have hD : va_D A [(a_p0, .inr (10, [.ref a_n8, .int 0, .int 0, .int 1, .int 1, .int 1, .ref a_n32, .int 0, .ref a_n39, .ref a_n46, .null, .int 0, .int 0, .null, .int 0, .null, .null, .null, .null, .int 0, .int 0, .null, .null, .int 0, .int 0, .int 0, .int 0, .int 0, .int 0, .null])), gz cI a_n8 2000 (fun _ => 0), gz cI a_n32 256 (fun _ => 0), gz cI a_n39 2 (fun _ => 0), gz cI a_n46 2 (fun _ => 0), gz cI a_n54 24 (fun _ => 0)] := hD
  refine va_put (D := (dC, dI)) (ci := 10) (v := .ref a_n54) (ty := (.array .int)) (C := R_M) (T := T_M) (N := 30) hx hb hg in_M t_M tok_M nok_M hown hK hP hD hS 0 rfl rfl 10 (by decide) (hg _ t_768) (fun _ h9 => h9) rfl (by decide +kernel) rfl rfl (Nat.le_of_ble_eq_true rfl) d_M_init_56 (fun H locs hP hD hS => ?_)
  have hP : va_P (dC, dI) vwCl [(a_p0, .inr (10, [.ref a_n8, .int 0, .int 0, .int 1, .int 1, .int 1, .ref a_n32, .int 0, .ref a_n39, .ref a_n46, .ref a_n54, .int 0, .int 0, .null, .int 0, .null, .null, .null, .null, .int 0, .int 0, .null, .null, .int 0, .int 0, .int 0, .int 0, .int 0, .int 0, .null])), gz cI a_n8 2000 (fun _ => 0), gz cI a_n32 256 (fun _ => 0), gz cI a_n39 2 (fun _ => 0), gz cI a_n46 2 (fun _ => 0), gz cI a_n54 24 (fun _ => 0)] H := hP
  have hD : va_D A [(a_p0, .inr (10, [.ref a_n8, .int 0, .int 0, .int 1, .int 1, .int 1, .ref a_n32, .int 0, .ref a_n39, .ref a_n46, .ref a_n54, .int 0, .int 0, .null, .int 0, .null, .null, .null, .null, .int 0, .int 0, .null, .null, .int 0, .int 0, .int 0, .int 0, .int 0, .int 0, .null])), gz cI a_n8 2000 (fun _ => 0), gz cI a_n32 256 (fun _ => 0), gz cI a_n39 2 (fun _ => 0), gz cI a_n46 2 (fun _ => 0), gz cI a_n54 24 (fun _ => 0)] := hD
  refine lv_aload_n hx hb d_M_init_59 rfl (lv_at hl 0 rfl) ?_
  refine lv_bipush (v := 8) hx hb d_M_init_60 (by decide) ?_
  refine va_newa (atype := .int) (n := 8) (N' := 8) (ty := .int) (a0 := (8, .inl (fun _ => 0))) hx hb (hg _ t_105) rfl hK hP hD hS hA (fun _ => rfl) (by decide) (by decide) (by decide) (Nat.le_of_ble_eq_true rfl) (Nat.le_of_ble_eq_true rfl) d_M_init_62 (fun a_n62 cA H hK1 hP hD hS => ?_)
  rw [gk_same hK1] at hP hD
  have hP : va_P (dC, dI) vwCl [(a_p0, .inr (10, [.ref a_n8, .int 0, .int 0, .int 1, .int 1, .int 1, .ref a_n32, .int 0, .ref a_n39, .ref a_n46, .ref a_n54, .int 0, .int 0, .null, .int 0, .null, .null, .null, .null, .int 0, .int 0, .null, .null, .int 0, .int 0, .int 0, .int 0, .int 0, .int 0, .null])), gz cI a_n8 2000 (fun _ => 0), gz cI a_n32 256 (fun _ => 0), gz cI a_n39 2 (fun _ => 0), gz cI a_n46 2 (fun _ => 0), gz cI a_n54 24 (fun _ => 0), gz cI a_n62 8 (fun _ => 0)] H := hP
  have hD : va_D A [(a_p0, .inr (10, [.ref a_n8, .int 0, .int 0, .int 1, .int 1, .int 1, .ref a_n32, .int 0, .ref a_n39, .ref a_n46, .ref a_n54, .int 0, .int 0, .null, .int 0, .null, .null, .null, .null, .int 0, .int 0, .null, .null, .int 0, .int 0, .int 0, .int 0, .int 0, .int 0, .null])), gz cI a_n8 2000 (fun _ => 0), gz cI a_n32 256 (fun _ => 0), gz cI a_n39 2 (fun _ => 0), gz cI a_n46 2 (fun _ => 0), gz cI a_n54 24 (fun _ => 0), gz cI a_n62 8 (fun _ => 0)] := hD
  refine va_put (D := (dC, dI)) (ci := 10) (v := .ref a_n62) (ty := (.array .int)) (C := R_M) (T := T_M) (N := 30) hx hb hg in_M t_M tok_M nok_M hown hK hP hD hS 0 rfl rfl 13 (by decide) (hg _ t_771) (fun _ h9 => h9) rfl (by decide +kernel) rfl rfl (Nat.le_of_ble_eq_true rfl) d_M_init_64 (fun H locs hP hD hS => ?_)
  have hP : va_P (dC, dI) vwCl [(a_p0, .inr (10, [.ref a_n8, .int 0, .int 0, .int 1, .int 1, .int 1, .ref a_n32, .int 0, .ref a_n39, .ref a_n46, .ref a_n54, .int 0, .int 0, .ref a_n62, .int 0, .null, .null, .null, .null, .int 0, .int 0, .null, .null, .int 0, .int 0, .int 0, .int 0, .int 0, .int 0, .null])), gz cI a_n8 2000 (fun _ => 0), gz cI a_n32 256 (fun _ => 0), gz cI a_n39 2 (fun _ => 0), gz cI a_n46 2 (fun _ => 0), gz cI a_n54 24 (fun _ => 0), gz cI a_n62 8 (fun _ => 0)] H := hP
  have hD : va_D A [(a_p0, .inr (10, [.ref a_n8, .int 0, .int 0, .int 1, .int 1, .int 1, .ref a_n32, .int 0, .ref a_n39, .ref a_n46, .ref a_n54, .int 0, .int 0, .ref a_n62, .int 0, .null, .null, .null, .null, .int 0, .int 0, .null, .null, .int 0, .int 0, .int 0, .int 0, .int 0, .int 0, .null])), gz cI a_n8 2000 (fun _ => 0), gz cI a_n32 256 (fun _ => 0), gz cI a_n39 2 (fun _ => 0), gz cI a_n46 2 (fun _ => 0), gz cI a_n54 24 (fun _ => 0), gz cI a_n62 8 (fun _ => 0)] := hD
  refine lv_aload_n hx hb d_M_init_67 rfl (lv_at hl 0 rfl) ?_
  refine lv_sipush (v := 256) hx hb d_M_init_68 (by decide) ?_
  refine va_newa (atype := .int) (n := 256) (N' := 256) (ty := .int) (a0 := (256, .inl (fun _ => 0))) hx hb (hg _ t_105) rfl hK hP hD hS hA (fun _ => rfl) (by decide) (by decide) (by decide) (Nat.le_of_ble_eq_true rfl) (Nat.le_of_ble_eq_true rfl) d_M_init_71 (fun a_n71 cA H hK1 hP hD hS => ?_)
  rw [gk_same hK1] at hP hD
  have hP : va_P (dC, dI) vwCl [(a_p0, .inr (10, [.ref a_n8, .int 0, .int 0, .int 1, .int 1, .int 1, .ref a_n32, .int 0, .ref a_n39, .ref a_n46, .ref a_n54, .int 0, .int 0, .ref a_n62, .int 0, .null, .null, .null, .null, .int 0, .int 0, .null, .null, .int 0, .int 0, .int 0, .int 0, .int 0, .int 0, .null])), gz cI a_n8 2000 (fun _ => 0), gz cI a_n32 256 (fun _ => 0), gz cI a_n39 2 (fun _ => 0), gz cI a_n46 2 (fun _ => 0), gz cI a_n54 24 (fun _ => 0), gz cI a_n62 8 (fun _ => 0), gz cI a_n71 256 (fun _ => 0)] H := hP
  have hD : va_D A [(a_p0, .inr (10, [.ref a_n8, .int 0, .int 0, .int 1, .int 1, .int 1, .ref a_n32, .int 0, .ref a_n39, .ref a_n46, .ref a_n54, .int 0, .int 0, .ref a_n62, .int 0, .null, .null, .null, .null, .int 0, .int 0, .null, .null, .int 0, .int 0, .int 0, .int 0, .int 0, .int 0, .null])), gz cI a_n8 2000 (fun _ => 0), gz cI a_n32 256 (fun _ => 0), gz cI a_n39 2 (fun _ => 0), gz cI a_n46 2 (fun _ => 0), gz cI a_n54 24 (fun _ => 0), gz cI a_n62 8 (fun _ => 0), gz cI a_n71 256 (fun _ => 0)] := hD
  refine va_put (D := (dC, dI)) (ci := 10) (v := .ref a_n71) (ty := (.array .int)) (C := R_M) (T := T_M) (N := 30) hx hb hg in_M t_M tok_M nok_M hown hK hP hD hS 0 rfl rfl 15 (by decide) (hg _ t_773) (fun _ h9 => h9) rfl (by decide +kernel) rfl rfl (Nat.le_of_ble_eq_true rfl) d_M_init_73 (fun H locs hP hD hS => ?_)
  have hP : va_P (dC, dI) vwCl [(a_p0, .inr (10, [.ref a_n8, .int 0, .int 0, .int 1, .int 1, .int 1, .ref a_n32, .int 0, .ref a_n39, .ref a_n46, .ref a_n54, .int 0, .int 0, .ref a_n62, .int 0, .ref a_n71, .null, .null, .null, .int 0, .int 0, .null, .null, .int 0, .int 0, .int 0, .int 0, .int 0, .int 0, .null])), gz cI a_n8 2000 (fun _ => 0), gz cI a_n32 256 (fun _ => 0), gz cI a_n39 2 (fun _ => 0), gz cI a_n46 2 (fun _ => 0), gz cI a_n54 24 (fun _ => 0), gz cI a_n62 8 (fun _ => 0), gz cI a_n71 256 (fun _ => 0)] H := hP
  have hD : va_D A [(a_p0, .inr (10, [.ref a_n8, .int 0, .int 0, .int 1, .int 1, .int 1, .ref a_n32, .int 0, .ref a_n39, .ref a_n46, .ref a_n54, .int 0, .int 0, .ref a_n62, .int 0, .ref a_n71, .null, .null, .null, .int 0, .int 0, .null, .null, .int 0, .int 0, .int 0, .int 0, .int 0, .int 0, .null])), gz cI a_n8 2000 (fun _ => 0), gz cI a_n32 256 (fun _ => 0), gz cI a_n39 2 (fun _ => 0), gz cI a_n46 2 (fun _ => 0), gz cI a_n54 24 (fun _ => 0), gz cI a_n62 8 (fun _ => 0), gz cI a_n71 256 (fun _ => 0)] := hD
  refine lv_aload_n hx hb d_M_init_76 rfl (lv_at hl 0 rfl) ?_
  refine lv_sipush (v := 512) hx hb d_M_init_77 (by decide) ?_
  refine va_newa (atype := .int) (n := 512) (N' := 512) (ty := .int) (a0 := (512, .inl (fun _ => 0))) hx hb (hg _ t_105) rfl hK hP hD hS hA (fun _ => rfl) (by decide) (by decide) (by decide) (Nat.le_of_ble_eq_true rfl) (Nat.le_of_ble_eq_true rfl) d_M_init_80 (fun a_n80 cA H hK1 hP hD hS => ?_)
  rw [gk_same hK1] at hP hD
  have hP : va_P (dC, dI) vwCl [(a_p0, .inr (10, [.ref a_n8, .int 0, .int 0, .int 1, .int 1, .int 1, .ref a_n32, .int 0, .ref a_n39, .ref a_n46, .ref a_n54, .int 0, .int 0, .ref a_n62, .int 0, .ref a_n71, .null, .null, .null, .int 0, .int 0, .null, .null, .int 0, .int 0, .int 0, .int 0, .int 0, .int 0, .null])), gz cI a_n8 2000 (fun _ => 0), gz cI a_n32 256 (fun _ => 0), gz cI a_n39 2 (fun _ => 0), gz cI a_n46 2 (fun _ => 0), gz cI a_n54 24 (fun _ => 0), gz cI a_n62 8 (fun _ => 0), gz cI a_n71 256 (fun _ => 0), gz cI a_n80 512 (fun _ => 0)] H := hP
  have hD : va_D A [(a_p0, .inr (10, [.ref a_n8, .int 0, .int 0, .int 1, .int 1, .int 1, .ref a_n32, .int 0, .ref a_n39, .ref a_n46, .ref a_n54, .int 0, .int 0, .ref a_n62, .int 0, .ref a_n71, .null, .null, .null, .int 0, .int 0, .null, .null, .int 0, .int 0, .int 0, .int 0, .int 0, .int 0, .null])), gz cI a_n8 2000 (fun _ => 0), gz cI a_n32 256 (fun _ => 0), gz cI a_n39 2 (fun _ => 0), gz cI a_n46 2 (fun _ => 0), gz cI a_n54 24 (fun _ => 0), gz cI a_n62 8 (fun _ => 0), gz cI a_n71 256 (fun _ => 0), gz cI a_n80 512 (fun _ => 0)] := hD
  refine va_put (D := (dC, dI)) (ci := 10) (v := .ref a_n80) (ty := (.array .int)) (C := R_M) (T := T_M) (N := 30) hx hb hg in_M t_M tok_M nok_M hown hK hP hD hS 0 rfl rfl 16 (by decide) (hg _ t_774) (fun _ h9 => h9) rfl (by decide +kernel) rfl rfl (Nat.le_of_ble_eq_true rfl) d_M_init_82 (fun H locs hP hD hS => ?_)
  have hP : va_P (dC, dI) vwCl [(a_p0, .inr (10, [.ref a_n8, .int 0, .int 0, .int 1, .int 1, .int 1, .ref a_n32, .int 0, .ref a_n39, .ref a_n46, .ref a_n54, .int 0, .int 0, .ref a_n62, .int 0, .ref a_n71, .ref a_n80, .null, .null, .int 0, .int 0, .null, .null, .int 0, .int 0, .int 0, .int 0, .int 0, .int 0, .null])), gz cI a_n8 2000 (fun _ => 0), gz cI a_n32 256 (fun _ => 0), gz cI a_n39 2 (fun _ => 0), gz cI a_n46 2 (fun _ => 0), gz cI a_n54 24 (fun _ => 0), gz cI a_n62 8 (fun _ => 0), gz cI a_n71 256 (fun _ => 0), gz cI a_n80 512 (fun _ => 0)] H := hP
  have hD : va_D A [(a_p0, .inr (10, [.ref a_n8, .int 0, .int 0, .int 1, .int 1, .int 1, .ref a_n32, .int 0, .ref a_n39, .ref a_n46, .ref a_n54, .int 0, .int 0, .ref a_n62, .int 0, .ref a_n71, .ref a_n80, .null, .null, .int 0, .int 0, .null, .null, .int 0, .int 0, .int 0, .int 0, .int 0, .int 0, .null])), gz cI a_n8 2000 (fun _ => 0), gz cI a_n32 256 (fun _ => 0), gz cI a_n39 2 (fun _ => 0), gz cI a_n46 2 (fun _ => 0), gz cI a_n54 24 (fun _ => 0), gz cI a_n62 8 (fun _ => 0), gz cI a_n71 256 (fun _ => 0), gz cI a_n80 512 (fun _ => 0)] := hD
  refine lv_aload_n hx hb d_M_init_85 rfl (lv_at hl 0 rfl) ?_
  refine lv_bipush (v := 120) hx hb d_M_init_86 (by decide) ?_
  refine va_newa (atype := .int) (n := 120) (N' := 120) (ty := .int) (a0 := (120, .inl (fun _ => 0))) hx hb (hg _ t_105) rfl hK hP hD hS hA (fun _ => rfl) (by decide) (by decide) (by decide) (Nat.le_of_ble_eq_true rfl) (Nat.le_of_ble_eq_true rfl) d_M_init_88 (fun a_n88 cA H hK1 hP hD hS => ?_)
  rw [gk_same hK1] at hP hD
  have hP : va_P (dC, dI) vwCl [(a_p0, .inr (10, [.ref a_n8, .int 0, .int 0, .int 1, .int 1, .int 1, .ref a_n32, .int 0, .ref a_n39, .ref a_n46, .ref a_n54, .int 0, .int 0, .ref a_n62, .int 0, .ref a_n71, .ref a_n80, .null, .null, .int 0, .int 0, .null, .null, .int 0, .int 0, .int 0, .int 0, .int 0, .int 0, .null])), gz cI a_n8 2000 (fun _ => 0), gz cI a_n32 256 (fun _ => 0), gz cI a_n39 2 (fun _ => 0), gz cI a_n46 2 (fun _ => 0), gz cI a_n54 24 (fun _ => 0), gz cI a_n62 8 (fun _ => 0), gz cI a_n71 256 (fun _ => 0), gz cI a_n80 512 (fun _ => 0), gz cI a_n88 120 (fun _ => 0)] H := hP
  have hD : va_D A [(a_p0, .inr (10, [.ref a_n8, .int 0, .int 0, .int 1, .int 1, .int 1, .ref a_n32, .int 0, .ref a_n39, .ref a_n46, .ref a_n54, .int 0, .int 0, .ref a_n62, .int 0, .ref a_n71, .ref a_n80, .null, .null, .int 0, .int 0, .null, .null, .int 0, .int 0, .int 0, .int 0, .int 0, .int 0, .null])), gz cI a_n8 2000 (fun _ => 0), gz cI a_n32 256 (fun _ => 0), gz cI a_n39 2 (fun _ => 0), gz cI a_n46 2 (fun _ => 0), gz cI a_n54 24 (fun _ => 0), gz cI a_n62 8 (fun _ => 0), gz cI a_n71 256 (fun _ => 0), gz cI a_n80 512 (fun _ => 0), gz cI a_n88 120 (fun _ => 0)] := hD
  refine va_put (D := (dC, dI)) (ci := 10) (v := .ref a_n88) (ty := (.array .int)) (C := R_M) (T := T_M) (N := 30) hx hb hg in_M t_M tok_M nok_M hown hK hP hD hS 0 rfl rfl 17 (by decide) (hg _ t_775) (fun _ h9 => h9) rfl (by decide +kernel) rfl rfl (Nat.le_of_ble_eq_true rfl) d_M_init_90 (fun H locs hP hD hS => ?_)
  have hP : va_P (dC, dI) vwCl [(a_p0, .inr (10, [.ref a_n8, .int 0, .int 0, .int 1, .int 1, .int 1, .ref a_n32, .int 0, .ref a_n39, .ref a_n46, .ref a_n54, .int 0, .int 0, .ref a_n62, .int 0, .ref a_n71, .ref a_n80, .ref a_n88, .null, .int 0, .int 0, .null, .null, .int 0, .int 0, .int 0, .int 0, .int 0, .int 0, .null])), gz cI a_n8 2000 (fun _ => 0), gz cI a_n32 256 (fun _ => 0), gz cI a_n39 2 (fun _ => 0), gz cI a_n46 2 (fun _ => 0), gz cI a_n54 24 (fun _ => 0), gz cI a_n62 8 (fun _ => 0), gz cI a_n71 256 (fun _ => 0), gz cI a_n80 512 (fun _ => 0), gz cI a_n88 120 (fun _ => 0)] H := hP
  have hD : va_D A [(a_p0, .inr (10, [.ref a_n8, .int 0, .int 0, .int 1, .int 1, .int 1, .ref a_n32, .int 0, .ref a_n39, .ref a_n46, .ref a_n54, .int 0, .int 0, .ref a_n62, .int 0, .ref a_n71, .ref a_n80, .ref a_n88, .null, .int 0, .int 0, .null, .null, .int 0, .int 0, .int 0, .int 0, .int 0, .int 0, .null])), gz cI a_n8 2000 (fun _ => 0), gz cI a_n32 256 (fun _ => 0), gz cI a_n39 2 (fun _ => 0), gz cI a_n46 2 (fun _ => 0), gz cI a_n54 24 (fun _ => 0), gz cI a_n62 8 (fun _ => 0), gz cI a_n71 256 (fun _ => 0), gz cI a_n80 512 (fun _ => 0), gz cI a_n88 120 (fun _ => 0)] := hD
  refine lv_aload_n hx hb d_M_init_93 rfl (lv_at hl 0 rfl) ?_
  refine lv_bipush (v := 120) hx hb d_M_init_94 (by decide) ?_
  refine va_newa (atype := .int) (n := 120) (N' := 120) (ty := .int) (a0 := (120, .inl (fun _ => 0))) hx hb (hg _ t_105) rfl hK hP hD hS hA (fun _ => rfl) (by decide) (by decide) (by decide) (Nat.le_of_ble_eq_true rfl) (Nat.le_of_ble_eq_true rfl) d_M_init_96 (fun a_n96 cA H hK1 hP hD hS => ?_)
  rw [gk_same hK1] at hP hD
  have hP : va_P (dC, dI) vwCl [(a_p0, .inr (10, [.ref a_n8, .int 0, .int 0, .int 1, .int 1, .int 1, .ref a_n32, .int 0, .ref a_n39, .ref a_n46, .ref a_n54, .int 0, .int 0, .ref a_n62, .int 0, .ref a_n71, .ref a_n80, .ref a_n88, .null, .int 0, .int 0, .null, .null, .int 0, .int 0, .int 0, .int 0, .int 0, .int 0, .null])), gz cI a_n8 2000 (fun _ => 0), gz cI a_n32 256 (fun _ => 0), gz cI a_n39 2 (fun _ => 0), gz cI a_n46 2 (fun _ => 0), gz cI a_n54 24 (fun _ => 0), gz cI a_n62 8 (fun _ => 0), gz cI a_n71 256 (fun _ => 0), gz cI a_n80 512 (fun _ => 0), gz cI a_n88 120 (fun _ => 0), gz cI a_n96 120 (fun _ => 0)] H := hP
  have hD : va_D A [(a_p0, .inr (10, [.ref a_n8, .int 0, .int 0, .int 1, .int 1, .int 1, .ref a_n32, .int 0, .ref a_n39, .ref a_n46, .ref a_n54, .int 0, .int 0, .ref a_n62, .int 0, .ref a_n71, .ref a_n80, .ref a_n88, .null, .int 0, .int 0, .null, .null, .int 0, .int 0, .int 0, .int 0, .int 0, .int 0, .null])), gz cI a_n8 2000 (fun _ => 0), gz cI a_n32 256 (fun _ => 0), gz cI a_n39 2 (fun _ => 0), gz cI a_n46 2 (fun _ => 0), gz cI a_n54 24 (fun _ => 0), gz cI a_n62 8 (fun _ => 0), gz cI a_n71 256 (fun _ => 0), gz cI a_n80 512 (fun _ => 0), gz cI a_n88 120 (fun _ => 0), gz cI a_n96 120 (fun _ => 0)] := hD
  refine va_put (D := (dC, dI)) (ci := 10) (v := .ref a_n96) (ty := (.array .int)) (C := R_M) (T := T_M) (N := 30) hx hb hg in_M t_M tok_M nok_M hown hK hP hD hS 0 rfl rfl 18 (by decide) (hg _ t_776) (fun _ h9 => h9) rfl (by decide +kernel) rfl rfl (Nat.le_of_ble_eq_true rfl) d_M_init_98 (fun H locs hP hD hS => ?_)
  have hP : va_P (dC, dI) vwCl [(a_p0, .inr (10, [.ref a_n8, .int 0, .int 0, .int 1, .int 1, .int 1, .ref a_n32, .int 0, .ref a_n39, .ref a_n46, .ref a_n54, .int 0, .int 0, .ref a_n62, .int 0, .ref a_n71, .ref a_n80, .ref a_n88, .ref a_n96, .int 0, .int 0, .null, .null, .int 0, .int 0, .int 0, .int 0, .int 0, .int 0, .null])), gz cI a_n8 2000 (fun _ => 0), gz cI a_n32 256 (fun _ => 0), gz cI a_n39 2 (fun _ => 0), gz cI a_n46 2 (fun _ => 0), gz cI a_n54 24 (fun _ => 0), gz cI a_n62 8 (fun _ => 0), gz cI a_n71 256 (fun _ => 0), gz cI a_n80 512 (fun _ => 0), gz cI a_n88 120 (fun _ => 0), gz cI a_n96 120 (fun _ => 0)] H := hP
  have hD : va_D A [(a_p0, .inr (10, [.ref a_n8, .int 0, .int 0, .int 1, .int 1, .int 1, .ref a_n32, .int 0, .ref a_n39, .ref a_n46, .ref a_n54, .int 0, .int 0, .ref a_n62, .int 0, .ref a_n71, .ref a_n80, .ref a_n88, .ref a_n96, .int 0, .int 0, .null, .null, .int 0, .int 0, .int 0, .int 0, .int 0, .int 0, .null])), gz cI a_n8 2000 (fun _ => 0), gz cI a_n32 256 (fun _ => 0), gz cI a_n39 2 (fun _ => 0), gz cI a_n46 2 (fun _ => 0), gz cI a_n54 24 (fun _ => 0), gz cI a_n62 8 (fun _ => 0), gz cI a_n71 256 (fun _ => 0), gz cI a_n80 512 (fun _ => 0), gz cI a_n88 120 (fun _ => 0), gz cI a_n96 120 (fun _ => 0)] := hD
  refine lv_aload_n hx hb d_M_init_101 rfl (lv_at hl 0 rfl) ?_
  refine lv_bipush (v := 16) hx hb d_M_init_102 (by decide) ?_
  refine va_newa (atype := .int) (n := 16) (N' := 16) (ty := .int) (a0 := (16, .inl (fun _ => 0))) hx hb (hg _ t_105) rfl hK hP hD hS hA (fun _ => rfl) (by decide) (by decide) (by decide) (Nat.le_of_ble_eq_true rfl) (Nat.le_of_ble_eq_true rfl) d_M_init_104 (fun a_n104 cA H hK1 hP hD hS => ?_)
  rw [gk_same hK1] at hP hD
  have hP : va_P (dC, dI) vwCl [(a_p0, .inr (10, [.ref a_n8, .int 0, .int 0, .int 1, .int 1, .int 1, .ref a_n32, .int 0, .ref a_n39, .ref a_n46, .ref a_n54, .int 0, .int 0, .ref a_n62, .int 0, .ref a_n71, .ref a_n80, .ref a_n88, .ref a_n96, .int 0, .int 0, .null, .null, .int 0, .int 0, .int 0, .int 0, .int 0, .int 0, .null])), gz cI a_n8 2000 (fun _ => 0), gz cI a_n32 256 (fun _ => 0), gz cI a_n39 2 (fun _ => 0), gz cI a_n46 2 (fun _ => 0), gz cI a_n54 24 (fun _ => 0), gz cI a_n62 8 (fun _ => 0), gz cI a_n71 256 (fun _ => 0), gz cI a_n80 512 (fun _ => 0), gz cI a_n88 120 (fun _ => 0), gz cI a_n96 120 (fun _ => 0), gz cI a_n104 16 (fun _ => 0)] H := hP
  have hD : va_D A [(a_p0, .inr (10, [.ref a_n8, .int 0, .int 0, .int 1, .int 1, .int 1, .ref a_n32, .int 0, .ref a_n39, .ref a_n46, .ref a_n54, .int 0, .int 0, .ref a_n62, .int 0, .ref a_n71, .ref a_n80, .ref a_n88, .ref a_n96, .int 0, .int 0, .null, .null, .int 0, .int 0, .int 0, .int 0, .int 0, .int 0, .null])), gz cI a_n8 2000 (fun _ => 0), gz cI a_n32 256 (fun _ => 0), gz cI a_n39 2 (fun _ => 0), gz cI a_n46 2 (fun _ => 0), gz cI a_n54 24 (fun _ => 0), gz cI a_n62 8 (fun _ => 0), gz cI a_n71 256 (fun _ => 0), gz cI a_n80 512 (fun _ => 0), gz cI a_n88 120 (fun _ => 0), gz cI a_n96 120 (fun _ => 0), gz cI a_n104 16 (fun _ => 0)] := hD
  refine va_put (D := (dC, dI)) (ci := 10) (v := .ref a_n104) (ty := (.array .int)) (C := R_M) (T := T_M) (N := 30) hx hb hg in_M t_M tok_M nok_M hown hK hP hD hS 0 rfl rfl 21 (by decide) (hg _ t_779) (fun _ h9 => h9) rfl (by decide +kernel) rfl rfl (Nat.le_of_ble_eq_true rfl) d_M_init_106 (fun H locs hP hD hS => ?_)
  have hP : va_P (dC, dI) vwCl [(a_p0, .inr (10, [.ref a_n8, .int 0, .int 0, .int 1, .int 1, .int 1, .ref a_n32, .int 0, .ref a_n39, .ref a_n46, .ref a_n54, .int 0, .int 0, .ref a_n62, .int 0, .ref a_n71, .ref a_n80, .ref a_n88, .ref a_n96, .int 0, .int 0, .ref a_n104, .null, .int 0, .int 0, .int 0, .int 0, .int 0, .int 0, .null])), gz cI a_n8 2000 (fun _ => 0), gz cI a_n32 256 (fun _ => 0), gz cI a_n39 2 (fun _ => 0), gz cI a_n46 2 (fun _ => 0), gz cI a_n54 24 (fun _ => 0), gz cI a_n62 8 (fun _ => 0), gz cI a_n71 256 (fun _ => 0), gz cI a_n80 512 (fun _ => 0), gz cI a_n88 120 (fun _ => 0), gz cI a_n96 120 (fun _ => 0), gz cI a_n104 16 (fun _ => 0)] H := hP
  have hD : va_D A [(a_p0, .inr (10, [.ref a_n8, .int 0, .int 0, .int 1, .int 1, .int 1, .ref a_n32, .int 0, .ref a_n39, .ref a_n46, .ref a_n54, .int 0, .int 0, .ref a_n62, .int 0, .ref a_n71, .ref a_n80, .ref a_n88, .ref a_n96, .int 0, .int 0, .ref a_n104, .null, .int 0, .int 0, .int 0, .int 0, .int 0, .int 0, .null])), gz cI a_n8 2000 (fun _ => 0), gz cI a_n32 256 (fun _ => 0), gz cI a_n39 2 (fun _ => 0), gz cI a_n46 2 (fun _ => 0), gz cI a_n54 24 (fun _ => 0), gz cI a_n62 8 (fun _ => 0), gz cI a_n71 256 (fun _ => 0), gz cI a_n80 512 (fun _ => 0), gz cI a_n88 120 (fun _ => 0), gz cI a_n96 120 (fun _ => 0), gz cI a_n104 16 (fun _ => 0)] := hD
  refine lv_aload_n hx hb d_M_init_109 rfl (lv_at hl 0 rfl) ?_
  refine lv_bipush (v := 16) hx hb d_M_init_110 (by decide) ?_
  refine va_newa (atype := .int) (n := 16) (N' := 16) (ty := .int) (a0 := (16, .inl (fun _ => 0))) hx hb (hg _ t_105) rfl hK hP hD hS hA (fun _ => rfl) (by decide) (by decide) (by decide) (Nat.le_of_ble_eq_true rfl) (Nat.le_of_ble_eq_true rfl) d_M_init_112 (fun a_n112 cA H hK1 hP hD hS => ?_)
  rw [gk_same hK1] at hP hD
  have hP : va_P (dC, dI) vwCl [(a_p0, .inr (10, [.ref a_n8, .int 0, .int 0, .int 1, .int 1, .int 1, .ref a_n32, .int 0, .ref a_n39, .ref a_n46, .ref a_n54, .int 0, .int 0, .ref a_n62, .int 0, .ref a_n71, .ref a_n80, .ref a_n88, .ref a_n96, .int 0, .int 0, .ref a_n104, .null, .int 0, .int 0, .int 0, .int 0, .int 0, .int 0, .null])), gz cI a_n8 2000 (fun _ => 0), gz cI a_n32 256 (fun _ => 0), gz cI a_n39 2 (fun _ => 0), gz cI a_n46 2 (fun _ => 0), gz cI a_n54 24 (fun _ => 0), gz cI a_n62 8 (fun _ => 0), gz cI a_n71 256 (fun _ => 0), gz cI a_n80 512 (fun _ => 0), gz cI a_n88 120 (fun _ => 0), gz cI a_n96 120 (fun _ => 0), gz cI a_n104 16 (fun _ => 0), gz cI a_n112 16 (fun _ => 0)] H := hP
  have hD : va_D A [(a_p0, .inr (10, [.ref a_n8, .int 0, .int 0, .int 1, .int 1, .int 1, .ref a_n32, .int 0, .ref a_n39, .ref a_n46, .ref a_n54, .int 0, .int 0, .ref a_n62, .int 0, .ref a_n71, .ref a_n80, .ref a_n88, .ref a_n96, .int 0, .int 0, .ref a_n104, .null, .int 0, .int 0, .int 0, .int 0, .int 0, .int 0, .null])), gz cI a_n8 2000 (fun _ => 0), gz cI a_n32 256 (fun _ => 0), gz cI a_n39 2 (fun _ => 0), gz cI a_n46 2 (fun _ => 0), gz cI a_n54 24 (fun _ => 0), gz cI a_n62 8 (fun _ => 0), gz cI a_n71 256 (fun _ => 0), gz cI a_n80 512 (fun _ => 0), gz cI a_n88 120 (fun _ => 0), gz cI a_n96 120 (fun _ => 0), gz cI a_n104 16 (fun _ => 0), gz cI a_n112 16 (fun _ => 0)] := hD
  refine va_put (D := (dC, dI)) (ci := 10) (v := .ref a_n112) (ty := (.array .int)) (C := R_M) (T := T_M) (N := 30) hx hb hg in_M t_M tok_M nok_M hown hK hP hD hS 0 rfl rfl 22 (by decide) (hg _ t_780) (fun _ h9 => h9) rfl (by decide +kernel) rfl rfl (Nat.le_of_ble_eq_true rfl) d_M_init_114 (fun H locs hP hD hS => ?_)
  have hP : va_P (dC, dI) vwCl [(a_p0, .inr (10, [.ref a_n8, .int 0, .int 0, .int 1, .int 1, .int 1, .ref a_n32, .int 0, .ref a_n39, .ref a_n46, .ref a_n54, .int 0, .int 0, .ref a_n62, .int 0, .ref a_n71, .ref a_n80, .ref a_n88, .ref a_n96, .int 0, .int 0, .ref a_n104, .ref a_n112, .int 0, .int 0, .int 0, .int 0, .int 0, .int 0, .null])), gz cI a_n8 2000 (fun _ => 0), gz cI a_n32 256 (fun _ => 0), gz cI a_n39 2 (fun _ => 0), gz cI a_n46 2 (fun _ => 0), gz cI a_n54 24 (fun _ => 0), gz cI a_n62 8 (fun _ => 0), gz cI a_n71 256 (fun _ => 0), gz cI a_n80 512 (fun _ => 0), gz cI a_n88 120 (fun _ => 0), gz cI a_n96 120 (fun _ => 0), gz cI a_n104 16 (fun _ => 0), gz cI a_n112 16 (fun _ => 0)] H := hP
  have hD : va_D A [(a_p0, .inr (10, [.ref a_n8, .int 0, .int 0, .int 1, .int 1, .int 1, .ref a_n32, .int 0, .ref a_n39, .ref a_n46, .ref a_n54, .int 0, .int 0, .ref a_n62, .int 0, .ref a_n71, .ref a_n80, .ref a_n88, .ref a_n96, .int 0, .int 0, .ref a_n104, .ref a_n112, .int 0, .int 0, .int 0, .int 0, .int 0, .int 0, .null])), gz cI a_n8 2000 (fun _ => 0), gz cI a_n32 256 (fun _ => 0), gz cI a_n39 2 (fun _ => 0), gz cI a_n46 2 (fun _ => 0), gz cI a_n54 24 (fun _ => 0), gz cI a_n62 8 (fun _ => 0), gz cI a_n71 256 (fun _ => 0), gz cI a_n80 512 (fun _ => 0), gz cI a_n88 120 (fun _ => 0), gz cI a_n96 120 (fun _ => 0), gz cI a_n104 16 (fun _ => 0), gz cI a_n112 16 (fun _ => 0)] := hD
  refine lv_aload_n hx hb d_M_init_117 rfl (lv_at hl 0 rfl) ?_
  refine lv_sipush (v := 256) hx hb d_M_init_118 (by decide) ?_
  refine va_newa (atype := .int) (n := 256) (N' := 256) (ty := .int) (a0 := (256, .inl (fun _ => 0))) hx hb (hg _ t_105) rfl hK hP hD hS hA (fun _ => rfl) (by decide) (by decide) (by decide) (Nat.le_of_ble_eq_true rfl) (Nat.le_of_ble_eq_true rfl) d_M_init_121 (fun a_n121 cA H hK1 hP hD hS => ?_)
  rw [gk_same hK1] at hP hD
  have hP : va_P (dC, dI) vwCl [(a_p0, .inr (10, [.ref a_n8, .int 0, .int 0, .int 1, .int 1, .int 1, .ref a_n32, .int 0, .ref a_n39, .ref a_n46, .ref a_n54, .int 0, .int 0, .ref a_n62, .int 0, .ref a_n71, .ref a_n80, .ref a_n88, .ref a_n96, .int 0, .int 0, .ref a_n104, .ref a_n112, .int 0, .int 0, .int 0, .int 0, .int 0, .int 0, .null])), gz cI a_n8 2000 (fun _ => 0), gz cI a_n32 256 (fun _ => 0), gz cI a_n39 2 (fun _ => 0), gz cI a_n46 2 (fun _ => 0), gz cI a_n54 24 (fun _ => 0), gz cI a_n62 8 (fun _ => 0), gz cI a_n71 256 (fun _ => 0), gz cI a_n80 512 (fun _ => 0), gz cI a_n88 120 (fun _ => 0), gz cI a_n96 120 (fun _ => 0), gz cI a_n104 16 (fun _ => 0), gz cI a_n112 16 (fun _ => 0), gz cI a_n121 256 (fun _ => 0)] H := hP
  have hD : va_D A [(a_p0, .inr (10, [.ref a_n8, .int 0, .int 0, .int 1, .int 1, .int 1, .ref a_n32, .int 0, .ref a_n39, .ref a_n46, .ref a_n54, .int 0, .int 0, .ref a_n62, .int 0, .ref a_n71, .ref a_n80, .ref a_n88, .ref a_n96, .int 0, .int 0, .ref a_n104, .ref a_n112, .int 0, .int 0, .int 0, .int 0, .int 0, .int 0, .null])), gz cI a_n8 2000 (fun _ => 0), gz cI a_n32 256 (fun _ => 0), gz cI a_n39 2 (fun _ => 0), gz cI a_n46 2 (fun _ => 0), gz cI a_n54 24 (fun _ => 0), gz cI a_n62 8 (fun _ => 0), gz cI a_n71 256 (fun _ => 0), gz cI a_n80 512 (fun _ => 0), gz cI a_n88 120 (fun _ => 0), gz cI a_n96 120 (fun _ => 0), gz cI a_n104 16 (fun _ => 0), gz cI a_n112 16 (fun _ => 0), gz cI a_n121 256 (fun _ => 0)] := hD
  refine va_put (D := (dC, dI)) (ci := 10) (v := .ref a_n121) (ty := (.array .int)) (C := R_M) (T := T_M) (N := 30) hx hb hg in_M t_M tok_M nok_M hown hK hP hD hS 0 rfl rfl 29 (by decide) (hg _ t_787) (fun _ h9 => h9) rfl (by decide +kernel) rfl rfl (Nat.le_of_ble_eq_true rfl) d_M_init_123 (fun H locs hP hD hS => ?_)
  have hP : va_P (dC, dI) vwCl [(a_p0, .inr (10, [.ref a_n8, .int 0, .int 0, .int 1, .int 1, .int 1, .ref a_n32, .int 0, .ref a_n39, .ref a_n46, .ref a_n54, .int 0, .int 0, .ref a_n62, .int 0, .ref a_n71, .ref a_n80, .ref a_n88, .ref a_n96, .int 0, .int 0, .ref a_n104, .ref a_n112, .int 0, .int 0, .int 0, .int 0, .int 0, .int 0, .ref a_n121])), gz cI a_n8 2000 (fun _ => 0), gz cI a_n32 256 (fun _ => 0), gz cI a_n39 2 (fun _ => 0), gz cI a_n46 2 (fun _ => 0), gz cI a_n54 24 (fun _ => 0), gz cI a_n62 8 (fun _ => 0), gz cI a_n71 256 (fun _ => 0), gz cI a_n80 512 (fun _ => 0), gz cI a_n88 120 (fun _ => 0), gz cI a_n96 120 (fun _ => 0), gz cI a_n104 16 (fun _ => 0), gz cI a_n112 16 (fun _ => 0), gz cI a_n121 256 (fun _ => 0)] H := hP
  have hD : va_D A [(a_p0, .inr (10, [.ref a_n8, .int 0, .int 0, .int 1, .int 1, .int 1, .ref a_n32, .int 0, .ref a_n39, .ref a_n46, .ref a_n54, .int 0, .int 0, .ref a_n62, .int 0, .ref a_n71, .ref a_n80, .ref a_n88, .ref a_n96, .int 0, .int 0, .ref a_n104, .ref a_n112, .int 0, .int 0, .int 0, .int 0, .int 0, .int 0, .ref a_n121])), gz cI a_n8 2000 (fun _ => 0), gz cI a_n32 256 (fun _ => 0), gz cI a_n39 2 (fun _ => 0), gz cI a_n46 2 (fun _ => 0), gz cI a_n54 24 (fun _ => 0), gz cI a_n62 8 (fun _ => 0), gz cI a_n71 256 (fun _ => 0), gz cI a_n80 512 (fun _ => 0), gz cI a_n88 120 (fun _ => 0), gz cI a_n96 120 (fun _ => 0), gz cI a_n104 16 (fun _ => 0), gz cI a_n112 16 (fun _ => 0), gz cI a_n121 256 (fun _ => 0)] := hD
  refine lv_aload_n hx hb d_M_init_126 rfl (lv_at hl 0 rfl) ?_
  refine lv_iconst (v := 0) hx hb d_M_init_127 (by decide) ?_
  refine gc_v (wn := fun u => [oM a_p0 (gl [a_n8, 0, 0, 0, 0, 0, a_n32, 0, a_n39, a_n46, a_n54, 0, 0, a_n62, 0, a_n71, a_n80, a_n88, a_n96, 0, 0, a_n104, a_n112, 0, 0, 0, 0, 0, 0, a_n121]) u.1, gz cI a_n8 2000 u.2, gz cI a_n32 256 (fun _ => 0), gz cI a_n39 2 (fun _ => 0), gz cI a_n46 2 (fun _ => 0), gz cI a_n54 24 (fun _ => 0), gz cI a_n62 8 (fun _ => 0), gz cI a_n71 256 (fun _ => 0), gz cI a_n80 512 (fun _ => 0), gz cI a_n88 120 (fun _ => 0), gz cI a_n96 120 (fun _ => 0), gz cI a_n104 16 (fun _ => 0), gz cI a_n112 16 (fun _ => 0), gz cI a_n121 256 (fun _ => 0)]) (wr := [gz cI a_n32 256 (fun _ => 0), gz cI a_n39 2 (fun _ => 0), gz cI a_n46 2 (fun _ => 0), gz cI a_n54 24 (fun _ => 0), gz cI a_n62 8 (fun _ => 0), gz cI a_n71 256 (fun _ => 0), gz cI a_n80 512 (fun _ => 0), gz cI a_n88 120 (fun _ => 0), gz cI a_n96 120 (fun _ => 0), gz cI a_n104 16 (fun _ => 0), gz cI a_n112 16 (fun _ => 0), gz cI a_n121 256 (fun _ => 0)]) (gr_V (As := [.int 0]) (rest := []) ⟨hx, hb, hml, hown, hg⟩ (c_M_clear l dC dI cI a_p0 (gl [a_n8, 0, 0, 0, 0, 0, a_n32, 0, a_n39, a_n46, a_n54, 0, 0, a_n62, 0, a_n71, a_n80, a_n88, a_n96, 0, 0, a_n104, a_n112, 0, 0, 0, 0, 0, 0, a_n121]) (gi [0, 0, 0, 1, 1, 1, 0, 0, 0, 0, 0, 0, 0, 0, 0, 0, 0, 0, 0, 0, 0, 0, 0, 0, 0, 0, 0, 0, 0, 0]) (fun _ => 0) 0 hw _) (cwV 1 hg (gg_V t_754 t_755 t_756 t_71 t_757) rfl rfl rfl (by decide +kernel) ⟨Nat.le_of_ble_eq_true rfl, Nat.le_of_ble_eq_true rfl⟩) hK hN hP hD [0, 1] (by decide) rfl 0 10 rfl rfl rfl rfl hl.1 rfl (Nat.le_of_ble_eq_true rfl) d_M_init_128 ⟨Nat.le_of_ble_eq_true rfl, Nat.le_of_ble_eq_true rfl⟩) rfl rfl hP hD hS hA [0, 1] [2, 3, 4, 5, 6, 7, 8, 9, 10, 11, 12, 13] [12, 13, 0, 1, 2, 3, 4, 5, 6, 7, 8, 9, 10, 11] rfl rfl (by decide) (by decide) (by decide) (fun _ => rfl) ?_
  intro u9 H locs hw hP hD hS
  obtain ⟨I_p0_128, f_p0_file_128⟩ := u9
  try dsimp only at hw
  have hP : va_P (dC, dI) vwCl [(a_p0, .inr (10, [.ref a_n8, .int (I_p0_128 1), .int (I_p0_128 2), .int (I_p0_128 3), .int (I_p0_128 4), .int (I_p0_128 5), .ref a_n32, .int (I_p0_128 7), .ref a_n39, .ref a_n46, .ref a_n54, .int (I_p0_128 11), .int (I_p0_128 12), .ref a_n62, .int (I_p0_128 14), .ref a_n71, .ref a_n80, .ref a_n88, .ref a_n96, .int (I_p0_128 19), .int (I_p0_128 20), .ref a_n104, .ref a_n112, .int (I_p0_128 23), .int (I_p0_128 24), .int (I_p0_128 25), .int (I_p0_128 26), .int (I_p0_128 27), .int (I_p0_128 28), .ref a_n121])), gz cI a_n8 2000 f_p0_file_128, gz cI a_n32 256 (fun _ => 0), gz cI a_n39 2 (fun _ => 0), gz cI a_n46 2 (fun _ => 0), gz cI a_n54 24 (fun _ => 0), gz cI a_n62 8 (fun _ => 0), gz cI a_n71 256 (fun _ => 0), gz cI a_n80 512 (fun _ => 0), gz cI a_n88 120 (fun _ => 0), gz cI a_n96 120 (fun _ => 0), gz cI a_n104 16 (fun _ => 0), gz cI a_n112 16 (fun _ => 0), gz cI a_n121 256 (fun _ => 0)] H := hP
  have hD : va_D A [(a_p0, .inr (10, [.ref a_n8, .int (I_p0_128 1), .int (I_p0_128 2), .int (I_p0_128 3), .int (I_p0_128 4), .int (I_p0_128 5), .ref a_n32, .int (I_p0_128 7), .ref a_n39, .ref a_n46, .ref a_n54, .int (I_p0_128 11), .int (I_p0_128 12), .ref a_n62, .int (I_p0_128 14), .ref a_n71, .ref a_n80, .ref a_n88, .ref a_n96, .int (I_p0_128 19), .int (I_p0_128 20), .ref a_n104, .ref a_n112, .int (I_p0_128 23), .int (I_p0_128 24), .int (I_p0_128 25), .int (I_p0_128 26), .int (I_p0_128 27), .int (I_p0_128 28), .ref a_n121])), gz cI a_n8 2000 f_p0_file_128, gz cI a_n32 256 (fun _ => 0), gz cI a_n39 2 (fun _ => 0), gz cI a_n46 2 (fun _ => 0), gz cI a_n54 24 (fun _ => 0), gz cI a_n62 8 (fun _ => 0), gz cI a_n71 256 (fun _ => 0), gz cI a_n80 512 (fun _ => 0), gz cI a_n88 120 (fun _ => 0), gz cI a_n96 120 (fun _ => 0), gz cI a_n104 16 (fun _ => 0), gz cI a_n112 16 (fun _ => 0), gz cI a_n121 256 (fun _ => 0)] := hD
  exact hret _ _ _ _ ((gl [a_n8, 0, 0, 0, 0, 0, a_n32, 0, a_n39, a_n46, a_n54, 0, 0, a_n62, 0, a_n71, a_n80, a_n88, a_n96, 0, 0, a_n104, a_n112, 0, 0, 0, 0, 0, 0, a_n121]), (gi [0, (I_p0_128 1), (I_p0_128 2), (I_p0_128 3), (I_p0_128 4), (I_p0_128 5), 0, (I_p0_128 7), 0, 0, 0, (I_p0_128 11), (I_p0_128 12), 0, (I_p0_128 14), 0, 0, 0, 0, (I_p0_128 19), (I_p0_128 20), 0, 0, (I_p0_128 23), (I_p0_128 24), (I_p0_128 25), (I_p0_128 26), (I_p0_128 27), (I_p0_128 28), 0]), (fun _ => 0), (fun _ => 0), f_p0_file_128, (fun _ => 0), (fun _ => 0), (fun _ => 0), (fun _ => 0), (fun _ => 0), (fun _ => 0), (fun _ => 0), (fun _ => 0), (fun _ => 0), (fun _ => 0)) d_M_init_131 (gm_sub hP [0, 7, 6, 1, 4, 5, 10, 13, 8, 11, 2, 12, 9, 3] rfl) (hD.sub [0, 7, 6, 1, 4, 5, 10, 13, 8, 11, 2, 12, 9, 3] (by decide) rfl) hS hw
theorem d_M_begin_0 : decode b_M_begin 0 = .ok (.iload_n 1, 1) := by decide +kernel
theorem d_M_begin_1 : decode b_M_begin 1 = .ok (.iconst 1, 1) := by decide +kernel
theorem d_M_begin_2 : decode b_M_begin 2 = .ok (.if_icmp .lt 20, 3) := by decide +kernel
theorem d_M_begin_5 : decode b_M_begin 5 = .ok (.iload_n 1, 1) := by decide +kernel
theorem d_M_begin_6 : decode b_M_begin 6 = .ok (.bipush 16, 2) := by decide +kernel
theorem d_M_begin_8 : decode b_M_begin 8 = .ok (.if_icmp .gt 14, 3) := by decide +kernel
theorem d_M_begin_11 : decode b_M_begin 11 = .ok (.iload_n 2, 1) := by decide +kernel
theorem d_M_begin_12 : decode b_M_begin 12 = .ok (.iconst 1, 1) := by decide +kernel
theorem d_M_begin_13 : decode b_M_begin 13 = .ok (.if_icmp .lt 9, 3) := by decide +kernel
theorem d_M_begin_16 : decode b_M_begin 16 = .ok (.iload_n 2, 1) := by decide +kernel
theorem d_M_begin_17 : decode b_M_begin 17 = .ok (.bipush 16, 2) := by decide +kernel
theorem d_M_begin_19 : decode b_M_begin 19 = .ok (.if_icmp .le 5, 3) := by decide +kernel
theorem d_M_begin_22 : decode b_M_begin 22 = .ok (.iconst 0, 1) := by decide +kernel
theorem d_M_begin_23 : decode b_M_begin 23 = .ok (.ireturn, 1) := by decide +kernel
theorem d_M_begin_24 : decode b_M_begin 24 = .ok (.iload_n 3, 1) := by decide +kernel
theorem d_M_begin_25 : decode b_M_begin 25 = .ok (.iconst 1, 1) := by decide +kernel
theorem d_M_begin_26 : decode b_M_begin 26 = .ok (.if_icmp .eq 21, 3) := by decide +kernel
theorem d_M_begin_29 : decode b_M_begin 29 = .ok (.iload_n 3, 1) := by decide +kernel
theorem d_M_begin_30 : decode b_M_begin 30 = .ok (.iconst 2, 1) := by decide +kernel
theorem d_M_begin_31 : decode b_M_begin 31 = .ok (.if_icmp .eq 16, 3) := by decide +kernel
theorem d_M_begin_34 : decode b_M_begin 34 = .ok (.iload_n 3, 1) := by decide +kernel
theorem d_M_begin_35 : decode b_M_begin 35 = .ok (.iconst 4, 1) := by decide +kernel
theorem d_M_begin_36 : decode b_M_begin 36 = .ok (.if_icmp .eq 11, 3) := by decide +kernel
theorem d_M_begin_39 : decode b_M_begin 39 = .ok (.iload_n 3, 1) := by decide +kernel
theorem d_M_begin_40 : decode b_M_begin 40 = .ok (.bipush 8, 2) := by decide +kernel
theorem d_M_begin_42 : decode b_M_begin 42 = .ok (.if_icmp .eq 5, 3) := by decide +kernel
theorem d_M_begin_45 : decode b_M_begin 45 = .ok (.iconst 0, 1) := by decide +kernel
theorem d_M_begin_46 : decode b_M_begin 46 = .ok (.ireturn, 1) := by decide +kernel
theorem d_M_begin_47 : decode b_M_begin 47 = .ok (.aload_n 0, 1) := by decide +kernel
theorem d_M_begin_48 : decode b_M_begin 48 = .ok (.iload_n 1, 1) := by decide +kernel
theorem d_M_begin_49 : decode b_M_begin 49 = .ok (.putfield 13, 3) := by decide +kernel
theorem d_M_begin_52 : decode b_M_begin 52 = .ok (.aload_n 0, 1) := by decide +kernel
theorem d_M_begin_53 : decode b_M_begin 53 = .ok (.iload_n 2, 1) := by decide +kernel
theorem d_M_begin_54 : decode b_M_begin 54 = .ok (.putfield 17, 3) := by decide +kernel
theorem d_M_begin_57 : decode b_M_begin 57 = .ok (.aload_n 0, 1) := by decide +kernel
theorem d_M_begin_58 : decode b_M_begin 58 = .ok (.iload_n 3, 1) := by decide +kernel
theorem d_M_begin_59 : decode b_M_begin 59 = .ok (.putfield 20, 3) := by decide +kernel
theorem d_M_begin_62 : decode b_M_begin 62 = .ok (.iconst 0, 1) := by decide +kernel
theorem d_M_begin_63 : decode b_M_begin 63 = .ok (.istore 4, 2) := by decide +kernel
theorem d_M_begin_65 : decode b_M_begin 65 = .ok (.iload 4, 2) := by decide +kernel
theorem d_M_begin_67 : decode b_M_begin 67 = .ok (.sipush 256, 3) := by decide +kernel
theorem d_M_begin_70 : decode b_M_begin 70 = .ok (.if_icmp .ge 17, 3) := by decide +kernel
theorem d_M_begin_73 : decode b_M_begin 73 = .ok (.aload_n 0, 1) := by decide +kernel
theorem d_M_begin_74 : decode b_M_begin 74 = .ok (.getfield 23, 3) := by decide +kernel
theorem d_M_begin_77 : decode b_M_begin 77 = .ok (.iload 4, 2) := by decide +kernel
theorem d_M_begin_79 : decode b_M_begin 79 = .ok (.iconst 0, 1) := by decide +kernel
theorem d_M_begin_80 : decode b_M_begin 80 = .ok (.iastore, 1) := by decide +kernel
theorem d_M_begin_81 : decode b_M_begin 81 = .ok (.iinc 4 1, 3) := by decide +kernel
theorem d_M_begin_84 : decode b_M_begin 84 = .ok (.goto (-19), 3) := by decide +kernel
theorem d_M_begin_87 : decode b_M_begin 87 = .ok (.iconst 1, 1) := by decide +kernel
theorem d_M_begin_88 : decode b_M_begin 88 = .ok (.ireturn, 1) := by decide +kernel
def wp_M_begin_l65 (post : Int32 → (Nat → Int32) → (Nat → Int32) → Prop) : Nat → (Nat → Int32) → (Nat → Int32) → Int32 → Prop
  | 0, _, _, _ => False
  | n + 1, I_p0, f_p0_samples, x4 =>
    ((256 ≤ x4 →
      post 1 I_p0 f_p0_samples) ∧
     (¬ 256 ≤ x4 →
      vp_in x4 256 ∧
      wp_M_begin_l65 post n I_p0 (upd f_p0_samples (x4).toNatClampNeg 0) (x4 + 1)))
def wp_M_begin_b47 (post : Int32 → (Nat → Int32) → (Nat → Int32) → Prop) (I_p0 : Nat → Int32) (f_p0_samples : Nat → Int32) (x1 : Int32) (x2 : Int32) (x3 : Int32) : Prop :=
  (∃ n1 : Nat, wp_M_begin_l65 post n1 (upd (upd (upd I_p0 3 x1) 4 x2) 5 x3) f_p0_samples 0)
def wp_M_begin (post : Int32 → (Nat → Int32) → (Nat → Int32) → Prop) (I_p0 : Nat → Int32) (f_p0_samples : Nat → Int32) (x1 : Int32) (x2 : Int32) (x3 : Int32) : Prop :=
  ((x1 < 1 →
    post 0 I_p0 f_p0_samples) ∧
   (¬ x1 < 1 →
    ((16 < x1 →
      post 0 I_p0 f_p0_samples) ∧
     (¬ 16 < x1 →
      ((x2 < 1 →
        post 0 I_p0 f_p0_samples) ∧
       (¬ x2 < 1 →
        ((x2 ≤ 16 →
          ((x3 = 1 →
            wp_M_begin_b47 post I_p0 f_p0_samples x1 x2 x3) ∧
           (¬ x3 = 1 →
            ((x3 = 2 →
              wp_M_begin_b47 post I_p0 f_p0_samples x1 x2 x3) ∧
             (¬ x3 = 2 →
              ((x3 = 4 →
                wp_M_begin_b47 post I_p0 f_p0_samples x1 x2 x3) ∧
               (¬ x3 = 4 →
                ((x3 = 8 →
                  wp_M_begin_b47 post I_p0 f_p0_samples x1 x2 x3) ∧
                 (¬ x3 = 8 →
                  post 0 I_p0 f_p0_samples))))))))) ∧
         (¬ x2 ≤ 16 →
          post 0 I_p0 f_p0_samples))))))))
set_option maxRecDepth 100000 in
set_option maxHeartbeats 4000000 in
theorem c_M_begin (l : Launch) (dC : Nat → ClassId) (dI : Nat → Nat → Nat) (cI : ClassId) (a_p0 : Nat) (A_p0 : Nat → Nat) (I_p0 : Nat → Int32) (f_p0_samples : Nat → Int32) (x1 : Int32) (x2 : Int32) (x3 : Int32) {post : Int32 → (Nat → Int32) → (Nat → Int32) → Prop} (hw : wp_M_begin post I_p0 f_p0_samples x1 x2 x3) : gm_i l y_M_begin ws_M_begin ({ frames := 0, cells := 0, slots := 0, locals := 0 } : Room) (dC, dI) vwCl [(cI, .int)] [.ref a_p0, .int x1, .int x2, .int x3] [oM a_p0 A_p0 I_p0, gz cI (A_p0 6) 256 f_p0_samples] (fun (u : (Nat → Int32) × (Nat → Int32)) => [oM a_p0 A_p0 u.1, gz cI (A_p0 6) 256 u.2]) (fun (r : Int32) (u : (Nat → Int32) × (Nat → Int32)) => post r u.1 u.2) := by
  refine gm_iof (cc := b_M_begin) (maxL := 5) (ty := .boolean) (by decide) rfl (Nat.le_of_ble_eq_true rfl) ?_
  intro p e s m args below meth c A Q hx hb hml hown hg hK hN hA hret
  have hown : s.vm.findClass R_M = some m.cls := hown
  have l65 : ∀ n : Nat, ∀ (H : Heap) (locs : List Loc) (ls : Array Slot) (I_p0 : Nat → Int32) (f_p0_samples : Nat → Int32) (x4 : Int32), va_P (dC, dI) vwCl [oM a_p0 A_p0 I_p0, gz cI (A_p0 6) 256 f_p0_samples] H → va_D A [oM a_p0 A_p0 I_p0, gz cI (A_p0 6) 256 f_p0_samples] → va_S A s.heap H locs → lv_has ls 5 [(0, .ref a_p0), (4, .int x4)] → wp_M_begin_l65 post n I_p0 f_p0_samples x4 → W p l e ({ frames := 0, cells := 0, slots := 0, locals := 0 } : Room) s m args below meth c H locs 0 0 Q (F0 m 65 ls []) := by
    intro n
    induction n with
    | zero => intro H locs ls I_p0 f_p0_samples x4 hP hD hS hl hw; exact hw.elim
    | succ n ih =>
      intro H locs ls I_p0 f_p0_samples x4 hP hD hS hl hw
      unfold wp_M_begin_l65 at hw
      refine lv_iload hx hb d_M_begin_65 (lv_at hl 1 rfl) ?_
      refine lv_sipush (v := 256) hx hb d_M_begin_67 (by decide) ?_
      refine lv_icmp_ge hx hb d_M_begin_70 rfl (fun hc => ?_) (fun hc => ?_)
      · have hw := hw.1 hc
        refine lv_iconst (v := 1) hx hb d_M_begin_87 (by decide) ?_
        exact hret _ _ _ _ _ (I_p0, f_p0_samples) d_M_begin_88 rfl hP hD hS hw
      · have hw := hw.2 hc
        refine lv_aload_n hx hb d_M_begin_73 rfl (lv_at hl 0 rfl) ?_
        refine va_get (D := (dC, dI)) (ci := 10) (v := .ref (A_p0 6)) (C := R_M) (T := T_M) (N := 30) hx hb hg in_M hown hK hP 0 rfl rfl 6 (by decide) (hg _ t_764) (fun _ h9 => h9) rfl d_M_begin_74 ?_
        refine lv_iload hx hb d_M_begin_77 (lv_at hl 1 rfl) ?_
        refine lv_iconst (v := 0) hx hb d_M_begin_79 (by decide) ?_
        obtain ⟨hin, hw⟩ := hw
        refine va_iast hx hb hK hP hD hS 1 0 rfl rfl hin d_M_begin_80 (fun H locs hP hD hS => ?_)
        have hP : va_P (dC, dI) vwCl [oM a_p0 A_p0 I_p0, gz cI (A_p0 6) 256 (upd f_p0_samples (x4).toNatClampNeg 0)] H := hP
        have hD : va_D A [oM a_p0 A_p0 I_p0, gz cI (A_p0 6) 256 (upd f_p0_samples (x4).toNatClampNeg 0)] := hD
        refine lv_iinc (k := 1) (v := (x4 + 1)) (lv' := [(4, .int (x4 + 1)), (0, .ref a_p0)]) hx hb d_M_begin_81 hl rfl (congrArg (fun z => x4 + z) (by decide : Int32.ofInt 1 = 1)) (by decide) rfl (fun ls hl => ?_)
        refine lv_goto hx hb d_M_begin_84 rfl ?_
        exact ih _ _ _ I_p0 (upd f_p0_samples (x4).toNatClampNeg 0) (x4 + 1) hP hD hS (lv_sub hl [1, 0] rfl) hw
  have b47 : ∀ (H : Heap) (locs : List Loc) (ls : Array Slot) (I_p0 : Nat → Int32) (f_p0_samples : Nat → Int32) (x1 : Int32) (x2 : Int32) (x3 : Int32), va_P (dC, dI) vwCl [oM a_p0 A_p0 I_p0, gz cI (A_p0 6) 256 f_p0_samples] H → va_D A [oM a_p0 A_p0 I_p0, gz cI (A_p0 6) 256 f_p0_samples] → va_S A s.heap H locs → lv_has ls 5 [(0, .ref a_p0), (1, .int x1), (2, .int x2), (3, .int x3)] → wp_M_begin_b47 post I_p0 f_p0_samples x1 x2 x3 → W p l e ({ frames := 0, cells := 0, slots := 0, locals := 0 } : Room) s m args below meth c H locs 0 0 Q (F0 m 47 ls []) := by
    intro H locs ls I_p0 f_p0_samples x1 x2 x3 hP hD hS hl hw
    unfold wp_M_begin_b47 at hw
    refine lv_aload_n hx hb d_M_begin_47 rfl (lv_at hl 0 rfl) ?_
    refine lv_iload_n hx hb d_M_begin_48 rfl (lv_at hl 1 rfl) ?_
    refine va_put (D := (dC, dI)) (ci := 10) (v := .int x1) (ty := .int) (C := R_M) (T := T_M) (N := 30) hx hb hg in_M t_M tok_M nok_M hown hK hP hD hS 0 rfl rfl 3 (by decide) (hg _ t_761) (fun _ h9 => h9) rfl (by decide +kernel) rfl rfl (Nat.le_of_ble_eq_true rfl) d_M_begin_49 (fun H locs hP hD hS => ?_)
    have hP : va_P (dC, dI) vwCl [oM a_p0 A_p0 (upd I_p0 3 x1), gz cI (A_p0 6) 256 f_p0_samples] H := hP
    have hD : va_D A [oM a_p0 A_p0 (upd I_p0 3 x1), gz cI (A_p0 6) 256 f_p0_samples] := hD
    refine lv_aload_n hx hb d_M_begin_52 rfl (lv_at hl 0 rfl) ?_
    refine lv_iload_n hx hb d_M_begin_53 rfl (lv_at hl 2 rfl) ?_
    refine va_put (D := (dC, dI)) (ci := 10) (v := .int x2) (ty := .int) (C := R_M) (T := T_M) (N := 30) hx hb hg in_M t_M tok_M nok_M hown hK hP hD hS 0 rfl rfl 4 (by decide) (hg _ t_762) (fun _ h9 => h9) rfl (by decide +kernel) rfl rfl (Nat.le_of_ble_eq_true rfl) d_M_begin_54 (fun H locs hP hD hS => ?_)
    have hP : va_P (dC, dI) vwCl [oM a_p0 A_p0 (upd (upd I_p0 3 x1) 4 x2), gz cI (A_p0 6) 256 f_p0_samples] H := hP
    have hD : va_D A [oM a_p0 A_p0 (upd (upd I_p0 3 x1) 4 x2), gz cI (A_p0 6) 256 f_p0_samples] := hD
    refine lv_aload_n hx hb d_M_begin_57 rfl (lv_at hl 0 rfl) ?_
    refine lv_iload_n hx hb d_M_begin_58 rfl (lv_at hl 3 rfl) ?_
    refine va_put (D := (dC, dI)) (ci := 10) (v := .int x3) (ty := .int) (C := R_M) (T := T_M) (N := 30) hx hb hg in_M t_M tok_M nok_M hown hK hP hD hS 0 rfl rfl 5 (by decide) (hg _ t_763) (fun _ h9 => h9) rfl (by decide +kernel) rfl rfl (Nat.le_of_ble_eq_true rfl) d_M_begin_59 (fun H locs hP hD hS => ?_)
    have hP : va_P (dC, dI) vwCl [oM a_p0 A_p0 (upd (upd (upd I_p0 3 x1) 4 x2) 5 x3), gz cI (A_p0 6) 256 f_p0_samples] H := hP
    have hD : va_D A [oM a_p0 A_p0 (upd (upd (upd I_p0 3 x1) 4 x2) 5 x3), gz cI (A_p0 6) 256 f_p0_samples] := hD
    refine lv_iconst (v := 0) hx hb d_M_begin_62 (by decide) ?_
    refine lv_istore (lv' := [(4, .int 0), (0, .ref a_p0), (1, .int x1), (2, .int x2), (3, .int x3)]) hx hb d_M_begin_63 hl (by decide) rfl (fun ls hl => ?_)
    obtain ⟨n1, hw⟩ := hw
    exact l65 n1 _ _ _ (upd (upd (upd I_p0 3 x1) 4 x2) 5 x3) f_p0_samples 0 hP hD hS (lv_sub hl [1, 0] rfl) hw
  intro ls hl hP hD hS
  have hl : lv_has ls 5 [(0, .ref a_p0), (1, .int x1), (2, .int x2), (3, .int x3)] := hl
  unfold wp_M_begin at hw
  refine lv_iload_n hx hb d_M_begin_0 rfl (lv_at hl 1 rfl) ?_
  refine lv_iconst (v := 1) hx hb d_M_begin_1 (by decide) ?_
  refine lv_icmp_lt hx hb d_M_begin_2 rfl (fun hc => ?_) (fun hc => ?_)
  · have hw := hw.1 hc
    refine lv_iconst (v := 0) hx hb d_M_begin_22 (by decide) ?_
    exact hret _ _ _ _ _ (I_p0, f_p0_samples) d_M_begin_23 rfl hP hD hS hw
  · have hw := hw.2 hc
    refine lv_iload_n hx hb d_M_begin_5 rfl (lv_at hl 1 rfl) ?_
    refine lv_bipush (v := 16) hx hb d_M_begin_6 (by decide) ?_
    refine lv_icmp_gt hx hb d_M_begin_8 rfl (fun hc => ?_) (fun hc => ?_)
    · have hw := hw.1 hc
      refine lv_iconst (v := 0) hx hb d_M_begin_22 (by decide) ?_
      exact hret _ _ _ _ _ (I_p0, f_p0_samples) d_M_begin_23 rfl hP hD hS hw
    · have hw := hw.2 hc
      refine lv_iload_n hx hb d_M_begin_11 rfl (lv_at hl 2 rfl) ?_
      refine lv_iconst (v := 1) hx hb d_M_begin_12 (by decide) ?_
      refine lv_icmp_lt hx hb d_M_begin_13 rfl (fun hc => ?_) (fun hc => ?_)
      · have hw := hw.1 hc
        refine lv_iconst (v := 0) hx hb d_M_begin_22 (by decide) ?_
        exact hret _ _ _ _ _ (I_p0, f_p0_samples) d_M_begin_23 rfl hP hD hS hw
      · have hw := hw.2 hc
        refine lv_iload_n hx hb d_M_begin_16 rfl (lv_at hl 2 rfl) ?_
        refine lv_bipush (v := 16) hx hb d_M_begin_17 (by decide) ?_
        refine lv_icmp_le hx hb d_M_begin_19 rfl (fun hc => ?_) (fun hc => ?_)
        · have hw := hw.1 hc
          refine lv_iload_n hx hb d_M_begin_24 rfl (lv_at hl 3 rfl) ?_
          refine lv_iconst (v := 1) hx hb d_M_begin_25 (by decide) ?_
          refine lv_icmp_eq hx hb d_M_begin_26 rfl (fun hc => ?_) (fun hc => ?_)
          · have hw := hw.1 hc
            exact b47 _ _ _ I_p0 f_p0_samples x1 x2 x3 hP hD hS (lv_sub hl [0, 1, 2, 3] rfl) hw
          · have hw := hw.2 hc
            refine lv_iload_n hx hb d_M_begin_29 rfl (lv_at hl 3 rfl) ?_
            refine lv_iconst (v := 2) hx hb d_M_begin_30 (by decide) ?_
            refine lv_icmp_eq hx hb d_M_begin_31 rfl (fun hc => ?_) (fun hc => ?_)
            · have hw := hw.1 hc
              exact b47 _ _ _ I_p0 f_p0_samples x1 x2 x3 hP hD hS (lv_sub hl [0, 1, 2, 3] rfl) hw
            · have hw := hw.2 hc
              refine lv_iload_n hx hb d_M_begin_34 rfl (lv_at hl 3 rfl) ?_
              refine lv_iconst (v := 4) hx hb d_M_begin_35 (by decide) ?_
              refine lv_icmp_eq hx hb d_M_begin_36 rfl (fun hc => ?_) (fun hc => ?_)
              · have hw := hw.1 hc
                exact b47 _ _ _ I_p0 f_p0_samples x1 x2 x3 hP hD hS (lv_sub hl [0, 1, 2, 3] rfl) hw
              · have hw := hw.2 hc
                refine lv_iload_n hx hb d_M_begin_39 rfl (lv_at hl 3 rfl) ?_
                refine lv_bipush (v := 8) hx hb d_M_begin_40 (by decide) ?_
                refine lv_icmp_eq hx hb d_M_begin_42 rfl (fun hc => ?_) (fun hc => ?_)
                · have hw := hw.1 hc
                  exact b47 _ _ _ I_p0 f_p0_samples x1 x2 x3 hP hD hS (lv_sub hl [0, 1, 2, 3] rfl) hw
                · have hw := hw.2 hc
                  refine lv_iconst (v := 0) hx hb d_M_begin_45 (by decide) ?_
                  exact hret _ _ _ _ _ (I_p0, f_p0_samples) d_M_begin_46 rfl hP hD hS hw
        · have hw := hw.2 hc
          refine lv_iconst (v := 0) hx hb d_M_begin_22 (by decide) ?_
          exact hret _ _ _ _ _ (I_p0, f_p0_samples) d_M_begin_23 rfl hP hD hS hw
theorem d_M_byteAt_0 : decode b_M_byteAt 0 = .ok (.iload_n 1, 1) := by decide +kernel
theorem d_M_byteAt_1 : decode b_M_byteAt 1 = .ok (.ifCond .lt 11, 3) := by decide +kernel
theorem d_M_byteAt_4 : decode b_M_byteAt 4 = .ok (.iload_n 1, 1) := by decide +kernel
theorem d_M_byteAt_5 : decode b_M_byteAt 5 = .ok (.aload_n 0, 1) := by decide +kernel
theorem d_M_byteAt_6 : decode b_M_byteAt 6 = .ok (.getfield 63, 3) := by decide +kernel
theorem d_M_byteAt_9 : decode b_M_byteAt 9 = .ok (.if_icmp .lt 7, 3) := by decide +kernel
theorem d_M_byteAt_12 : decode b_M_byteAt 12 = .ok (.iconst (-1), 1) := by decide +kernel
theorem d_M_byteAt_13 : decode b_M_byteAt 13 = .ok (.goto 9, 3) := by decide +kernel
theorem d_M_byteAt_16 : decode b_M_byteAt 16 = .ok (.aload_n 0, 1) := by decide +kernel
theorem d_M_byteAt_17 : decode b_M_byteAt 17 = .ok (.getfield 7, 3) := by decide +kernel
theorem d_M_byteAt_20 : decode b_M_byteAt 20 = .ok (.iload_n 1, 1) := by decide +kernel
theorem d_M_byteAt_21 : decode b_M_byteAt 21 = .ok (.iaload, 1) := by decide +kernel
theorem d_M_byteAt_22 : decode b_M_byteAt 22 = .ok (.ireturn, 1) := by decide +kernel
def wp_M_byteAt_b12 (post : Int32 → Prop) (I_p0 : Nat → Int32) (f_p0_file : Nat → Int32) : Prop :=
  post (-1)
def wp_M_byteAt (post : Int32 → Prop) (I_p0 : Nat → Int32) (f_p0_file : Nat → Int32) (x1 : Int32) : Prop :=
  ((x1 < 0 →
    wp_M_byteAt_b12 post I_p0 f_p0_file) ∧
   (¬ x1 < 0 →
    ((x1 < (I_p0 1) →
      vp_in x1 2000 ∧
      post (f_p0_file (x1).toNatClampNeg)) ∧
     (¬ x1 < (I_p0 1) →
      wp_M_byteAt_b12 post I_p0 f_p0_file))))
set_option maxRecDepth 100000 in
set_option maxHeartbeats 4000000 in
theorem c_M_byteAt (l : Launch) (dC : Nat → ClassId) (dI : Nat → Nat → Nat) (cI : ClassId) (a_p0 : Nat) (A_p0 : Nat → Nat) (I_p0 : Nat → Int32) (f_p0_file : Nat → Int32) (x1 : Int32) {post : Int32 → Prop} (hw : wp_M_byteAt post I_p0 f_p0_file x1) : gm_i l y_M_byteAt ws_M_byteAt ({ frames := 0, cells := 0, slots := 0, locals := 0 } : Room) (dC, dI) vwCl [(cI, .int)] [.ref a_p0, .int x1] [oM a_p0 A_p0 I_p0, gz cI (A_p0 0) 2000 f_p0_file] (fun (_ : Unit) => [oM a_p0 A_p0 I_p0, gz cI (A_p0 0) 2000 f_p0_file]) (fun (r : Int32) (_ : Unit) => post r) := by
  refine gm_iof (cc := b_M_byteAt) (maxL := 2) (ty := .int) (by decide) rfl (Nat.le_of_ble_eq_true rfl) ?_
  intro p e s m args below meth c A Q hx hb hml hown hg hK hN hA hret
  have hown : s.vm.findClass R_M = some m.cls := hown
  have b12 : ∀ (H : Heap) (locs : List Loc) (ls : Array Slot), va_P (dC, dI) vwCl [oM a_p0 A_p0 I_p0, gz cI (A_p0 0) 2000 f_p0_file] H → va_D A [oM a_p0 A_p0 I_p0, gz cI (A_p0 0) 2000 f_p0_file] → va_S A s.heap H locs → lv_has ls 2 [] → wp_M_byteAt_b12 post I_p0 f_p0_file → W p l e ({ frames := 0, cells := 0, slots := 0, locals := 0 } : Room) s m args below meth c H locs 0 0 Q (F0 m 12 ls []) := by
    intro H locs ls hP hD hS hl hw
    unfold wp_M_byteAt_b12 at hw
    refine lv_iconst (v := (-1)) hx hb d_M_byteAt_12 (by decide) ?_
    refine lv_goto hx hb d_M_byteAt_13 rfl ?_
    exact hret _ _ _ _ _ () d_M_byteAt_22 rfl hP hD hS hw
  intro ls hl hP hD hS
  have hl : lv_has ls 2 [(0, .ref a_p0), (1, .int x1)] := hl
  unfold wp_M_byteAt at hw
  refine lv_iload_n hx hb d_M_byteAt_0 rfl (lv_at hl 1 rfl) ?_
  refine lv_if_lt hx hb d_M_byteAt_1 rfl (fun hc => ?_) (fun hc => ?_)
  · have hw := hw.1 hc
    exact b12 _ _ _ hP hD hS (lv_sub hl [] rfl) hw
  · have hw := hw.2 hc
    refine lv_iload_n hx hb d_M_byteAt_4 rfl (lv_at hl 1 rfl) ?_
    refine lv_aload_n hx hb d_M_byteAt_5 rfl (lv_at hl 0 rfl) ?_
    refine va_get (D := (dC, dI)) (ci := 10) (v := .int (I_p0 1)) (C := R_M) (T := T_M) (N := 30) hx hb hg in_M hown hK hP 0 rfl rfl 1 (by decide) (hg _ t_759) (fun _ h9 => h9) rfl d_M_byteAt_6 ?_
    refine lv_icmp_lt hx hb d_M_byteAt_9 rfl (fun hc => ?_) (fun hc => ?_)
    · have hw := hw.1 hc
      refine lv_aload_n hx hb d_M_byteAt_16 rfl (lv_at hl 0 rfl) ?_
      refine va_get (D := (dC, dI)) (ci := 10) (v := .ref (A_p0 0)) (C := R_M) (T := T_M) (N := 30) hx hb hg in_M hown hK hP 0 rfl rfl 0 (by decide) (hg _ t_758) (fun _ h9 => h9) rfl d_M_byteAt_17 ?_
      refine lv_iload_n hx hb d_M_byteAt_20 rfl (lv_at hl 1 rfl) ?_
      obtain ⟨hin, hw⟩ := hw
      refine va_iald hx hb hK hP 1 0 rfl rfl hin d_M_byteAt_21 ?_
      exact hret _ _ _ _ _ () d_M_byteAt_22 rfl hP hD hS hw
    · have hw := hw.2 hc
      exact b12 _ _ _ hP hD hS (lv_sub hl [] rfl) hw
