theorem d_X_load_0 : decode b_X_load 0 = .ok (.aload_n 0, 1) := by decide +kernel
theorem d_X_load_1 : decode b_X_load 1 = .ok (.getfield 19, 3) := by decide +kernel
theorem d_X_load_4 : decode b_X_load 4 = .ok (.aload_n 0, 1) := by decide +kernel
theorem d_X_load_5 : decode b_X_load 5 = .ok (.getfield 10, 3) := by decide +kernel
theorem d_X_load_8 : decode b_X_load 8 = .ok (.invokevirtual 153, 3) := by decide +kernel
theorem d_X_load_11 : decode b_X_load 11 = .ok (.aload_n 0, 1) := by decide +kernel
theorem d_X_load_12 : decode b_X_load 12 = .ok (.getfield 19, 3) := by decide +kernel
theorem d_X_load_15 : decode b_X_load 15 = .ok (.iload_n 1, 1) := by decide +kernel
theorem d_X_load_16 : decode b_X_load 16 = .ok (.invokevirtual 187, 3) := by decide +kernel
theorem d_X_load_19 : decode b_X_load 19 = .ok (.ifCond .ne 6, 3) := by decide +kernel
theorem d_X_load_22 : decode b_X_load 22 = .ok (.bipush (-4), 2) := by decide +kernel
theorem d_X_load_24 : decode b_X_load 24 = .ok (.ireturn, 1) := by decide +kernel
theorem d_X_load_25 : decode b_X_load 25 = .ok (.aload_n 0, 1) := by decide +kernel
theorem d_X_load_26 : decode b_X_load 26 = .ok (.aload_n 0, 1) := by decide +kernel
theorem d_X_load_27 : decode b_X_load 27 = .ok (.getfield 19, 3) := by decide +kernel
theorem d_X_load_30 : decode b_X_load 30 = .ok (.getfield 191, 3) := by decide +kernel
theorem d_X_load_33 : decode b_X_load 33 = .ok (.iload_n 1, 1) := by decide +kernel
theorem d_X_load_34 : decode b_X_load 34 = .ok (.iaload, 1) := by decide +kernel
theorem d_X_load_35 : decode b_X_load 35 = .ok (.invokevirtual 194, 3) := by decide +kernel
theorem d_X_load_38 : decode b_X_load 38 = .ok (.ifCond .ne 6, 3) := by decide +kernel
theorem d_X_load_41 : decode b_X_load 41 = .ok (.bipush (-5), 2) := by decide +kernel
theorem d_X_load_43 : decode b_X_load 43 = .ok (.ireturn, 1) := by decide +kernel
theorem d_X_load_44 : decode b_X_load 44 = .ok (.iconst 0, 1) := by decide +kernel
theorem d_X_load_45 : decode b_X_load 45 = .ok (.istore_n 2, 1) := by decide +kernel
theorem d_X_load_46 : decode b_X_load 46 = .ok (.iload_n 2, 1) := by decide +kernel
theorem d_X_load_47 : decode b_X_load 47 = .ok (.aload_n 0, 1) := by decide +kernel
theorem d_X_load_48 : decode b_X_load 48 = .ok (.getfield 40, 3) := by decide +kernel
theorem d_X_load_51 : decode b_X_load 51 = .ok (.invokevirtual 197, 3) := by decide +kernel
theorem d_X_load_54 : decode b_X_load 54 = .ok (.if_icmp .ge 22, 3) := by decide +kernel
theorem d_X_load_57 : decode b_X_load 57 = .ok (.aload_n 0, 1) := by decide +kernel
theorem d_X_load_58 : decode b_X_load 58 = .ok (.iload_n 2, 1) := by decide +kernel
theorem d_X_load_59 : decode b_X_load 59 = .ok (.invokevirtual 200, 3) := by decide +kernel
theorem d_X_load_62 : decode b_X_load 62 = .ok (.ifCond .ne 8, 3) := by decide +kernel
theorem d_X_load_65 : decode b_X_load 65 = .ok (.bipush (-6), 2) := by decide +kernel
theorem d_X_load_67 : decode b_X_load 67 = .ok (.iload_n 2, 1) := by decide +kernel
theorem d_X_load_68 : decode b_X_load 68 = .ok (.isub, 1) := by decide +kernel
theorem d_X_load_69 : decode b_X_load 69 = .ok (.ireturn, 1) := by decide +kernel
theorem d_X_load_70 : decode b_X_load 70 = .ok (.iinc 2 1, 3) := by decide +kernel
theorem d_X_load_73 : decode b_X_load 73 = .ok (.goto (-27), 3) := by decide +kernel
theorem d_X_load_76 : decode b_X_load 76 = .ok (.aload_n 0, 1) := by decide +kernel
theorem d_X_load_77 : decode b_X_load 77 = .ok (.getfield 26, 3) := by decide +kernel
theorem d_X_load_80 : decode b_X_load 80 = .ok (.aload_n 0, 1) := by decide +kernel
theorem d_X_load_81 : decode b_X_load 81 = .ok (.getfield 40, 3) := by decide +kernel
theorem d_X_load_84 : decode b_X_load 84 = .ok (.getfield 203, 3) := by decide +kernel
theorem d_X_load_87 : decode b_X_load 87 = .ok (.aload_n 0, 1) := by decide +kernel
theorem d_X_load_88 : decode b_X_load 88 = .ok (.getfield 40, 3) := by decide +kernel
theorem d_X_load_91 : decode b_X_load 91 = .ok (.getfield 204, 3) := by decide +kernel
theorem d_X_load_94 : decode b_X_load 94 = .ok (.aload_n 0, 1) := by decide +kernel
theorem d_X_load_95 : decode b_X_load 95 = .ok (.getfield 40, 3) := by decide +kernel
theorem d_X_load_98 : decode b_X_load 98 = .ok (.getfield 205, 3) := by decide +kernel
theorem d_X_load_101 : decode b_X_load 101 = .ok (.invokevirtual 92, 3) := by decide +kernel
theorem d_X_load_104 : decode b_X_load 104 = .ok (.aload_n 0, 1) := by decide +kernel
theorem d_X_load_105 : decode b_X_load 105 = .ok (.getfield 47, 3) := by decide +kernel
theorem d_X_load_108 : decode b_X_load 108 = .ok (.aload_n 0, 1) := by decide +kernel
theorem d_X_load_109 : decode b_X_load 109 = .ok (.getfield 40, 3) := by decide +kernel
theorem d_X_load_112 : decode b_X_load 112 = .ok (.aload_n 0, 1) := by decide +kernel
theorem d_X_load_113 : decode b_X_load 113 = .ok (.getfield 26, 3) := by decide +kernel
theorem d_X_load_116 : decode b_X_load 116 = .ok (.invokevirtual 206, 3) := by decide +kernel
theorem d_X_load_119 : decode b_X_load 119 = .ok (.iconst 0, 1) := by decide +kernel
theorem d_X_load_120 : decode b_X_load 120 = .ok (.ireturn, 1) := by decide +kernel
def wp_X_load_l46 (post : Int32 → (Nat → Int32) → (Nat → Int32) → (Nat → Int32) → (Nat → Int32) → (Nat → Int32) → (Nat → Int64) → (Nat → Int32) → (Nat → Int32) → (Nat → Int32) → (Nat → Int32) → (Nat → Int64) → (Nat → Int32) → (Nat → Int64) → (Nat → Int32) → (Nat → Int32) → Prop) (I_p0_file : Nat → Int32) (f_p0_file_bytes : Nat → Int32) : Nat → (Nat → Int32) → (Nat → Int32) → (Nat → Int32) → (Nat → Int32) → (Nat → Int32) → (Nat → Int64) → (Nat → Int32) → (Nat → Int32) → (Nat → Int32) → (Nat → Int32) → (Nat → Int64) → (Nat → Int32) → (Nat → Int64) → (Nat → Int32) → (Nat → Int32) → Int32 → Prop
  | 0, _, _, _, _, _, _, _, _, _, _, _, _, _, _, _, _ => False
  | n + 1, f_p0_data_bytes, I_p0_decoder, f_p0_decoder_sizes, f_p0_decoder_starts, I_p0_entry, L_p0_entry, I_p0_layout, I_p0_picture, f_p0_picture_samples, I_p0_stripLengths, L_p0_stripLengths, I_p0_stripPlaces, L_p0_stripPlaces, I_p0_walk, f_p0_walk_places, x2 =>
    wp_Ly_strips (fun (r51 : Int32) =>
      ((r51 ≤ x2 →
        wp_Pi_become (fun (I_p0_picture_101 : Nat → Int32) (f_p0_picture_samples_101 : Nat → Int32) =>
          wp_Da_unpack (fun (f_p0_picture_samples_116 : Nat → Int32) =>
            post 0 f_p0_data_bytes I_p0_decoder f_p0_decoder_sizes f_p0_decoder_starts I_p0_entry L_p0_entry I_p0_layout I_p0_picture_101 f_p0_picture_samples_116 I_p0_stripLengths L_p0_stripLengths I_p0_stripPlaces L_p0_stripPlaces I_p0_walk f_p0_walk_places) f_p0_data_bytes I_p0_layout I_p0_picture_101 f_p0_picture_samples_101) I_p0_picture f_p0_picture_samples (I_p0_layout 0) (I_p0_layout 1) (I_p0_layout 2)) ∧
       (¬ r51 ≤ x2 →
        wp_X_decodeStrip (fun (r59 : Int32) (f_p0_data_bytes_59 : Nat → Int32) (I_p0_decoder_59 : Nat → Int32) (f_p0_decoder_sizes_59 : Nat → Int32) (f_p0_decoder_starts_59 : Nat → Int32) =>
          ((r59 = 0 →
            post ((-6) - x2) f_p0_data_bytes_59 I_p0_decoder_59 f_p0_decoder_sizes_59 f_p0_decoder_starts_59 I_p0_entry L_p0_entry I_p0_layout I_p0_picture f_p0_picture_samples I_p0_stripLengths L_p0_stripLengths I_p0_stripPlaces L_p0_stripPlaces I_p0_walk f_p0_walk_places) ∧
           (¬ r59 = 0 →
            wp_X_load_l46 post I_p0_file f_p0_file_bytes n f_p0_data_bytes_59 I_p0_decoder_59 f_p0_decoder_sizes_59 f_p0_decoder_starts_59 I_p0_entry L_p0_entry I_p0_layout I_p0_picture f_p0_picture_samples I_p0_stripLengths L_p0_stripLengths I_p0_stripPlaces L_p0_stripPlaces I_p0_walk f_p0_walk_places (x2 + 1)))) I_p0_file f_p0_file_bytes I_p0_layout I_p0_stripLengths L_p0_stripLengths I_p0_stripPlaces L_p0_stripPlaces f_p0_data_bytes I_p0_decoder f_p0_decoder_sizes f_p0_decoder_starts x2))) I_p0_layout
def wp_X_load (post : Int32 → (Nat → Int32) → (Nat → Int32) → (Nat → Int32) → (Nat → Int32) → (Nat → Int32) → (Nat → Int64) → (Nat → Int32) → (Nat → Int32) → (Nat → Int32) → (Nat → Int32) → (Nat → Int64) → (Nat → Int32) → (Nat → Int64) → (Nat → Int32) → (Nat → Int32) → Prop) (I_p0_file : Nat → Int32) (f_p0_file_bytes : Nat → Int32) (f_p0_data_bytes : Nat → Int32) (I_p0_decoder : Nat → Int32) (f_p0_decoder_sizes : Nat → Int32) (f_p0_decoder_starts : Nat → Int32) (I_p0_entry : Nat → Int32) (L_p0_entry : Nat → Int64) (I_p0_layout : Nat → Int32) (I_p0_picture : Nat → Int32) (f_p0_picture_samples : Nat → Int32) (I_p0_stripLengths : Nat → Int32) (L_p0_stripLengths : Nat → Int64) (I_p0_stripPlaces : Nat → Int32) (L_p0_stripPlaces : Nat → Int64) (I_p0_walk : Nat → Int32) (f_p0_walk_places : Nat → Int32) (x1 : Int32) : Prop :=
  wp_Wk_follow (fun (I_p0_walk_8 : Nat → Int32) (f_p0_walk_places_8 : Nat → Int32) =>
    wp_Wk_hasPage (fun (r16 : Int32) =>
      ((r16 = 0 →
        post (-4) f_p0_data_bytes I_p0_decoder f_p0_decoder_sizes f_p0_decoder_starts I_p0_entry L_p0_entry I_p0_layout I_p0_picture f_p0_picture_samples I_p0_stripLengths L_p0_stripLengths I_p0_stripPlaces L_p0_stripPlaces I_p0_walk_8 f_p0_walk_places_8) ∧
       (¬ r16 = 0 →
        vp_in x1 8 ∧
        wp_X_readLayout (fun (r35 : Int32) (I_p0_entry_35 : Nat → Int32) (L_p0_entry_35 : Nat → Int64) (I_p0_layout_35 : Nat → Int32) (I_p0_stripLengths_35 : Nat → Int32) (L_p0_stripLengths_35 : Nat → Int64) (I_p0_stripPlaces_35 : Nat → Int32) (L_p0_stripPlaces_35 : Nat → Int64) =>
          ((r35 = 0 →
            post (-5) f_p0_data_bytes I_p0_decoder f_p0_decoder_sizes f_p0_decoder_starts I_p0_entry_35 L_p0_entry_35 I_p0_layout_35 I_p0_picture f_p0_picture_samples I_p0_stripLengths_35 L_p0_stripLengths_35 I_p0_stripPlaces_35 L_p0_stripPlaces_35 I_p0_walk_8 f_p0_walk_places_8) ∧
           (¬ r35 = 0 →
            (∃ n1 : Nat, wp_X_load_l46 post I_p0_file f_p0_file_bytes n1 f_p0_data_bytes I_p0_decoder f_p0_decoder_sizes f_p0_decoder_starts I_p0_entry_35 L_p0_entry_35 I_p0_layout_35 I_p0_picture f_p0_picture_samples I_p0_stripLengths_35 L_p0_stripLengths_35 I_p0_stripPlaces_35 L_p0_stripPlaces_35 I_p0_walk_8 f_p0_walk_places_8 0)))) I_p0_file f_p0_file_bytes I_p0_entry L_p0_entry I_p0_layout I_p0_stripLengths L_p0_stripLengths I_p0_stripPlaces L_p0_stripPlaces (f_p0_walk_places_8 (x1).toNatClampNeg)))) I_p0_walk_8 x1) I_p0_file f_p0_file_bytes I_p0_walk f_p0_walk_places
set_option maxRecDepth 100000 in
set_option maxHeartbeats 4000000 in
theorem c_X_load (l : Launch) (dC : Nat → ClassId) (dI : Nat → Nat → Nat) (cI : ClassId) (a_p0 : Nat) (A_p0 : Nat → Nat) (A_p0_data : Nat → Nat) (A_p0_decoder : Nat → Nat) (A_p0_file : Nat → Nat) (A_p0_picture : Nat → Nat) (A_p0_walk : Nat → Nat) (I_p0_file : Nat → Int32) (f_p0_file_bytes : Nat → Int32) (f_p0_data_bytes : Nat → Int32) (I_p0_decoder : Nat → Int32) (f_p0_decoder_sizes : Nat → Int32) (f_p0_decoder_starts : Nat → Int32) (I_p0_entry : Nat → Int32) (L_p0_entry : Nat → Int64) (I_p0_layout : Nat → Int32) (I_p0_picture : Nat → Int32) (f_p0_picture_samples : Nat → Int32) (I_p0_stripLengths : Nat → Int32) (L_p0_stripLengths : Nat → Int64) (I_p0_stripPlaces : Nat → Int32) (L_p0_stripPlaces : Nat → Int64) (I_p0_walk : Nat → Int32) (f_p0_walk_places : Nat → Int32) (x1 : Int32) {post : Int32 → (Nat → Int32) → (Nat → Int32) → (Nat → Int32) → (Nat → Int32) → (Nat → Int32) → (Nat → Int64) → (Nat → Int32) → (Nat → Int32) → (Nat → Int32) → (Nat → Int32) → (Nat → Int64) → (Nat → Int32) → (Nat → Int64) → (Nat → Int32) → (Nat → Int32) → Prop} (hw : wp_X_load post I_p0_file f_p0_file_bytes f_p0_data_bytes I_p0_decoder f_p0_decoder_sizes f_p0_decoder_starts I_p0_entry L_p0_entry I_p0_layout I_p0_picture f_p0_picture_samples I_p0_stripLengths L_p0_stripLengths I_p0_stripPlaces L_p0_stripPlaces I_p0_walk f_p0_walk_places x1) : gm_i l y_X_load ws_X_load ({ frames := 6, cells := 0, slots := 0, locals := 150 } : Room) (dC, dI) vwCl [(cI, .int)] [.ref a_p0, .int x1] [oX a_p0 A_p0, oDa (A_p0 5) A_p0_data, gz cI (A_p0_data 0) 256 f_p0_data_bytes, oNd (A_p0 7) A_p0_decoder I_p0_decoder, gz cI (A_p0_decoder 1) 110 f_p0_decoder_sizes, gz cI (A_p0_decoder 0) 110 f_p0_decoder_starts, oEn (A_p0 8) I_p0_entry L_p0_entry, oSt (A_p0 0) A_p0_file I_p0_file, gz cI (A_p0_file 0) 900 f_p0_file_bytes, oLy (A_p0 4) I_p0_layout, oPi (A_p0 2) A_p0_picture I_p0_picture, gz cI (A_p0_picture 0) 256 f_p0_picture_samples, oEn (A_p0 10) I_p0_stripLengths L_p0_stripLengths, oEn (A_p0 9) I_p0_stripPlaces L_p0_stripPlaces, oWk (A_p0 1) A_p0_walk I_p0_walk, gz cI (A_p0_walk 0) 8 f_p0_walk_places] (fun (u : (Nat → Int32) × (Nat → Int32) × (Nat → Int32) × (Nat → Int32) × (Nat → Int32) × (Nat → Int64) × (Nat → Int32) × (Nat → Int32) × (Nat → Int32) × (Nat → Int32) × (Nat → Int64) × (Nat → Int32) × (Nat → Int64) × (Nat → Int32) × (Nat → Int32)) => [oX a_p0 A_p0, oDa (A_p0 5) A_p0_data, gz cI (A_p0_data 0) 256 u.1, oNd (A_p0 7) A_p0_decoder u.2.1, gz cI (A_p0_decoder 1) 110 u.2.2.1, gz cI (A_p0_decoder 0) 110 u.2.2.2.1, oEn (A_p0 8) u.2.2.2.2.1 u.2.2.2.2.2.1, oSt (A_p0 0) A_p0_file I_p0_file, gz cI (A_p0_file 0) 900 f_p0_file_bytes, oLy (A_p0 4) u.2.2.2.2.2.2.1, oPi (A_p0 2) A_p0_picture u.2.2.2.2.2.2.2.1, gz cI (A_p0_picture 0) 256 u.2.2.2.2.2.2.2.2.1, oEn (A_p0 10) u.2.2.2.2.2.2.2.2.2.1 u.2.2.2.2.2.2.2.2.2.2.1, oEn (A_p0 9) u.2.2.2.2.2.2.2.2.2.2.2.1 u.2.2.2.2.2.2.2.2.2.2.2.2.1, oWk (A_p0 1) A_p0_walk u.2.2.2.2.2.2.2.2.2.2.2.2.2.1, gz cI (A_p0_walk 0) 8 u.2.2.2.2.2.2.2.2.2.2.2.2.2.2]) (fun (r : Int32) (u : (Nat → Int32) × (Nat → Int32) × (Nat → Int32) × (Nat → Int32) × (Nat → Int32) × (Nat → Int64) × (Nat → Int32) × (Nat → Int32) × (Nat → Int32) × (Nat → Int32) × (Nat → Int64) × (Nat → Int32) × (Nat → Int64) × (Nat → Int32) × (Nat → Int32)) => post r u.1 u.2.1 u.2.2.1 u.2.2.2.1 u.2.2.2.2.1 u.2.2.2.2.2.1 u.2.2.2.2.2.2.1 u.2.2.2.2.2.2.2.1 u.2.2.2.2.2.2.2.2.1 u.2.2.2.2.2.2.2.2.2.1 u.2.2.2.2.2.2.2.2.2.2.1 u.2.2.2.2.2.2.2.2.2.2.2.1 u.2.2.2.2.2.2.2.2.2.2.2.2.1 u.2.2.2.2.2.2.2.2.2.2.2.2.2.1 u.2.2.2.2.2.2.2.2.2.2.2.2.2.2) := by
  refine gm_iof (cc := b_X_load) (maxL := 3) (ty := .int) (by decide) rfl (Nat.le_of_ble_eq_true rfl) ?_
  intro p e s m args below meth c A Q hx hb hml hown hg hK hN hA hret
  have hown : s.vm.findClass R_X = some m.cls := hown
  have l46 : ∀ n : Nat, ∀ (H : Heap) (locs : List Loc) (ls : Array Slot) (f_p0_data_bytes : Nat → Int32) (I_p0_decoder : Nat → Int32) (f_p0_decoder_sizes : Nat → Int32) (f_p0_decoder_starts : Nat → Int32) (I_p0_entry : Nat → Int32) (L_p0_entry : Nat → Int64) (I_p0_layout : Nat → Int32) (I_p0_picture : Nat → Int32) (f_p0_picture_samples : Nat → Int32) (I_p0_stripLengths : Nat → Int32) (L_p0_stripLengths : Nat → Int64) (I_p0_stripPlaces : Nat → Int32) (L_p0_stripPlaces : Nat → Int64) (I_p0_walk : Nat → Int32) (f_p0_walk_places : Nat → Int32) (x2 : Int32), va_P (dC, dI) vwCl [oX a_p0 A_p0, oDa (A_p0 5) A_p0_data, gz cI (A_p0_data 0) 256 f_p0_data_bytes, oNd (A_p0 7) A_p0_decoder I_p0_decoder, gz cI (A_p0_decoder 1) 110 f_p0_decoder_sizes, gz cI (A_p0_decoder 0) 110 f_p0_decoder_starts, oEn (A_p0 8) I_p0_entry L_p0_entry, oSt (A_p0 0) A_p0_file I_p0_file, gz cI (A_p0_file 0) 900 f_p0_file_bytes, oLy (A_p0 4) I_p0_layout, oPi (A_p0 2) A_p0_picture I_p0_picture, gz cI (A_p0_picture 0) 256 f_p0_picture_samples, oEn (A_p0 10) I_p0_stripLengths L_p0_stripLengths, oEn (A_p0 9) I_p0_stripPlaces L_p0_stripPlaces, oWk (A_p0 1) A_p0_walk I_p0_walk, gz cI (A_p0_walk 0) 8 f_p0_walk_places] H → va_D A [oX a_p0 A_p0, oDa (A_p0 5) A_p0_data, gz cI (A_p0_data 0) 256 f_p0_data_bytes, oNd (A_p0 7) A_p0_decoder I_p0_decoder, gz cI (A_p0_decoder 1) 110 f_p0_decoder_sizes, gz cI (A_p0_decoder 0) 110 f_p0_decoder_starts, oEn (A_p0 8) I_p0_entry L_p0_entry, oSt (A_p0 0) A_p0_file I_p0_file, gz cI (A_p0_file 0) 900 f_p0_file_bytes, oLy (A_p0 4) I_p0_layout, oPi (A_p0 2) A_p0_picture I_p0_picture, gz cI (A_p0_picture 0) 256 f_p0_picture_samples, oEn (A_p0 10) I_p0_stripLengths L_p0_stripLengths, oEn (A_p0 9) I_p0_stripPlaces L_p0_stripPlaces, oWk (A_p0 1) A_p0_walk I_p0_walk, gz cI (A_p0_walk 0) 8 f_p0_walk_places] → va_S A s.heap H locs → lv_has ls 3 [(0, .ref a_p0), (2, .int x2)] → wp_X_load_l46 post I_p0_file f_p0_file_bytes n f_p0_data_bytes I_p0_decoder f_p0_decoder_sizes f_p0_decoder_starts I_p0_entry L_p0_entry I_p0_layout I_p0_picture f_p0_picture_samples I_p0_stripLengths L_p0_stripLengths I_p0_stripPlaces L_p0_stripPlaces I_p0_walk f_p0_walk_places x2 → W p l e ({ frames := 6, cells := 0, slots := 0, locals := 150 } : Room) s m args below meth c H locs 0 0 Q (F0 m 46 ls []) := by
    intro n
    induction n with
    | zero => intro H locs ls f_p0_data_bytes I_p0_decoder f_p0_decoder_sizes f_p0_decoder_starts I_p0_entry L_p0_entry I_p0_layout I_p0_picture f_p0_picture_samples I_p0_stripLengths L_p0_stripLengths I_p0_stripPlaces L_p0_stripPlaces I_p0_walk f_p0_walk_places x2 hP hD hS hl hw; exact hw.elim
    | succ n ih =>
      intro H locs ls f_p0_data_bytes I_p0_decoder f_p0_decoder_sizes f_p0_decoder_starts I_p0_entry L_p0_entry I_p0_layout I_p0_picture f_p0_picture_samples I_p0_stripLengths L_p0_stripLengths I_p0_stripPlaces L_p0_stripPlaces I_p0_walk f_p0_walk_places x2 hP hD hS hl hw
      unfold wp_X_load_l46 at hw
      refine lv_iload_n hx hb d_X_load_46 rfl (lv_at hl 1 rfl) ?_
      refine lv_aload_n hx hb d_X_load_47 rfl (lv_at hl 0 rfl) ?_
      refine va_get (D := (dC, dI)) (ci := 9) (v := .ref (A_p0 4)) (C := R_X) (T := T_X) (N := 14) hx hb hg in_X hown hK hP 0 rfl rfl 4 (by decide) (hg _ t_311) (fun _ h9 => h9) rfl d_X_load_48 ?_
      refine gc_i (wn := fun (_ : Unit) => [oX a_p0 A_p0, oDa (A_p0 5) A_p0_data, gz cI (A_p0_data 0) 256 f_p0_data_bytes, oNd (A_p0 7) A_p0_decoder I_p0_decoder, gz cI (A_p0_decoder 1) 110 f_p0_decoder_sizes, gz cI (A_p0_decoder 0) 110 f_p0_decoder_starts, oEn (A_p0 8) I_p0_entry L_p0_entry, oSt (A_p0 0) A_p0_file I_p0_file, gz cI (A_p0_file 0) 900 f_p0_file_bytes, oLy (A_p0 4) I_p0_layout, oPi (A_p0 2) A_p0_picture I_p0_picture, gz cI (A_p0_picture 0) 256 f_p0_picture_samples, oEn (A_p0 10) I_p0_stripLengths L_p0_stripLengths, oEn (A_p0 9) I_p0_stripPlaces L_p0_stripPlaces, oWk (A_p0 1) A_p0_walk I_p0_walk, gz cI (A_p0_walk 0) 8 f_p0_walk_places]) (wr := [oX a_p0 A_p0, oDa (A_p0 5) A_p0_data, gz cI (A_p0_data 0) 256 f_p0_data_bytes, oNd (A_p0 7) A_p0_decoder I_p0_decoder, gz cI (A_p0_decoder 1) 110 f_p0_decoder_sizes, gz cI (A_p0_decoder 0) 110 f_p0_decoder_starts, oEn (A_p0 8) I_p0_entry L_p0_entry, oSt (A_p0 0) A_p0_file I_p0_file, gz cI (A_p0_file 0) 900 f_p0_file_bytes, oPi (A_p0 2) A_p0_picture I_p0_picture, gz cI (A_p0_picture 0) 256 f_p0_picture_samples, oEn (A_p0 10) I_p0_stripLengths L_p0_stripLengths, oEn (A_p0 9) I_p0_stripPlaces L_p0_stripPlaces, oWk (A_p0 1) A_p0_walk I_p0_walk, gz cI (A_p0_walk 0) 8 f_p0_walk_places]) (gr_V (As := []) (rest := [.int x2]) ⟨hx, hb, hml, hown, hg⟩ (c_Ly_strips l dC dI cI (A_p0 4) I_p0_layout hw _) (cwV 0 hg (gg_V t_511 t_512 t_513 t_65 t_514) rfl rfl rfl (by decide +kernel) ⟨Nat.le_of_ble_eq_true rfl, Nat.le_of_ble_eq_true rfl⟩) hK hN hP hD [9] (by decide) rfl 9 3 rfl rfl rfl rfl hl.1 rfl (Nat.le_of_ble_eq_true rfl) d_X_load_51 ⟨Nat.le_of_ble_eq_true rfl, Nat.le_of_ble_eq_true rfl⟩) rfl rfl hP hD hS hA [9] [0, 1, 2, 3, 4, 5, 6, 7, 8, 10, 11, 12, 13, 14, 15] [0, 1, 2, 3, 4, 5, 6, 7, 8, 15, 9, 10, 11, 12, 13, 14] rfl rfl (by decide) (by decide) (by decide) (fun _ => rfl) ?_
      intro r51 _ H locs hw hP hD hS
      try dsimp only at hw
      have hP : va_P (dC, dI) vwCl [oX a_p0 A_p0, oDa (A_p0 5) A_p0_data, gz cI (A_p0_data 0) 256 f_p0_data_bytes, oNd (A_p0 7) A_p0_decoder I_p0_decoder, gz cI (A_p0_decoder 1) 110 f_p0_decoder_sizes, gz cI (A_p0_decoder 0) 110 f_p0_decoder_starts, oEn (A_p0 8) I_p0_entry L_p0_entry, oSt (A_p0 0) A_p0_file I_p0_file, gz cI (A_p0_file 0) 900 f_p0_file_bytes, oLy (A_p0 4) I_p0_layout, oPi (A_p0 2) A_p0_picture I_p0_picture, gz cI (A_p0_picture 0) 256 f_p0_picture_samples, oEn (A_p0 10) I_p0_stripLengths L_p0_stripLengths, oEn (A_p0 9) I_p0_stripPlaces L_p0_stripPlaces, oWk (A_p0 1) A_p0_walk I_p0_walk, gz cI (A_p0_walk 0) 8 f_p0_walk_places] H := hP
      have hD : va_D A [oX a_p0 A_p0, oDa (A_p0 5) A_p0_data, gz cI (A_p0_data 0) 256 f_p0_data_bytes, oNd (A_p0 7) A_p0_decoder I_p0_decoder, gz cI (A_p0_decoder 1) 110 f_p0_decoder_sizes, gz cI (A_p0_decoder 0) 110 f_p0_decoder_starts, oEn (A_p0 8) I_p0_entry L_p0_entry, oSt (A_p0 0) A_p0_file I_p0_file, gz cI (A_p0_file 0) 900 f_p0_file_bytes, oLy (A_p0 4) I_p0_layout, oPi (A_p0 2) A_p0_picture I_p0_picture, gz cI (A_p0_picture 0) 256 f_p0_picture_samples, oEn (A_p0 10) I_p0_stripLengths L_p0_stripLengths, oEn (A_p0 9) I_p0_stripPlaces L_p0_stripPlaces, oWk (A_p0 1) A_p0_walk I_p0_walk, gz cI (A_p0_walk 0) 8 f_p0_walk_places] := hD
      refine lv_icmp_ge hx hb d_X_load_54 rfl (fun hc => ?_) (fun hc => ?_)
      · have hw := hw.1 hc
        refine lv_aload_n hx hb d_X_load_76 rfl (lv_at hl 0 rfl) ?_
        refine va_get (D := (dC, dI)) (ci := 9) (v := .ref (A_p0 2)) (C := R_X) (T := T_X) (N := 14) hx hb hg in_X hown hK hP 0 rfl rfl 2 (by decide) (hg _ t_309) (fun _ h9 => h9) rfl d_X_load_77 ?_
        refine lv_aload_n hx hb d_X_load_80 rfl (lv_at hl 0 rfl) ?_
        refine va_get (D := (dC, dI)) (ci := 9) (v := .ref (A_p0 4)) (C := R_X) (T := T_X) (N := 14) hx hb hg in_X hown hK hP 0 rfl rfl 4 (by decide) (hg _ t_311) (fun _ h9 => h9) rfl d_X_load_81 ?_
        refine va_get (D := (dC, dI)) (ci := 3) (v := .int (I_p0_layout 0)) (C := R_Ly) (T := T_Ly) (N := 6) hx hb hg in_Ly hown hK hP 9 rfl rfl 0 (by decide) (hg _ t_180) (fun _ h9 => h9) rfl d_X_load_84 ?_
        refine lv_aload_n hx hb d_X_load_87 rfl (lv_at hl 0 rfl) ?_
        refine va_get (D := (dC, dI)) (ci := 9) (v := .ref (A_p0 4)) (C := R_X) (T := T_X) (N := 14) hx hb hg in_X hown hK hP 0 rfl rfl 4 (by decide) (hg _ t_311) (fun _ h9 => h9) rfl d_X_load_88 ?_
        refine va_get (D := (dC, dI)) (ci := 3) (v := .int (I_p0_layout 1)) (C := R_Ly) (T := T_Ly) (N := 6) hx hb hg in_Ly hown hK hP 9 rfl rfl 1 (by decide) (hg _ t_183) (fun _ h9 => h9) rfl d_X_load_91 ?_
        refine lv_aload_n hx hb d_X_load_94 rfl (lv_at hl 0 rfl) ?_
        refine va_get (D := (dC, dI)) (ci := 9) (v := .ref (A_p0 4)) (C := R_X) (T := T_X) (N := 14) hx hb hg in_X hown hK hP 0 rfl rfl 4 (by decide) (hg _ t_311) (fun _ h9 => h9) rfl d_X_load_95 ?_
        refine va_get (D := (dC, dI)) (ci := 3) (v := .int (I_p0_layout 2)) (C := R_Ly) (T := T_Ly) (N := 6) hx hb hg in_Ly hown hK hP 9 rfl rfl 2 (by decide) (hg _ t_186) (fun _ h9 => h9) rfl d_X_load_98 ?_
        refine gc_v (wn := fun u => [oX a_p0 A_p0, oDa (A_p0 5) A_p0_data, gz cI (A_p0_data 0) 256 f_p0_data_bytes, oNd (A_p0 7) A_p0_decoder I_p0_decoder, gz cI (A_p0_decoder 1) 110 f_p0_decoder_sizes, gz cI (A_p0_decoder 0) 110 f_p0_decoder_starts, oEn (A_p0 8) I_p0_entry L_p0_entry, oSt (A_p0 0) A_p0_file I_p0_file, gz cI (A_p0_file 0) 900 f_p0_file_bytes, oLy (A_p0 4) I_p0_layout, oPi (A_p0 2) A_p0_picture u.1, gz cI (A_p0_picture 0) 256 u.2, oEn (A_p0 10) I_p0_stripLengths L_p0_stripLengths, oEn (A_p0 9) I_p0_stripPlaces L_p0_stripPlaces, oWk (A_p0 1) A_p0_walk I_p0_walk, gz cI (A_p0_walk 0) 8 f_p0_walk_places]) (wr := [oX a_p0 A_p0, oDa (A_p0 5) A_p0_data, gz cI (A_p0_data 0) 256 f_p0_data_bytes, oNd (A_p0 7) A_p0_decoder I_p0_decoder, gz cI (A_p0_decoder 1) 110 f_p0_decoder_sizes, gz cI (A_p0_decoder 0) 110 f_p0_decoder_starts, oEn (A_p0 8) I_p0_entry L_p0_entry, oSt (A_p0 0) A_p0_file I_p0_file, gz cI (A_p0_file 0) 900 f_p0_file_bytes, oLy (A_p0 4) I_p0_layout, oEn (A_p0 10) I_p0_stripLengths L_p0_stripLengths, oEn (A_p0 9) I_p0_stripPlaces L_p0_stripPlaces, oWk (A_p0 1) A_p0_walk I_p0_walk, gz cI (A_p0_walk 0) 8 f_p0_walk_places]) (gr_V (As := [.int (I_p0_layout 0), .int (I_p0_layout 1), .int (I_p0_layout 2)]) (rest := []) ⟨hx, hb, hml, hown, hg⟩ (c_Pi_become l dC dI cI (A_p0 2) A_p0_picture I_p0_picture f_p0_picture_samples (I_p0_layout 0) (I_p0_layout 1) (I_p0_layout 2) hw _) (cwV 3 hg (gg_V t_300 t_301 t_302 t_63 t_303) rfl rfl rfl (by decide +kernel) ⟨Nat.le_of_ble_eq_true rfl, Nat.le_of_ble_eq_true rfl⟩) hK hN hP hD [10, 11] (by decide) rfl 10 6 rfl rfl rfl rfl hl.1 rfl (Nat.le_of_ble_eq_true rfl) d_X_load_101 ⟨Nat.le_of_ble_eq_true rfl, Nat.le_of_ble_eq_true rfl⟩) rfl rfl hP hD hS hA [10, 11] [0, 1, 2, 3, 4, 5, 6, 7, 8, 9, 12, 13, 14, 15] [0, 1, 2, 3, 4, 5, 6, 7, 8, 9, 14, 15, 10, 11, 12, 13] rfl rfl (by decide) (by decide) (by decide) (fun _ => rfl) ?_
        intro u9 H locs hw hP hD hS
        obtain ⟨I_p0_picture_101, f_p0_picture_samples_101⟩ := u9
        try dsimp only at hw
        have hP : va_P (dC, dI) vwCl [oX a_p0 A_p0, oDa (A_p0 5) A_p0_data, gz cI (A_p0_data 0) 256 f_p0_data_bytes, oNd (A_p0 7) A_p0_decoder I_p0_decoder, gz cI (A_p0_decoder 1) 110 f_p0_decoder_sizes, gz cI (A_p0_decoder 0) 110 f_p0_decoder_starts, oEn (A_p0 8) I_p0_entry L_p0_entry, oSt (A_p0 0) A_p0_file I_p0_file, gz cI (A_p0_file 0) 900 f_p0_file_bytes, oLy (A_p0 4) I_p0_layout, oPi (A_p0 2) A_p0_picture I_p0_picture_101, gz cI (A_p0_picture 0) 256 f_p0_picture_samples_101, oEn (A_p0 10) I_p0_stripLengths L_p0_stripLengths, oEn (A_p0 9) I_p0_stripPlaces L_p0_stripPlaces, oWk (A_p0 1) A_p0_walk I_p0_walk, gz cI (A_p0_walk 0) 8 f_p0_walk_places] H := hP
        have hD : va_D A [oX a_p0 A_p0, oDa (A_p0 5) A_p0_data, gz cI (A_p0_data 0) 256 f_p0_data_bytes, oNd (A_p0 7) A_p0_decoder I_p0_decoder, gz cI (A_p0_decoder 1) 110 f_p0_decoder_sizes, gz cI (A_p0_decoder 0) 110 f_p0_decoder_starts, oEn (A_p0 8) I_p0_entry L_p0_entry, oSt (A_p0 0) A_p0_file I_p0_file, gz cI (A_p0_file 0) 900 f_p0_file_bytes, oLy (A_p0 4) I_p0_layout, oPi (A_p0 2) A_p0_picture I_p0_picture_101, gz cI (A_p0_picture 0) 256 f_p0_picture_samples_101, oEn (A_p0 10) I_p0_stripLengths L_p0_stripLengths, oEn (A_p0 9) I_p0_stripPlaces L_p0_stripPlaces, oWk (A_p0 1) A_p0_walk I_p0_walk, gz cI (A_p0_walk 0) 8 f_p0_walk_places] := hD
        refine lv_aload_n hx hb d_X_load_104 rfl (lv_at hl 0 rfl) ?_
        refine va_get (D := (dC, dI)) (ci := 9) (v := .ref (A_p0 5)) (C := R_X) (T := T_X) (N := 14) hx hb hg in_X hown hK hP 0 rfl rfl 5 (by decide) (hg _ t_312) (fun _ h9 => h9) rfl d_X_load_105 ?_
        refine lv_aload_n hx hb d_X_load_108 rfl (lv_at hl 0 rfl) ?_
        refine va_get (D := (dC, dI)) (ci := 9) (v := .ref (A_p0 4)) (C := R_X) (T := T_X) (N := 14) hx hb hg in_X hown hK hP 0 rfl rfl 4 (by decide) (hg _ t_311) (fun _ h9 => h9) rfl d_X_load_109 ?_
        refine lv_aload_n hx hb d_X_load_112 rfl (lv_at hl 0 rfl) ?_
        refine va_get (D := (dC, dI)) (ci := 9) (v := .ref (A_p0 2)) (C := R_X) (T := T_X) (N := 14) hx hb hg in_X hown hK hP 0 rfl rfl 2 (by decide) (hg _ t_309) (fun _ h9 => h9) rfl d_X_load_113 ?_
        refine gc_v (wn := fun u => [oX a_p0 A_p0, oDa (A_p0 5) A_p0_data, gz cI (A_p0_data 0) 256 f_p0_data_bytes, oNd (A_p0 7) A_p0_decoder I_p0_decoder, gz cI (A_p0_decoder 1) 110 f_p0_decoder_sizes, gz cI (A_p0_decoder 0) 110 f_p0_decoder_starts, oEn (A_p0 8) I_p0_entry L_p0_entry, oSt (A_p0 0) A_p0_file I_p0_file, gz cI (A_p0_file 0) 900 f_p0_file_bytes, oLy (A_p0 4) I_p0_layout, oPi (A_p0 2) A_p0_picture I_p0_picture_101, gz cI (A_p0_picture 0) 256 u, oEn (A_p0 10) I_p0_stripLengths L_p0_stripLengths, oEn (A_p0 9) I_p0_stripPlaces L_p0_stripPlaces, oWk (A_p0 1) A_p0_walk I_p0_walk, gz cI (A_p0_walk 0) 8 f_p0_walk_places]) (wr := [oX a_p0 A_p0, oNd (A_p0 7) A_p0_decoder I_p0_decoder, gz cI (A_p0_decoder 1) 110 f_p0_decoder_sizes, gz cI (A_p0_decoder 0) 110 f_p0_decoder_starts, oEn (A_p0 8) I_p0_entry L_p0_entry, oSt (A_p0 0) A_p0_file I_p0_file, gz cI (A_p0_file 0) 900 f_p0_file_bytes, oEn (A_p0 10) I_p0_stripLengths L_p0_stripLengths, oEn (A_p0 9) I_p0_stripPlaces L_p0_stripPlaces, oWk (A_p0 1) A_p0_walk I_p0_walk, gz cI (A_p0_walk 0) 8 f_p0_walk_places]) (gr_V (As := [.ref (A_p0 4), .ref (A_p0 2)]) (rest := []) ⟨hx, hb, hml, hown, hg⟩ (c_Da_unpack l dC dI cI (A_p0 5) (A_p0 4) (A_p0 2) A_p0_data A_p0_picture f_p0_data_bytes I_p0_layout I_p0_picture_101 f_p0_picture_samples_101 hw _) (cwV 2 hg (gg_V t_731 t_732 t_733 t_66 t_734) rfl rfl rfl (by decide +kernel) ⟨Nat.le_of_ble_eq_true rfl, Nat.le_of_ble_eq_true rfl⟩) hK hN hP hD [1, 2, 9, 10, 11] (by decide) rfl 1 0 rfl rfl rfl rfl hl.1 rfl (Nat.le_of_ble_eq_true rfl) d_X_load_116 ⟨Nat.le_of_ble_eq_true rfl, Nat.le_of_ble_eq_true rfl⟩) rfl rfl hP hD hS hA [1, 2, 9, 10, 11] [0, 3, 4, 5, 6, 7, 8, 12, 13, 14, 15] [0, 11, 12, 1, 2, 3, 4, 5, 6, 13, 14, 15, 7, 8, 9, 10] rfl rfl (by decide) (by decide) (by decide) (fun _ => rfl) ?_
        intro f_p0_picture_samples_116 H locs hw hP hD hS
        try dsimp only at hw
        have hP : va_P (dC, dI) vwCl [oX a_p0 A_p0, oDa (A_p0 5) A_p0_data, gz cI (A_p0_data 0) 256 f_p0_data_bytes, oNd (A_p0 7) A_p0_decoder I_p0_decoder, gz cI (A_p0_decoder 1) 110 f_p0_decoder_sizes, gz cI (A_p0_decoder 0) 110 f_p0_decoder_starts, oEn (A_p0 8) I_p0_entry L_p0_entry, oSt (A_p0 0) A_p0_file I_p0_file, gz cI (A_p0_file 0) 900 f_p0_file_bytes, oLy (A_p0 4) I_p0_layout, oPi (A_p0 2) A_p0_picture I_p0_picture_101, gz cI (A_p0_picture 0) 256 f_p0_picture_samples_116, oEn (A_p0 10) I_p0_stripLengths L_p0_stripLengths, oEn (A_p0 9) I_p0_stripPlaces L_p0_stripPlaces, oWk (A_p0 1) A_p0_walk I_p0_walk, gz cI (A_p0_walk 0) 8 f_p0_walk_places] H := hP
        have hD : va_D A [oX a_p0 A_p0, oDa (A_p0 5) A_p0_data, gz cI (A_p0_data 0) 256 f_p0_data_bytes, oNd (A_p0 7) A_p0_decoder I_p0_decoder, gz cI (A_p0_decoder 1) 110 f_p0_decoder_sizes, gz cI (A_p0_decoder 0) 110 f_p0_decoder_starts, oEn (A_p0 8) I_p0_entry L_p0_entry, oSt (A_p0 0) A_p0_file I_p0_file, gz cI (A_p0_file 0) 900 f_p0_file_bytes, oLy (A_p0 4) I_p0_layout, oPi (A_p0 2) A_p0_picture I_p0_picture_101, gz cI (A_p0_picture 0) 256 f_p0_picture_samples_116, oEn (A_p0 10) I_p0_stripLengths L_p0_stripLengths, oEn (A_p0 9) I_p0_stripPlaces L_p0_stripPlaces, oWk (A_p0 1) A_p0_walk I_p0_walk, gz cI (A_p0_walk 0) 8 f_p0_walk_places] := hD
        refine lv_iconst (v := 0) hx hb d_X_load_119 (by decide) ?_
        exact hret _ _ _ _ _ (f_p0_data_bytes, I_p0_decoder, f_p0_decoder_sizes, f_p0_decoder_starts, I_p0_entry, L_p0_entry, I_p0_layout, I_p0_picture_101, f_p0_picture_samples_116, I_p0_stripLengths, L_p0_stripLengths, I_p0_stripPlaces, L_p0_stripPlaces, I_p0_walk, f_p0_walk_places) d_X_load_120 rfl hP hD hS hw
      · have hw := hw.2 hc
        refine lv_aload_n hx hb d_X_load_57 rfl (lv_at hl 0 rfl) ?_
        refine lv_iload_n hx hb d_X_load_58 rfl (lv_at hl 1 rfl) ?_
        refine gc_i (wn := fun u => [oX a_p0 A_p0, oDa (A_p0 5) A_p0_data, gz cI (A_p0_data 0) 256 u.1, oNd (A_p0 7) A_p0_decoder u.2.1, gz cI (A_p0_decoder 1) 110 u.2.2.1, gz cI (A_p0_decoder 0) 110 u.2.2.2, oEn (A_p0 8) I_p0_entry L_p0_entry, oSt (A_p0 0) A_p0_file I_p0_file, gz cI (A_p0_file 0) 900 f_p0_file_bytes, oLy (A_p0 4) I_p0_layout, oPi (A_p0 2) A_p0_picture I_p0_picture, gz cI (A_p0_picture 0) 256 f_p0_picture_samples, oEn (A_p0 10) I_p0_stripLengths L_p0_stripLengths, oEn (A_p0 9) I_p0_stripPlaces L_p0_stripPlaces, oWk (A_p0 1) A_p0_walk I_p0_walk, gz cI (A_p0_walk 0) 8 f_p0_walk_places]) (wr := [oEn (A_p0 8) I_p0_entry L_p0_entry, oPi (A_p0 2) A_p0_picture I_p0_picture, gz cI (A_p0_picture 0) 256 f_p0_picture_samples, oWk (A_p0 1) A_p0_walk I_p0_walk, gz cI (A_p0_walk 0) 8 f_p0_walk_places]) (gr_V (As := [.int x2]) (rest := []) ⟨hx, hb, hml, hown, hg⟩ (c_X_decodeStrip l dC dI cI a_p0 A_p0 A_p0_data A_p0_decoder A_p0_file I_p0_file f_p0_file_bytes I_p0_layout I_p0_stripLengths L_p0_stripLengths I_p0_stripPlaces L_p0_stripPlaces f_p0_data_bytes I_p0_decoder f_p0_decoder_sizes f_p0_decoder_starts x2 hw _) (cwV 1 hg (gg_V t_695 t_697 t_22 t_60 t_698) rfl rfl rfl (by decide +kernel) ⟨Nat.le_of_ble_eq_true rfl, Nat.le_of_ble_eq_true rfl⟩) hK hN hP hD [0, 1, 2, 3, 4, 5, 7, 8, 9, 12, 13] (by decide) rfl 0 9 rfl rfl rfl rfl hl.1 rfl (Nat.le_of_ble_eq_true rfl) d_X_load_59 ⟨Nat.le_of_ble_eq_true rfl, Nat.le_of_ble_eq_true rfl⟩) rfl rfl hP hD hS hA [0, 1, 2, 3, 4, 5, 7, 8, 9, 12, 13] [6, 10, 11, 14, 15] [5, 6, 7, 8, 9, 10, 0, 11, 12, 13, 1, 2, 14, 15, 3, 4] rfl rfl (by decide) (by decide) (by decide) (fun _ => rfl) ?_
        intro r59 u9 H locs hw hP hD hS
        obtain ⟨f_p0_data_bytes_59, I_p0_decoder_59, f_p0_decoder_sizes_59, f_p0_decoder_starts_59⟩ := u9
        try dsimp only at hw
        have hP : va_P (dC, dI) vwCl [oX a_p0 A_p0, oDa (A_p0 5) A_p0_data, gz cI (A_p0_data 0) 256 f_p0_data_bytes_59, oNd (A_p0 7) A_p0_decoder I_p0_decoder_59, gz cI (A_p0_decoder 1) 110 f_p0_decoder_sizes_59, gz cI (A_p0_decoder 0) 110 f_p0_decoder_starts_59, oEn (A_p0 8) I_p0_entry L_p0_entry, oSt (A_p0 0) A_p0_file I_p0_file, gz cI (A_p0_file 0) 900 f_p0_file_bytes, oLy (A_p0 4) I_p0_layout, oPi (A_p0 2) A_p0_picture I_p0_picture, gz cI (A_p0_picture 0) 256 f_p0_picture_samples, oEn (A_p0 10) I_p0_stripLengths L_p0_stripLengths, oEn (A_p0 9) I_p0_stripPlaces L_p0_stripPlaces, oWk (A_p0 1) A_p0_walk I_p0_walk, gz cI (A_p0_walk 0) 8 f_p0_walk_places] H := hP
        have hD : va_D A [oX a_p0 A_p0, oDa (A_p0 5) A_p0_data, gz cI (A_p0_data 0) 256 f_p0_data_bytes_59, oNd (A_p0 7) A_p0_decoder I_p0_decoder_59, gz cI (A_p0_decoder 1) 110 f_p0_decoder_sizes_59, gz cI (A_p0_decoder 0) 110 f_p0_decoder_starts_59, oEn (A_p0 8) I_p0_entry L_p0_entry, oSt (A_p0 0) A_p0_file I_p0_file, gz cI (A_p0_file 0) 900 f_p0_file_bytes, oLy (A_p0 4) I_p0_layout, oPi (A_p0 2) A_p0_picture I_p0_picture, gz cI (A_p0_picture 0) 256 f_p0_picture_samples, oEn (A_p0 10) I_p0_stripLengths L_p0_stripLengths, oEn (A_p0 9) I_p0_stripPlaces L_p0_stripPlaces, oWk (A_p0 1) A_p0_walk I_p0_walk, gz cI (A_p0_walk 0) 8 f_p0_walk_places] := hD
        refine lv_if_ne hx hb d_X_load_62 rfl (fun hc => ?_) (fun hc => ?_)
        · have hw := hw.2 hc
          refine lv_iinc (k := 1) (v := (x2 + 1)) (lv' := [(2, .int (x2 + 1)), (0, .ref a_p0)]) hx hb d_X_load_70 hl rfl (congrArg (fun z => x2 + z) (by decide : Int32.ofInt 1 = 1)) (by decide) rfl (fun ls hl => ?_)
          refine lv_goto hx hb d_X_load_73 rfl ?_
          exact ih _ _ _ f_p0_data_bytes_59 I_p0_decoder_59 f_p0_decoder_sizes_59 f_p0_decoder_starts_59 I_p0_entry L_p0_entry I_p0_layout I_p0_picture f_p0_picture_samples I_p0_stripLengths L_p0_stripLengths I_p0_stripPlaces L_p0_stripPlaces I_p0_walk f_p0_walk_places (x2 + 1) hP hD hS (lv_sub hl [1, 0] rfl) hw
        · have hw := hw.1 hc
          refine lv_bipush (v := (-6)) hx hb d_X_load_65 (by decide) ?_
          refine lv_iload_n hx hb d_X_load_67 rfl (lv_at hl 1 rfl) ?_
          refine lv_isub hx hb d_X_load_68 ?_
          exact hret _ _ _ _ _ (f_p0_data_bytes_59, I_p0_decoder_59, f_p0_decoder_sizes_59, f_p0_decoder_starts_59, I_p0_entry, L_p0_entry, I_p0_layout, I_p0_picture, f_p0_picture_samples, I_p0_stripLengths, L_p0_stripLengths, I_p0_stripPlaces, L_p0_stripPlaces, I_p0_walk, f_p0_walk_places) d_X_load_69 rfl hP hD hS hw
  intro ls hl hP hD hS
  have hl : lv_has ls 3 [(0, .ref a_p0), (1, .int x1)] := hl
  unfold wp_X_load at hw
  refine lv_aload_n hx hb d_X_load_0 rfl (lv_at hl 0 rfl) ?_
  refine va_get (D := (dC, dI)) (ci := 9) (v := .ref (A_p0 1)) (C := R_X) (T := T_X) (N := 14) hx hb hg in_X hown hK hP 0 rfl rfl 1 (by decide) (hg _ t_308) (fun _ h9 => h9) rfl d_X_load_1 ?_
  refine lv_aload_n hx hb d_X_load_4 rfl (lv_at hl 0 rfl) ?_
  refine va_get (D := (dC, dI)) (ci := 9) (v := .ref (A_p0 0)) (C := R_X) (T := T_X) (N := 14) hx hb hg in_X hown hK hP 0 rfl rfl 0 (by decide) (hg _ t_307) (fun _ h9 => h9) rfl d_X_load_5 ?_
  refine gc_v (wn := fun u => [oX a_p0 A_p0, oDa (A_p0 5) A_p0_data, gz cI (A_p0_data 0) 256 f_p0_data_bytes, oNd (A_p0 7) A_p0_decoder I_p0_decoder, gz cI (A_p0_decoder 1) 110 f_p0_decoder_sizes, gz cI (A_p0_decoder 0) 110 f_p0_decoder_starts, oEn (A_p0 8) I_p0_entry L_p0_entry, oSt (A_p0 0) A_p0_file I_p0_file, gz cI (A_p0_file 0) 900 f_p0_file_bytes, oLy (A_p0 4) I_p0_layout, oPi (A_p0 2) A_p0_picture I_p0_picture, gz cI (A_p0_picture 0) 256 f_p0_picture_samples, oEn (A_p0 10) I_p0_stripLengths L_p0_stripLengths, oEn (A_p0 9) I_p0_stripPlaces L_p0_stripPlaces, oWk (A_p0 1) A_p0_walk u.1, gz cI (A_p0_walk 0) 8 u.2]) (wr := [oX a_p0 A_p0, oDa (A_p0 5) A_p0_data, gz cI (A_p0_data 0) 256 f_p0_data_bytes, oNd (A_p0 7) A_p0_decoder I_p0_decoder, gz cI (A_p0_decoder 1) 110 f_p0_decoder_sizes, gz cI (A_p0_decoder 0) 110 f_p0_decoder_starts, oEn (A_p0 8) I_p0_entry L_p0_entry, oLy (A_p0 4) I_p0_layout, oPi (A_p0 2) A_p0_picture I_p0_picture, gz cI (A_p0_picture 0) 256 f_p0_picture_samples, oEn (A_p0 10) I_p0_stripLengths L_p0_stripLengths, oEn (A_p0 9) I_p0_stripPlaces L_p0_stripPlaces]) (gr_V (As := [.ref (A_p0 0)]) (rest := []) ⟨hx, hb, hml, hown, hg⟩ (c_Wk_follow l dC dI cI (A_p0 1) (A_p0 0) A_p0_walk A_p0_file I_p0_file f_p0_file_bytes I_p0_walk f_p0_walk_places hw _) (cwV 1 hg (gg_V t_449 t_450 t_451 t_62 t_452) rfl rfl rfl (by decide +kernel) ⟨Nat.le_of_ble_eq_true rfl, Nat.le_of_ble_eq_true rfl⟩) hK hN hP hD [14, 15, 7, 8] (by decide) rfl 14 8 rfl rfl rfl rfl hl.1 rfl (Nat.le_of_ble_eq_true rfl) d_X_load_8 ⟨Nat.le_of_ble_eq_true rfl, Nat.le_of_ble_eq_true rfl⟩) rfl rfl hP hD hS hA [14, 15, 7, 8] [0, 1, 2, 3, 4, 5, 6, 9, 10, 11, 12, 13] [0, 1, 2, 3, 4, 5, 6, 14, 15, 7, 8, 9, 10, 11, 12, 13] rfl rfl (by decide) (by decide) (by decide) (fun _ => rfl) ?_
  intro u9 H locs hw hP hD hS
  obtain ⟨I_p0_walk_8, f_p0_walk_places_8⟩ := u9
  try dsimp only at hw
  have hP : va_P (dC, dI) vwCl [oX a_p0 A_p0, oDa (A_p0 5) A_p0_data, gz cI (A_p0_data 0) 256 f_p0_data_bytes, oNd (A_p0 7) A_p0_decoder I_p0_decoder, gz cI (A_p0_decoder 1) 110 f_p0_decoder_sizes, gz cI (A_p0_decoder 0) 110 f_p0_decoder_starts, oEn (A_p0 8) I_p0_entry L_p0_entry, oSt (A_p0 0) A_p0_file I_p0_file, gz cI (A_p0_file 0) 900 f_p0_file_bytes, oLy (A_p0 4) I_p0_layout, oPi (A_p0 2) A_p0_picture I_p0_picture, gz cI (A_p0_picture 0) 256 f_p0_picture_samples, oEn (A_p0 10) I_p0_stripLengths L_p0_stripLengths, oEn (A_p0 9) I_p0_stripPlaces L_p0_stripPlaces, oWk (A_p0 1) A_p0_walk I_p0_walk_8, gz cI (A_p0_walk 0) 8 f_p0_walk_places_8] H := hP
  have hD : va_D A [oX a_p0 A_p0, oDa (A_p0 5) A_p0_data, gz cI (A_p0_data 0) 256 f_p0_data_bytes, oNd (A_p0 7) A_p0_decoder I_p0_decoder, gz cI (A_p0_decoder 1) 110 f_p0_decoder_sizes, gz cI (A_p0_decoder 0) 110 f_p0_decoder_starts, oEn (A_p0 8) I_p0_entry L_p0_entry, oSt (A_p0 0) A_p0_file I_p0_file, gz cI (A_p0_file 0) 900 f_p0_file_bytes, oLy (A_p0 4) I_p0_layout, oPi (A_p0 2) A_p0_picture I_p0_picture, gz cI (A_p0_picture 0) 256 f_p0_picture_samples, oEn (A_p0 10) I_p0_stripLengths L_p0_stripLengths, oEn (A_p0 9) I_p0_stripPlaces L_p0_stripPlaces, oWk (A_p0 1) A_p0_walk I_p0_walk_8, gz cI (A_p0_walk 0) 8 f_p0_walk_places_8] := hD
  refine lv_aload_n hx hb d_X_load_11 rfl (lv_at hl 0 rfl) ?_
  refine va_get (D := (dC, dI)) (ci := 9) (v := .ref (A_p0 1)) (C := R_X) (T := T_X) (N := 14) hx hb hg in_X hown hK hP 0 rfl rfl 1 (by decide) (hg _ t_308) (fun _ h9 => h9) rfl d_X_load_12 ?_
  refine lv_iload_n hx hb d_X_load_15 rfl (lv_at hl 1 rfl) ?_
  refine gc_i (wn := fun (_ : Unit) => [oX a_p0 A_p0, oDa (A_p0 5) A_p0_data, gz cI (A_p0_data 0) 256 f_p0_data_bytes, oNd (A_p0 7) A_p0_decoder I_p0_decoder, gz cI (A_p0_decoder 1) 110 f_p0_decoder_sizes, gz cI (A_p0_decoder 0) 110 f_p0_decoder_starts, oEn (A_p0 8) I_p0_entry L_p0_entry, oSt (A_p0 0) A_p0_file I_p0_file, gz cI (A_p0_file 0) 900 f_p0_file_bytes, oLy (A_p0 4) I_p0_layout, oPi (A_p0 2) A_p0_picture I_p0_picture, gz cI (A_p0_picture 0) 256 f_p0_picture_samples, oEn (A_p0 10) I_p0_stripLengths L_p0_stripLengths, oEn (A_p0 9) I_p0_stripPlaces L_p0_stripPlaces, oWk (A_p0 1) A_p0_walk I_p0_walk_8, gz cI (A_p0_walk 0) 8 f_p0_walk_places_8]) (wr := [oX a_p0 A_p0, oDa (A_p0 5) A_p0_data, gz cI (A_p0_data 0) 256 f_p0_data_bytes, oNd (A_p0 7) A_p0_decoder I_p0_decoder, gz cI (A_p0_decoder 1) 110 f_p0_decoder_sizes, gz cI (A_p0_decoder 0) 110 f_p0_decoder_starts, oEn (A_p0 8) I_p0_entry L_p0_entry, oSt (A_p0 0) A_p0_file I_p0_file, gz cI (A_p0_file 0) 900 f_p0_file_bytes, oLy (A_p0 4) I_p0_layout, oPi (A_p0 2) A_p0_picture I_p0_picture, gz cI (A_p0_picture 0) 256 f_p0_picture_samples, oEn (A_p0 10) I_p0_stripLengths L_p0_stripLengths, oEn (A_p0 9) I_p0_stripPlaces L_p0_stripPlaces, gz cI (A_p0_walk 0) 8 f_p0_walk_places_8]) (gr_V (As := [.int x1]) (rest := []) ⟨hx, hb, hml, hown, hg⟩ (c_Wk_hasPage l dC dI cI (A_p0 1) A_p0_walk I_p0_walk_8 x1 hw _) (cwV 1 hg (gg_V t_645 t_646 t_647 t_62 t_648) rfl rfl rfl (by decide +kernel) ⟨Nat.le_of_ble_eq_true rfl, Nat.le_of_ble_eq_true rfl⟩) hK hN hP hD [14] (by decide) rfl 14 8 rfl rfl rfl rfl hl.1 rfl (Nat.le_of_ble_eq_true rfl) d_X_load_16 ⟨Nat.le_of_ble_eq_true rfl, Nat.le_of_ble_eq_true rfl⟩) rfl rfl hP hD hS hA [14] [0, 1, 2, 3, 4, 5, 6, 7, 8, 9, 10, 11, 12, 13, 15] [0, 1, 2, 3, 4, 5, 6, 7, 8, 9, 10, 11, 12, 13, 15, 14] rfl rfl (by decide) (by decide) (by decide) (fun _ => rfl) ?_
  intro r16 _ H locs hw hP hD hS
  try dsimp only at hw
  have hP : va_P (dC, dI) vwCl [oX a_p0 A_p0, oDa (A_p0 5) A_p0_data, gz cI (A_p0_data 0) 256 f_p0_data_bytes, oNd (A_p0 7) A_p0_decoder I_p0_decoder, gz cI (A_p0_decoder 1) 110 f_p0_decoder_sizes, gz cI (A_p0_decoder 0) 110 f_p0_decoder_starts, oEn (A_p0 8) I_p0_entry L_p0_entry, oSt (A_p0 0) A_p0_file I_p0_file, gz cI (A_p0_file 0) 900 f_p0_file_bytes, oLy (A_p0 4) I_p0_layout, oPi (A_p0 2) A_p0_picture I_p0_picture, gz cI (A_p0_picture 0) 256 f_p0_picture_samples, oEn (A_p0 10) I_p0_stripLengths L_p0_stripLengths, oEn (A_p0 9) I_p0_stripPlaces L_p0_stripPlaces, oWk (A_p0 1) A_p0_walk I_p0_walk_8, gz cI (A_p0_walk 0) 8 f_p0_walk_places_8] H := hP
  have hD : va_D A [oX a_p0 A_p0, oDa (A_p0 5) A_p0_data, gz cI (A_p0_data 0) 256 f_p0_data_bytes, oNd (A_p0 7) A_p0_decoder I_p0_decoder, gz cI (A_p0_decoder 1) 110 f_p0_decoder_sizes, gz cI (A_p0_decoder 0) 110 f_p0_decoder_starts, oEn (A_p0 8) I_p0_entry L_p0_entry, oSt (A_p0 0) A_p0_file I_p0_file, gz cI (A_p0_file 0) 900 f_p0_file_bytes, oLy (A_p0 4) I_p0_layout, oPi (A_p0 2) A_p0_picture I_p0_picture, gz cI (A_p0_picture 0) 256 f_p0_picture_samples, oEn (A_p0 10) I_p0_stripLengths L_p0_stripLengths, oEn (A_p0 9) I_p0_stripPlaces L_p0_stripPlaces, oWk (A_p0 1) A_p0_walk I_p0_walk_8, gz cI (A_p0_walk 0) 8 f_p0_walk_places_8] := hD
  refine lv_if_ne hx hb d_X_load_19 rfl (fun hc => ?_) (fun hc => ?_)
  · have hw := hw.2 hc
    refine lv_aload_n hx hb d_X_load_25 rfl (lv_at hl 0 rfl) ?_
    refine lv_aload_n hx hb d_X_load_26 rfl (lv_at hl 0 rfl) ?_
    refine va_get (D := (dC, dI)) (ci := 9) (v := .ref (A_p0 1)) (C := R_X) (T := T_X) (N := 14) hx hb hg in_X hown hK hP 0 rfl rfl 1 (by decide) (hg _ t_308) (fun _ h9 => h9) rfl d_X_load_27 ?_
    refine va_get (D := (dC, dI)) (ci := 8) (v := .ref (A_p0_walk 0)) (C := R_Wk) (T := T_Wk) (N := 4) hx hb hg in_Wk hown hK hP 14 rfl rfl 0 (by decide) (hg _ t_113) (fun _ h9 => h9) rfl d_X_load_30 ?_
    refine lv_iload_n hx hb d_X_load_33 rfl (lv_at hl 1 rfl) ?_
    obtain ⟨hin, hw⟩ := hw
    refine va_iald hx hb hK hP 15 0 rfl rfl hin d_X_load_34 ?_
    refine gc_i (wn := fun u => [oX a_p0 A_p0, oDa (A_p0 5) A_p0_data, gz cI (A_p0_data 0) 256 f_p0_data_bytes, oNd (A_p0 7) A_p0_decoder I_p0_decoder, gz cI (A_p0_decoder 1) 110 f_p0_decoder_sizes, gz cI (A_p0_decoder 0) 110 f_p0_decoder_starts, oEn (A_p0 8) u.1 u.2.1, oSt (A_p0 0) A_p0_file I_p0_file, gz cI (A_p0_file 0) 900 f_p0_file_bytes, oLy (A_p0 4) u.2.2.1, oPi (A_p0 2) A_p0_picture I_p0_picture, gz cI (A_p0_picture 0) 256 f_p0_picture_samples, oEn (A_p0 10) u.2.2.2.1 u.2.2.2.2.1, oEn (A_p0 9) u.2.2.2.2.2.1 u.2.2.2.2.2.2, oWk (A_p0 1) A_p0_walk I_p0_walk_8, gz cI (A_p0_walk 0) 8 f_p0_walk_places_8]) (wr := [oDa (A_p0 5) A_p0_data, gz cI (A_p0_data 0) 256 f_p0_data_bytes, oNd (A_p0 7) A_p0_decoder I_p0_decoder, gz cI (A_p0_decoder 1) 110 f_p0_decoder_sizes, gz cI (A_p0_decoder 0) 110 f_p0_decoder_starts, oPi (A_p0 2) A_p0_picture I_p0_picture, gz cI (A_p0_picture 0) 256 f_p0_picture_samples, oWk (A_p0 1) A_p0_walk I_p0_walk_8, gz cI (A_p0_walk 0) 8 f_p0_walk_places_8]) (gr_V (As := [.int (f_p0_walk_places_8 (x1).toNatClampNeg)]) (rest := []) ⟨hx, hb, hml, hown, hg⟩ (c_X_readLayout l dC dI cI a_p0 A_p0 A_p0_file I_p0_file f_p0_file_bytes I_p0_entry L_p0_entry I_p0_layout I_p0_stripLengths L_p0_stripLengths I_p0_stripPlaces L_p0_stripPlaces (f_p0_walk_places_8 (x1).toNatClampNeg) hw _) (cwV 1 hg (gg_V t_649 t_651 t_16 t_60 t_652) rfl rfl rfl (by decide +kernel) ⟨Nat.le_of_ble_eq_true rfl, Nat.le_of_ble_eq_true rfl⟩) hK hN hP hD [0, 6, 7, 8, 9, 12, 13] (by decide) rfl 0 9 rfl rfl rfl rfl hl.1 rfl (Nat.le_of_ble_eq_true rfl) d_X_load_35 ⟨Nat.le_of_ble_eq_true rfl, Nat.le_of_ble_eq_true rfl⟩) rfl rfl hP hD hS hA [0, 6, 7, 8, 9, 12, 13] [1, 2, 3, 4, 5, 10, 11, 14, 15] [9, 0, 1, 2, 3, 4, 10, 11, 12, 13, 5, 6, 14, 15, 7, 8] rfl rfl (by decide) (by decide) (by decide) (fun _ => rfl) ?_
    intro r35 u9 H locs hw hP hD hS
    obtain ⟨I_p0_entry_35, L_p0_entry_35, I_p0_layout_35, I_p0_stripLengths_35, L_p0_stripLengths_35, I_p0_stripPlaces_35, L_p0_stripPlaces_35⟩ := u9
    try dsimp only at hw
    have hP : va_P (dC, dI) vwCl [oX a_p0 A_p0, oDa (A_p0 5) A_p0_data, gz cI (A_p0_data 0) 256 f_p0_data_bytes, oNd (A_p0 7) A_p0_decoder I_p0_decoder, gz cI (A_p0_decoder 1) 110 f_p0_decoder_sizes, gz cI (A_p0_decoder 0) 110 f_p0_decoder_starts, oEn (A_p0 8) I_p0_entry_35 L_p0_entry_35, oSt (A_p0 0) A_p0_file I_p0_file, gz cI (A_p0_file 0) 900 f_p0_file_bytes, oLy (A_p0 4) I_p0_layout_35, oPi (A_p0 2) A_p0_picture I_p0_picture, gz cI (A_p0_picture 0) 256 f_p0_picture_samples, oEn (A_p0 10) I_p0_stripLengths_35 L_p0_stripLengths_35, oEn (A_p0 9) I_p0_stripPlaces_35 L_p0_stripPlaces_35, oWk (A_p0 1) A_p0_walk I_p0_walk_8, gz cI (A_p0_walk 0) 8 f_p0_walk_places_8] H := hP
    have hD : va_D A [oX a_p0 A_p0, oDa (A_p0 5) A_p0_data, gz cI (A_p0_data 0) 256 f_p0_data_bytes, oNd (A_p0 7) A_p0_decoder I_p0_decoder, gz cI (A_p0_decoder 1) 110 f_p0_decoder_sizes, gz cI (A_p0_decoder 0) 110 f_p0_decoder_starts, oEn (A_p0 8) I_p0_entry_35 L_p0_entry_35, oSt (A_p0 0) A_p0_file I_p0_file, gz cI (A_p0_file 0) 900 f_p0_file_bytes, oLy (A_p0 4) I_p0_layout_35, oPi (A_p0 2) A_p0_picture I_p0_picture, gz cI (A_p0_picture 0) 256 f_p0_picture_samples, oEn (A_p0 10) I_p0_stripLengths_35 L_p0_stripLengths_35, oEn (A_p0 9) I_p0_stripPlaces_35 L_p0_stripPlaces_35, oWk (A_p0 1) A_p0_walk I_p0_walk_8, gz cI (A_p0_walk 0) 8 f_p0_walk_places_8] := hD
    refine lv_if_ne hx hb d_X_load_38 rfl (fun hc => ?_) (fun hc => ?_)
    · have hw := hw.2 hc
      refine lv_iconst (v := 0) hx hb d_X_load_44 (by decide) ?_
      refine lv_istore_n (lv' := [(2, .int 0), (0, .ref a_p0), (1, .int x1)]) hx hb d_X_load_45 rfl hl (by decide) rfl (fun ls hl => ?_)
      obtain ⟨n1, hw⟩ := hw
      exact l46 n1 _ _ _ f_p0_data_bytes I_p0_decoder f_p0_decoder_sizes f_p0_decoder_starts I_p0_entry_35 L_p0_entry_35 I_p0_layout_35 I_p0_picture f_p0_picture_samples I_p0_stripLengths_35 L_p0_stripLengths_35 I_p0_stripPlaces_35 L_p0_stripPlaces_35 I_p0_walk_8 f_p0_walk_places_8 0 hP hD hS (lv_sub hl [1, 0] rfl) hw
    · have hw := hw.1 hc
      refine lv_bipush (v := (-5)) hx hb d_X_load_41 (by decide) ?_
      exact hret _ _ _ _ _ (f_p0_data_bytes, I_p0_decoder, f_p0_decoder_sizes, f_p0_decoder_starts, I_p0_entry_35, L_p0_entry_35, I_p0_layout_35, I_p0_picture, f_p0_picture_samples, I_p0_stripLengths_35, L_p0_stripLengths_35, I_p0_stripPlaces_35, L_p0_stripPlaces_35, I_p0_walk_8, f_p0_walk_places_8) d_X_load_43 rfl hP hD hS hw
  · have hw := hw.1 hc
    refine lv_bipush (v := (-4)) hx hb d_X_load_22 (by decide) ?_
    exact hret _ _ _ _ _ (f_p0_data_bytes, I_p0_decoder, f_p0_decoder_sizes, f_p0_decoder_starts, I_p0_entry, L_p0_entry, I_p0_layout, I_p0_picture, f_p0_picture_samples, I_p0_stripLengths, L_p0_stripLengths, I_p0_stripPlaces, L_p0_stripPlaces, I_p0_walk_8, f_p0_walk_places_8) d_X_load_24 rfl hP hD hS hw
theorem d_X_pages_0 : decode b_X_pages 0 = .ok (.aload_n 0, 1) := by decide +kernel
theorem d_X_pages_1 : decode b_X_pages 1 = .ok (.getfield 19, 3) := by decide +kernel
theorem d_X_pages_4 : decode b_X_pages 4 = .ok (.aload_n 0, 1) := by decide +kernel
theorem d_X_pages_5 : decode b_X_pages 5 = .ok (.getfield 10, 3) := by decide +kernel
theorem d_X_pages_8 : decode b_X_pages 8 = .ok (.invokevirtual 153, 3) := by decide +kernel
theorem d_X_pages_11 : decode b_X_pages 11 = .ok (.aload_n 0, 1) := by decide +kernel
theorem d_X_pages_12 : decode b_X_pages 12 = .ok (.getfield 19, 3) := by decide +kernel
theorem d_X_pages_15 : decode b_X_pages 15 = .ok (.getfield 161, 3) := by decide +kernel
theorem d_X_pages_18 : decode b_X_pages 18 = .ok (.ireturn, 1) := by decide +kernel
def wp_X_pages (post : Int32 → (Nat → Int32) → (Nat → Int32) → Prop) (I_p0_file : Nat → Int32) (f_p0_file_bytes : Nat → Int32) (I_p0_walk : Nat → Int32) (f_p0_walk_places : Nat → Int32) : Prop :=
  wp_Wk_follow (fun (I_p0_walk_8 : Nat → Int32) (f_p0_walk_places_8 : Nat → Int32) =>
    post (I_p0_walk_8 1) I_p0_walk_8 f_p0_walk_places_8) I_p0_file f_p0_file_bytes I_p0_walk f_p0_walk_places
set_option maxRecDepth 100000 in
set_option maxHeartbeats 4000000 in
theorem c_X_pages (l : Launch) (dC : Nat → ClassId) (dI : Nat → Nat → Nat) (cI : ClassId) (a_p0 : Nat) (A_p0 : Nat → Nat) (A_p0_file : Nat → Nat) (A_p0_walk : Nat → Nat) (I_p0_file : Nat → Int32) (f_p0_file_bytes : Nat → Int32) (I_p0_walk : Nat → Int32) (f_p0_walk_places : Nat → Int32) {post : Int32 → (Nat → Int32) → (Nat → Int32) → Prop} (hw : wp_X_pages post I_p0_file f_p0_file_bytes I_p0_walk f_p0_walk_places) : gm_i l y_X_pages ws_X_pages ({ frames := 3, cells := 0, slots := 0, locals := 71 } : Room) (dC, dI) vwCl [(cI, .int)] [.ref a_p0] [oX a_p0 A_p0, oSt (A_p0 0) A_p0_file I_p0_file, gz cI (A_p0_file 0) 900 f_p0_file_bytes, oWk (A_p0 1) A_p0_walk I_p0_walk, gz cI (A_p0_walk 0) 8 f_p0_walk_places] (fun (u : (Nat → Int32) × (Nat → Int32)) => [oX a_p0 A_p0, oSt (A_p0 0) A_p0_file I_p0_file, gz cI (A_p0_file 0) 900 f_p0_file_bytes, oWk (A_p0 1) A_p0_walk u.1, gz cI (A_p0_walk 0) 8 u.2]) (fun (r : Int32) (u : (Nat → Int32) × (Nat → Int32)) => post r u.1 u.2) := by
  refine gm_iof (cc := b_X_pages) (maxL := 1) (ty := .int) (by decide) rfl (Nat.le_of_ble_eq_true rfl) ?_
  intro p e s m args below meth c A Q hx hb hml hown hg hK hN hA hret
  have hown : s.vm.findClass R_X = some m.cls := hown
  intro ls hl hP hD hS
  have hl : lv_has ls 1 [(0, .ref a_p0)] := hl
  unfold wp_X_pages at hw
  refine lv_aload_n hx hb d_X_pages_0 rfl (lv_at hl 0 rfl) ?_
  refine va_get (D := (dC, dI)) (ci := 9) (v := .ref (A_p0 1)) (C := R_X) (T := T_X) (N := 14) hx hb hg in_X hown hK hP 0 rfl rfl 1 (by decide) (hg _ t_308) (fun _ h9 => h9) rfl d_X_pages_1 ?_
  refine lv_aload_n hx hb d_X_pages_4 rfl (lv_at hl 0 rfl) ?_
  refine va_get (D := (dC, dI)) (ci := 9) (v := .ref (A_p0 0)) (C := R_X) (T := T_X) (N := 14) hx hb hg in_X hown hK hP 0 rfl rfl 0 (by decide) (hg _ t_307) (fun _ h9 => h9) rfl d_X_pages_5 ?_
  refine gc_v (wn := fun u => [oX a_p0 A_p0, oSt (A_p0 0) A_p0_file I_p0_file, gz cI (A_p0_file 0) 900 f_p0_file_bytes, oWk (A_p0 1) A_p0_walk u.1, gz cI (A_p0_walk 0) 8 u.2]) (wr := [oX a_p0 A_p0]) (gr_V (As := [.ref (A_p0 0)]) (rest := []) ⟨hx, hb, hml, hown, hg⟩ (c_Wk_follow l dC dI cI (A_p0 1) (A_p0 0) A_p0_walk A_p0_file I_p0_file f_p0_file_bytes I_p0_walk f_p0_walk_places hw _) (cwV 1 hg (gg_V t_449 t_450 t_451 t_62 t_452) rfl rfl rfl (by decide +kernel) ⟨Nat.le_of_ble_eq_true rfl, Nat.le_of_ble_eq_true rfl⟩) hK hN hP hD [3, 4, 1, 2] (by decide) rfl 3 8 rfl rfl rfl rfl hl.1 rfl (Nat.le_of_ble_eq_true rfl) d_X_pages_8 ⟨Nat.le_of_ble_eq_true rfl, Nat.le_of_ble_eq_true rfl⟩) rfl rfl hP hD hS hA [3, 4, 1, 2] [0] [0, 3, 4, 1, 2] rfl rfl (by decide) (by decide) (by decide) (fun _ => rfl) ?_
  intro u9 H locs hw hP hD hS
  obtain ⟨I_p0_walk_8, f_p0_walk_places_8⟩ := u9
  try dsimp only at hw
  have hP : va_P (dC, dI) vwCl [oX a_p0 A_p0, oSt (A_p0 0) A_p0_file I_p0_file, gz cI (A_p0_file 0) 900 f_p0_file_bytes, oWk (A_p0 1) A_p0_walk I_p0_walk_8, gz cI (A_p0_walk 0) 8 f_p0_walk_places_8] H := hP
  have hD : va_D A [oX a_p0 A_p0, oSt (A_p0 0) A_p0_file I_p0_file, gz cI (A_p0_file 0) 900 f_p0_file_bytes, oWk (A_p0 1) A_p0_walk I_p0_walk_8, gz cI (A_p0_walk 0) 8 f_p0_walk_places_8] := hD
  refine lv_aload_n hx hb d_X_pages_11 rfl (lv_at hl 0 rfl) ?_
  refine va_get (D := (dC, dI)) (ci := 9) (v := .ref (A_p0 1)) (C := R_X) (T := T_X) (N := 14) hx hb hg in_X hown hK hP 0 rfl rfl 1 (by decide) (hg _ t_308) (fun _ h9 => h9) rfl d_X_pages_12 ?_
  refine va_get (D := (dC, dI)) (ci := 8) (v := .int (I_p0_walk_8 1)) (C := R_Wk) (T := T_Wk) (N := 4) hx hb hg in_Wk hown hK hP 3 rfl rfl 1 (by decide) (hg _ t_115) (fun _ h9 => h9) rfl d_X_pages_15 ?_
  exact hret _ _ _ _ _ (I_p0_walk_8, f_p0_walk_places_8) d_X_pages_18 rfl hP hD hS hw
theorem d_X_poke_0 : decode b_X_poke 0 = .ok (.aload_n 0, 1) := by decide +kernel
theorem d_X_poke_1 : decode b_X_poke 1 = .ok (.getfield 10, 3) := by decide +kernel
theorem d_X_poke_4 : decode b_X_poke 4 = .ok (.iload_n 1, 1) := by decide +kernel
theorem d_X_poke_5 : decode b_X_poke 5 = .ok (.i2l, 1) := by decide +kernel
theorem d_X_poke_6 : decode b_X_poke 6 = .ok (.lconst 1, 1) := by decide +kernel
theorem d_X_poke_7 : decode b_X_poke 7 = .ok (.invokevirtual 100, 3) := by decide +kernel
theorem d_X_poke_10 : decode b_X_poke 10 = .ok (.ifCond .eq 14, 3) := by decide +kernel
theorem d_X_poke_13 : decode b_X_poke 13 = .ok (.iload_n 2, 1) := by decide +kernel
theorem d_X_poke_14 : decode b_X_poke 14 = .ok (.ifCond .lt 10, 3) := by decide +kernel
theorem d_X_poke_17 : decode b_X_poke 17 = .ok (.iload_n 2, 1) := by decide +kernel
theorem d_X_poke_18 : decode b_X_poke 18 = .ok (.sipush 255, 3) := by decide +kernel
theorem d_X_poke_21 : decode b_X_poke 21 = .ok (.if_icmp .le 5, 3) := by decide +kernel
theorem d_X_poke_24 : decode b_X_poke 24 = .ok (.iconst 0, 1) := by decide +kernel
theorem d_X_poke_25 : decode b_X_poke 25 = .ok (.ireturn, 1) := by decide +kernel
theorem d_X_poke_26 : decode b_X_poke 26 = .ok (.aload_n 0, 1) := by decide +kernel
theorem d_X_poke_27 : decode b_X_poke 27 = .ok (.getfield 10, 3) := by decide +kernel
theorem d_X_poke_30 : decode b_X_poke 30 = .ok (.getfield 104, 3) := by decide +kernel
theorem d_X_poke_33 : decode b_X_poke 33 = .ok (.iload_n 1, 1) := by decide +kernel
theorem d_X_poke_34 : decode b_X_poke 34 = .ok (.iload_n 2, 1) := by decide +kernel
theorem d_X_poke_35 : decode b_X_poke 35 = .ok (.iastore, 1) := by decide +kernel
theorem d_X_poke_36 : decode b_X_poke 36 = .ok (.iconst 1, 1) := by decide +kernel
theorem d_X_poke_37 : decode b_X_poke 37 = .ok (.ireturn, 1) := by decide +kernel
def wp_X_poke (post : Int32 → (Nat → Int32) → Prop) (I_p0_file : Nat → Int32) (f_p0_file_bytes : Nat → Int32) (x1 : Int32) (x2 : Int32) : Prop :=
  wp_St_holds (fun (r7 : Int32) =>
    ((r7 = 0 →
      post 0 f_p0_file_bytes) ∧
     (¬ r7 = 0 →
      ((x2 < 0 →
        post 0 f_p0_file_bytes) ∧
       (¬ x2 < 0 →
        ((x2 ≤ 255 →
          vp_in x1 900 ∧
          post 1 (upd f_p0_file_bytes (x1).toNatClampNeg x2)) ∧
         (¬ x2 ≤ 255 →
          post 0 f_p0_file_bytes))))))) I_p0_file x1.toInt64 1
set_option maxRecDepth 100000 in
set_option maxHeartbeats 4000000 in
theorem c_X_poke (l : Launch) (dC : Nat → ClassId) (dI : Nat → Nat → Nat) (cI : ClassId) (a_p0 : Nat) (A_p0 : Nat → Nat) (A_p0_file : Nat → Nat) (I_p0_file : Nat → Int32) (f_p0_file_bytes : Nat → Int32) (x1 : Int32) (x2 : Int32) {post : Int32 → (Nat → Int32) → Prop} (hw : wp_X_poke post I_p0_file f_p0_file_bytes x1 x2) : gm_i l y_X_poke ws_X_poke ({ frames := 1, cells := 0, slots := 0, locals := 24 } : Room) (dC, dI) vwCl [(cI, .int)] [.ref a_p0, .int x1, .int x2] [oX a_p0 A_p0, oSt (A_p0 0) A_p0_file I_p0_file, gz cI (A_p0_file 0) 900 f_p0_file_bytes] (fun (u : (Nat → Int32)) => [oX a_p0 A_p0, oSt (A_p0 0) A_p0_file I_p0_file, gz cI (A_p0_file 0) 900 u]) (fun (r : Int32) (u : (Nat → Int32)) => post r u) := by
  refine gm_iof (cc := b_X_poke) (maxL := 3) (ty := .boolean) (by decide) rfl (Nat.le_of_ble_eq_true rfl) ?_
  intro p e s m args below meth c A Q hx hb hml hown hg hK hN hA hret
  have hown : s.vm.findClass R_X = some m.cls := hown
  intro ls hl hP hD hS
  have hl : lv_has ls 3 [(0, .ref a_p0), (1, .int x1), (2, .int x2)] := hl
  unfold wp_X_poke at hw
  refine lv_aload_n hx hb d_X_poke_0 rfl (lv_at hl 0 rfl) ?_
  refine va_get (D := (dC, dI)) (ci := 9) (v := .ref (A_p0 0)) (C := R_X) (T := T_X) (N := 14) hx hb hg in_X hown hK hP 0 rfl rfl 0 (by decide) (hg _ t_307) (fun _ h9 => h9) rfl d_X_poke_1 ?_
  refine lv_iload_n hx hb d_X_poke_4 rfl (lv_at hl 1 rfl) ?_
  refine lv_i2l hx hb d_X_poke_5 rfl ?_
  refine lv_lconst (v := 1) hx hb d_X_poke_6 (by decide) ?_
  refine gc_i (wn := fun (_ : Unit) => [oX a_p0 A_p0, oSt (A_p0 0) A_p0_file I_p0_file, gz cI (A_p0_file 0) 900 f_p0_file_bytes]) (wr := [oX a_p0 A_p0, gz cI (A_p0_file 0) 900 f_p0_file_bytes]) (gr_V (As := [.long x1.toInt64, .long 1]) (rest := []) ⟨hx, hb, hml, hown, hg⟩ (c_St_holds l dC dI cI (A_p0 0) A_p0_file I_p0_file x1.toInt64 1 hw _) (cwV 2 hg (gg_V t_362 t_363 t_364 t_61 t_365) rfl rfl rfl (by decide +kernel) ⟨Nat.le_of_ble_eq_true rfl, Nat.le_of_ble_eq_true rfl⟩) hK hN hP hD [1] (by decide) rfl 1 7 rfl rfl rfl rfl hl.1 rfl (Nat.le_of_ble_eq_true rfl) d_X_poke_7 ⟨Nat.le_of_ble_eq_true rfl, Nat.le_of_ble_eq_true rfl⟩) rfl rfl hP hD hS hA [1] [0, 2] [0, 2, 1] rfl rfl (by decide) (by decide) (by decide) (fun _ => rfl) ?_
  intro r7 _ H locs hw hP hD hS
  try dsimp only at hw
  have hP : va_P (dC, dI) vwCl [oX a_p0 A_p0, oSt (A_p0 0) A_p0_file I_p0_file, gz cI (A_p0_file 0) 900 f_p0_file_bytes] H := hP
  have hD : va_D A [oX a_p0 A_p0, oSt (A_p0 0) A_p0_file I_p0_file, gz cI (A_p0_file 0) 900 f_p0_file_bytes] := hD
  refine lv_if_eq hx hb d_X_poke_10 rfl (fun hc => ?_) (fun hc => ?_)
  · have hw := hw.1 hc
    refine lv_iconst (v := 0) hx hb d_X_poke_24 (by decide) ?_
    exact hret _ _ _ _ _ f_p0_file_bytes d_X_poke_25 rfl hP hD hS hw
  · have hw := hw.2 hc
    refine lv_iload_n hx hb d_X_poke_13 rfl (lv_at hl 2 rfl) ?_
    refine lv_if_lt hx hb d_X_poke_14 rfl (fun hc => ?_) (fun hc => ?_)
    · have hw := hw.1 hc
      refine lv_iconst (v := 0) hx hb d_X_poke_24 (by decide) ?_
      exact hret _ _ _ _ _ f_p0_file_bytes d_X_poke_25 rfl hP hD hS hw
    · have hw := hw.2 hc
      refine lv_iload_n hx hb d_X_poke_17 rfl (lv_at hl 2 rfl) ?_
      refine lv_sipush (v := 255) hx hb d_X_poke_18 (by decide) ?_
      refine lv_icmp_le hx hb d_X_poke_21 rfl (fun hc => ?_) (fun hc => ?_)
      · have hw := hw.1 hc
        refine lv_aload_n hx hb d_X_poke_26 rfl (lv_at hl 0 rfl) ?_
        refine va_get (D := (dC, dI)) (ci := 9) (v := .ref (A_p0 0)) (C := R_X) (T := T_X) (N := 14) hx hb hg in_X hown hK hP 0 rfl rfl 0 (by decide) (hg _ t_307) (fun _ h9 => h9) rfl d_X_poke_27 ?_
        refine va_get (D := (dC, dI)) (ci := 7) (v := .ref (A_p0_file 0)) (C := R_St) (T := T_St) (N := 3) hx hb hg in_St hown hK hP 1 rfl rfl 0 (by decide) (hg _ t_90) (fun _ h9 => h9) rfl d_X_poke_30 ?_
        refine lv_iload_n hx hb d_X_poke_33 rfl (lv_at hl 1 rfl) ?_
        refine lv_iload_n hx hb d_X_poke_34 rfl (lv_at hl 2 rfl) ?_
        obtain ⟨hin, hw⟩ := hw
        refine va_iast hx hb hK hP hD hS 2 0 rfl rfl hin d_X_poke_35 (fun H locs hP hD hS => ?_)
        have hP : va_P (dC, dI) vwCl [oX a_p0 A_p0, oSt (A_p0 0) A_p0_file I_p0_file, gz cI (A_p0_file 0) 900 (upd f_p0_file_bytes (x1).toNatClampNeg x2)] H := hP
        have hD : va_D A [oX a_p0 A_p0, oSt (A_p0 0) A_p0_file I_p0_file, gz cI (A_p0_file 0) 900 (upd f_p0_file_bytes (x1).toNatClampNeg x2)] := hD
        refine lv_iconst (v := 1) hx hb d_X_poke_36 (by decide) ?_
        exact hret _ _ _ _ _ (upd f_p0_file_bytes (x1).toNatClampNeg x2) d_X_poke_37 rfl hP hD hS hw
      · have hw := hw.2 hc
        refine lv_iconst (v := 0) hx hb d_X_poke_24 (by decide) ?_
        exact hret _ _ _ _ _ f_p0_file_bytes d_X_poke_25 rfl hP hD hS hw
theorem d_X_sample_0 : decode b_X_sample 0 = .ok (.aload_n 0, 1) := by decide +kernel
theorem d_X_sample_1 : decode b_X_sample 1 = .ok (.getfield 26, 3) := by decide +kernel
theorem d_X_sample_4 : decode b_X_sample 4 = .ok (.iload_n 1, 1) := by decide +kernel
theorem d_X_sample_5 : decode b_X_sample 5 = .ok (.iload_n 2, 1) := by decide +kernel
theorem d_X_sample_6 : decode b_X_sample 6 = .ok (.invokevirtual 124, 3) := by decide +kernel
theorem d_X_sample_9 : decode b_X_sample 9 = .ok (.ifCond .eq 15, 3) := by decide +kernel
theorem d_X_sample_12 : decode b_X_sample 12 = .ok (.aload_n 0, 1) := by decide +kernel
theorem d_X_sample_13 : decode b_X_sample 13 = .ok (.getfield 26, 3) := by decide +kernel
theorem d_X_sample_16 : decode b_X_sample 16 = .ok (.iload_n 1, 1) := by decide +kernel
theorem d_X_sample_17 : decode b_X_sample 17 = .ok (.iload_n 2, 1) := by decide +kernel
theorem d_X_sample_18 : decode b_X_sample 18 = .ok (.invokevirtual 135, 3) := by decide +kernel
theorem d_X_sample_21 : decode b_X_sample 21 = .ok (.goto 4, 3) := by decide +kernel
theorem d_X_sample_24 : decode b_X_sample 24 = .ok (.iconst (-1), 1) := by decide +kernel
theorem d_X_sample_25 : decode b_X_sample 25 = .ok (.ireturn, 1) := by decide +kernel
def wp_X_sample (post : Int32 → Prop) (I_p0_picture : Nat → Int32) (f_p0_picture_samples : Nat → Int32) (x1 : Int32) (x2 : Int32) : Prop :=
  wp_Pi_has (fun (r6 : Int32) =>
    ((r6 = 0 →
      post (-1)) ∧
     (¬ r6 = 0 →
      wp_Pi_get (fun (r18 : Int32) =>
        post r18) I_p0_picture f_p0_picture_samples x1 x2))) I_p0_picture x1 x2
set_option maxRecDepth 100000 in
set_option maxHeartbeats 4000000 in
theorem c_X_sample (l : Launch) (dC : Nat → ClassId) (dI : Nat → Nat → Nat) (cI : ClassId) (a_p0 : Nat) (A_p0 : Nat → Nat) (A_p0_picture : Nat → Nat) (I_p0_picture : Nat → Int32) (f_p0_picture_samples : Nat → Int32) (x1 : Int32) (x2 : Int32) {post : Int32 → Prop} (hw : wp_X_sample post I_p0_picture f_p0_picture_samples x1 x2) : gm_i l y_X_sample ws_X_sample ({ frames := 2, cells := 0, slots := 0, locals := 44 } : Room) (dC, dI) vwCl [(cI, .int)] [.ref a_p0, .int x1, .int x2] [oX a_p0 A_p0, oPi (A_p0 2) A_p0_picture I_p0_picture, gz cI (A_p0_picture 0) 256 f_p0_picture_samples] (fun (_ : Unit) => [oX a_p0 A_p0, oPi (A_p0 2) A_p0_picture I_p0_picture, gz cI (A_p0_picture 0) 256 f_p0_picture_samples]) (fun (r : Int32) (_ : Unit) => post r) := by
  refine gm_iof (cc := b_X_sample) (maxL := 3) (ty := .int) (by decide) rfl (Nat.le_of_ble_eq_true rfl) ?_
  intro p e s m args below meth c A Q hx hb hml hown hg hK hN hA hret
  have hown : s.vm.findClass R_X = some m.cls := hown
  intro ls hl hP hD hS
  have hl : lv_has ls 3 [(0, .ref a_p0), (1, .int x1), (2, .int x2)] := hl
  unfold wp_X_sample at hw
  refine lv_aload_n hx hb d_X_sample_0 rfl (lv_at hl 0 rfl) ?_
  refine va_get (D := (dC, dI)) (ci := 9) (v := .ref (A_p0 2)) (C := R_X) (T := T_X) (N := 14) hx hb hg in_X hown hK hP 0 rfl rfl 2 (by decide) (hg _ t_309) (fun _ h9 => h9) rfl d_X_sample_1 ?_
  refine lv_iload_n hx hb d_X_sample_4 rfl (lv_at hl 1 rfl) ?_
  refine lv_iload_n hx hb d_X_sample_5 rfl (lv_at hl 2 rfl) ?_
  refine gc_i (wn := fun (_ : Unit) => [oX a_p0 A_p0, oPi (A_p0 2) A_p0_picture I_p0_picture, gz cI (A_p0_picture 0) 256 f_p0_picture_samples]) (wr := [oX a_p0 A_p0, gz cI (A_p0_picture 0) 256 f_p0_picture_samples]) (gr_V (As := [.int x1, .int x2]) (rest := []) ⟨hx, hb, hml, hown, hg⟩ (c_Pi_has l dC dI cI (A_p0 2) A_p0_picture I_p0_picture x1 x2 hw _) (cwV 2 hg (gg_V t_393 t_394 t_395 t_63 t_396) rfl rfl rfl (by decide +kernel) ⟨Nat.le_of_ble_eq_true rfl, Nat.le_of_ble_eq_true rfl⟩) hK hN hP hD [1] (by decide) rfl 1 6 rfl rfl rfl rfl hl.1 rfl (Nat.le_of_ble_eq_true rfl) d_X_sample_6 ⟨Nat.le_of_ble_eq_true rfl, Nat.le_of_ble_eq_true rfl⟩) rfl rfl hP hD hS hA [1] [0, 2] [0, 2, 1] rfl rfl (by decide) (by decide) (by decide) (fun _ => rfl) ?_
  intro r6 _ H locs hw hP hD hS
  try dsimp only at hw
  have hP : va_P (dC, dI) vwCl [oX a_p0 A_p0, oPi (A_p0 2) A_p0_picture I_p0_picture, gz cI (A_p0_picture 0) 256 f_p0_picture_samples] H := hP
  have hD : va_D A [oX a_p0 A_p0, oPi (A_p0 2) A_p0_picture I_p0_picture, gz cI (A_p0_picture 0) 256 f_p0_picture_samples] := hD
  refine lv_if_eq hx hb d_X_sample_9 rfl (fun hc => ?_) (fun hc => ?_)
  · have hw := hw.1 hc
    refine lv_iconst (v := (-1)) hx hb d_X_sample_24 (by decide) ?_
    exact hret _ _ _ _ _ () d_X_sample_25 rfl hP hD hS hw
  · have hw := hw.2 hc
    refine lv_aload_n hx hb d_X_sample_12 rfl (lv_at hl 0 rfl) ?_
    refine va_get (D := (dC, dI)) (ci := 9) (v := .ref (A_p0 2)) (C := R_X) (T := T_X) (N := 14) hx hb hg in_X hown hK hP 0 rfl rfl 2 (by decide) (hg _ t_309) (fun _ h9 => h9) rfl d_X_sample_13 ?_
    refine lv_iload_n hx hb d_X_sample_16 rfl (lv_at hl 1 rfl) ?_
    refine lv_iload_n hx hb d_X_sample_17 rfl (lv_at hl 2 rfl) ?_
    refine gc_i (wn := fun (_ : Unit) => [oX a_p0 A_p0, oPi (A_p0 2) A_p0_picture I_p0_picture, gz cI (A_p0_picture 0) 256 f_p0_picture_samples]) (wr := [oX a_p0 A_p0]) (gr_V (As := [.int x1, .int x2]) (rest := []) ⟨hx, hb, hml, hown, hg⟩ (c_Pi_get l dC dI cI (A_p0 2) A_p0_picture I_p0_picture f_p0_picture_samples x1 x2 hw _) (cwV 2 hg (gg_V t_411 t_412 t_413 t_63 t_414) rfl rfl rfl (by decide +kernel) ⟨Nat.le_of_ble_eq_true rfl, Nat.le_of_ble_eq_true rfl⟩) hK hN hP hD [1, 2] (by decide) rfl 1 6 rfl rfl rfl rfl hl.1 rfl (Nat.le_of_ble_eq_true rfl) d_X_sample_18 ⟨Nat.le_of_ble_eq_true rfl, Nat.le_of_ble_eq_true rfl⟩) rfl rfl hP hD hS hA [1, 2] [0] [0, 1, 2] rfl rfl (by decide) (by decide) (by decide) (fun _ => rfl) ?_
    intro r18 _ H locs hw hP hD hS
    try dsimp only at hw
    have hP : va_P (dC, dI) vwCl [oX a_p0 A_p0, oPi (A_p0 2) A_p0_picture I_p0_picture, gz cI (A_p0_picture 0) 256 f_p0_picture_samples] H := hP
    have hD : va_D A [oX a_p0 A_p0, oPi (A_p0 2) A_p0_picture I_p0_picture, gz cI (A_p0_picture 0) 256 f_p0_picture_samples] := hD
    refine lv_goto hx hb d_X_sample_21 rfl ?_
    exact hret _ _ _ _ _ () d_X_sample_25 rfl hP hD hS hw
theorem d_X_shape_0 : decode b_X_shape 0 = .ok (.ldc 114, 2) := by decide +kernel
theorem d_X_shape_2 : decode b_X_shape 2 = .ok (.aload_n 0, 1) := by decide +kernel
theorem d_X_shape_3 : decode b_X_shape 3 = .ok (.getfield 26, 3) := by decide +kernel
theorem d_X_shape_6 : decode b_X_shape 6 = .ok (.getfield 115, 3) := by decide +kernel
theorem d_X_shape_9 : decode b_X_shape 9 = .ok (.imul, 1) := by decide +kernel
theorem d_X_shape_10 : decode b_X_shape 10 = .ok (.sipush 1000, 3) := by decide +kernel
theorem d_X_shape_13 : decode b_X_shape 13 = .ok (.aload_n 0, 1) := by decide +kernel
theorem d_X_shape_14 : decode b_X_shape 14 = .ok (.getfield 26, 3) := by decide +kernel
theorem d_X_shape_17 : decode b_X_shape 17 = .ok (.getfield 118, 3) := by decide +kernel
theorem d_X_shape_20 : decode b_X_shape 20 = .ok (.imul, 1) := by decide +kernel
theorem d_X_shape_21 : decode b_X_shape 21 = .ok (.iadd, 1) := by decide +kernel
theorem d_X_shape_22 : decode b_X_shape 22 = .ok (.aload_n 0, 1) := by decide +kernel
theorem d_X_shape_23 : decode b_X_shape 23 = .ok (.getfield 26, 3) := by decide +kernel
theorem d_X_shape_26 : decode b_X_shape 26 = .ok (.getfield 121, 3) := by decide +kernel
theorem d_X_shape_29 : decode b_X_shape 29 = .ok (.iadd, 1) := by decide +kernel
theorem d_X_shape_30 : decode b_X_shape 30 = .ok (.ireturn, 1) := by decide +kernel
def wp_X_shape (post : Int32 → Prop) (I_p0_picture : Nat → Int32) : Prop :=
  post (((1000000 * (I_p0_picture 3)) + (1000 * (I_p0_picture 1))) + (I_p0_picture 2))
set_option maxRecDepth 100000 in
set_option maxHeartbeats 4000000 in
theorem c_X_shape (l : Launch) (dC : Nat → ClassId) (dI : Nat → Nat → Nat) (cI : ClassId) (a_p0 : Nat) (A_p0 : Nat → Nat) (A_p0_picture : Nat → Nat) (I_p0_picture : Nat → Int32) {post : Int32 → Prop} (hw : wp_X_shape post I_p0_picture) : gm_i l y_X_shape ws_X_shape ({ frames := 0, cells := 0, slots := 0, locals := 0 } : Room) (dC, dI) vwCl [(cI, .int)] [.ref a_p0] [oX a_p0 A_p0, oPi (A_p0 2) A_p0_picture I_p0_picture] (fun (_ : Unit) => [oX a_p0 A_p0, oPi (A_p0 2) A_p0_picture I_p0_picture]) (fun (r : Int32) (_ : Unit) => post r) := by
  refine gm_iof (cc := b_X_shape) (maxL := 1) (ty := .int) (by decide) rfl (Nat.le_of_ble_eq_true rfl) ?_
  intro p e s m args below meth c A Q hx hb hml hown hg hK hN hA hret
  have hown : s.vm.findClass R_X = some m.cls := hown
  intro ls hl hP hD hS
  have hl : lv_has ls 1 [(0, .ref a_p0)] := hl
  unfold wp_X_shape at hw
  refine lv_ldc (v := 1000000) hx hb hown (hg _ t_388) d_X_shape_0 ?_
  refine lv_aload_n hx hb d_X_shape_2 rfl (lv_at hl 0 rfl) ?_
  refine va_get (D := (dC, dI)) (ci := 9) (v := .ref (A_p0 2)) (C := R_X) (T := T_X) (N := 14) hx hb hg in_X hown hK hP 0 rfl rfl 2 (by decide) (hg _ t_309) (fun _ h9 => h9) rfl d_X_shape_3 ?_
  refine va_get (D := (dC, dI)) (ci := 6) (v := .int (I_p0_picture 3)) (C := R_Pi) (T := T_Pi) (N := 4) hx hb hg in_Pi hown hK hP 1 rfl rfl 3 (by decide) (hg _ t_141) (fun _ h9 => h9) rfl d_X_shape_6 ?_
  refine lv_imul hx hb d_X_shape_9 ?_
  refine lv_sipush (v := 1000) hx hb d_X_shape_10 (by decide) ?_
  refine lv_aload_n hx hb d_X_shape_13 rfl (lv_at hl 0 rfl) ?_
  refine va_get (D := (dC, dI)) (ci := 9) (v := .ref (A_p0 2)) (C := R_X) (T := T_X) (N := 14) hx hb hg in_X hown hK hP 0 rfl rfl 2 (by decide) (hg _ t_309) (fun _ h9 => h9) rfl d_X_shape_14 ?_
  refine va_get (D := (dC, dI)) (ci := 6) (v := .int (I_p0_picture 1)) (C := R_Pi) (T := T_Pi) (N := 4) hx hb hg in_Pi hown hK hP 1 rfl rfl 1 (by decide) (hg _ t_137) (fun _ h9 => h9) rfl d_X_shape_17 ?_
  refine lv_imul hx hb d_X_shape_20 ?_
  refine lv_iadd hx hb d_X_shape_21 ?_
  refine lv_aload_n hx hb d_X_shape_22 rfl (lv_at hl 0 rfl) ?_
  refine va_get (D := (dC, dI)) (ci := 9) (v := .ref (A_p0 2)) (C := R_X) (T := T_X) (N := 14) hx hb hg in_X hown hK hP 0 rfl rfl 2 (by decide) (hg _ t_309) (fun _ h9 => h9) rfl d_X_shape_23 ?_
  refine va_get (D := (dC, dI)) (ci := 6) (v := .int (I_p0_picture 2)) (C := R_Pi) (T := T_Pi) (N := 4) hx hb hg in_Pi hown hK hP 1 rfl rfl 2 (by decide) (hg _ t_139) (fun _ h9 => h9) rfl d_X_shape_26 ?_
  refine lv_iadd hx hb d_X_shape_29 ?_
  exact hret _ _ _ _ _ () d_X_shape_30 rfl hP hD hS hw
theorem d_X_sound_0 : decode b_X_sound 0 = .ok (.aload_n 0, 1) := by decide +kernel
theorem d_X_sound_1 : decode b_X_sound 1 = .ok (.getfield 19, 3) := by decide +kernel
theorem d_X_sound_4 : decode b_X_sound 4 = .ok (.aload_n 0, 1) := by decide +kernel
theorem d_X_sound_5 : decode b_X_sound 5 = .ok (.getfield 10, 3) := by decide +kernel
theorem d_X_sound_8 : decode b_X_sound 8 = .ok (.invokevirtual 153, 3) := by decide +kernel
theorem d_X_sound_11 : decode b_X_sound 11 = .ok (.aload_n 0, 1) := by decide +kernel
theorem d_X_sound_12 : decode b_X_sound 12 = .ok (.getfield 19, 3) := by decide +kernel
theorem d_X_sound_15 : decode b_X_sound 15 = .ok (.getfield 157, 3) := by decide +kernel
theorem d_X_sound_18 : decode b_X_sound 18 = .ok (.ireturn, 1) := by decide +kernel
def wp_X_sound (post : Int32 → (Nat → Int32) → (Nat → Int32) → Prop) (I_p0_file : Nat → Int32) (f_p0_file_bytes : Nat → Int32) (I_p0_walk : Nat → Int32) (f_p0_walk_places : Nat → Int32) : Prop :=
  wp_Wk_follow (fun (I_p0_walk_8 : Nat → Int32) (f_p0_walk_places_8 : Nat → Int32) =>
    ((I_p0_walk_8 2) = 0 ∨ (I_p0_walk_8 2) = 1) ∧
    post (I_p0_walk_8 2) I_p0_walk_8 f_p0_walk_places_8) I_p0_file f_p0_file_bytes I_p0_walk f_p0_walk_places
set_option maxRecDepth 100000 in
set_option maxHeartbeats 4000000 in
theorem c_X_sound (l : Launch) (dC : Nat → ClassId) (dI : Nat → Nat → Nat) (cI : ClassId) (a_p0 : Nat) (A_p0 : Nat → Nat) (A_p0_file : Nat → Nat) (A_p0_walk : Nat → Nat) (I_p0_file : Nat → Int32) (f_p0_file_bytes : Nat → Int32) (I_p0_walk : Nat → Int32) (f_p0_walk_places : Nat → Int32) {post : Int32 → (Nat → Int32) → (Nat → Int32) → Prop} (hw : wp_X_sound post I_p0_file f_p0_file_bytes I_p0_walk f_p0_walk_places) : gm_i l y_X_sound ws_X_sound ({ frames := 3, cells := 0, slots := 0, locals := 71 } : Room) (dC, dI) vwCl [(cI, .int)] [.ref a_p0] [oX a_p0 A_p0, oSt (A_p0 0) A_p0_file I_p0_file, gz cI (A_p0_file 0) 900 f_p0_file_bytes, oWk (A_p0 1) A_p0_walk I_p0_walk, gz cI (A_p0_walk 0) 8 f_p0_walk_places] (fun (u : (Nat → Int32) × (Nat → Int32)) => [oX a_p0 A_p0, oSt (A_p0 0) A_p0_file I_p0_file, gz cI (A_p0_file 0) 900 f_p0_file_bytes, oWk (A_p0 1) A_p0_walk u.1, gz cI (A_p0_walk 0) 8 u.2]) (fun (r : Int32) (u : (Nat → Int32) × (Nat → Int32)) => post r u.1 u.2) := by
  refine gm_iof (cc := b_X_sound) (maxL := 1) (ty := .boolean) (by decide) rfl (Nat.le_of_ble_eq_true rfl) ?_
  intro p e s m args below meth c A Q hx hb hml hown hg hK hN hA hret
  have hown : s.vm.findClass R_X = some m.cls := hown
  intro ls hl hP hD hS
  have hl : lv_has ls 1 [(0, .ref a_p0)] := hl
  unfold wp_X_sound at hw
  refine lv_aload_n hx hb d_X_sound_0 rfl (lv_at hl 0 rfl) ?_
  refine va_get (D := (dC, dI)) (ci := 9) (v := .ref (A_p0 1)) (C := R_X) (T := T_X) (N := 14) hx hb hg in_X hown hK hP 0 rfl rfl 1 (by decide) (hg _ t_308) (fun _ h9 => h9) rfl d_X_sound_1 ?_
  refine lv_aload_n hx hb d_X_sound_4 rfl (lv_at hl 0 rfl) ?_
  refine va_get (D := (dC, dI)) (ci := 9) (v := .ref (A_p0 0)) (C := R_X) (T := T_X) (N := 14) hx hb hg in_X hown hK hP 0 rfl rfl 0 (by decide) (hg _ t_307) (fun _ h9 => h9) rfl d_X_sound_5 ?_
  refine gc_v (wn := fun u => [oX a_p0 A_p0, oSt (A_p0 0) A_p0_file I_p0_file, gz cI (A_p0_file 0) 900 f_p0_file_bytes, oWk (A_p0 1) A_p0_walk u.1, gz cI (A_p0_walk 0) 8 u.2]) (wr := [oX a_p0 A_p0]) (gr_V (As := [.ref (A_p0 0)]) (rest := []) ⟨hx, hb, hml, hown, hg⟩ (c_Wk_follow l dC dI cI (A_p0 1) (A_p0 0) A_p0_walk A_p0_file I_p0_file f_p0_file_bytes I_p0_walk f_p0_walk_places hw _) (cwV 1 hg (gg_V t_449 t_450 t_451 t_62 t_452) rfl rfl rfl (by decide +kernel) ⟨Nat.le_of_ble_eq_true rfl, Nat.le_of_ble_eq_true rfl⟩) hK hN hP hD [3, 4, 1, 2] (by decide) rfl 3 8 rfl rfl rfl rfl hl.1 rfl (Nat.le_of_ble_eq_true rfl) d_X_sound_8 ⟨Nat.le_of_ble_eq_true rfl, Nat.le_of_ble_eq_true rfl⟩) rfl rfl hP hD hS hA [3, 4, 1, 2] [0] [0, 3, 4, 1, 2] rfl rfl (by decide) (by decide) (by decide) (fun _ => rfl) ?_
  intro u9 H locs hw hP hD hS
  obtain ⟨I_p0_walk_8, f_p0_walk_places_8⟩ := u9
  try dsimp only at hw
  have hP : va_P (dC, dI) vwCl [oX a_p0 A_p0, oSt (A_p0 0) A_p0_file I_p0_file, gz cI (A_p0_file 0) 900 f_p0_file_bytes, oWk (A_p0 1) A_p0_walk I_p0_walk_8, gz cI (A_p0_walk 0) 8 f_p0_walk_places_8] H := hP
  have hD : va_D A [oX a_p0 A_p0, oSt (A_p0 0) A_p0_file I_p0_file, gz cI (A_p0_file 0) 900 f_p0_file_bytes, oWk (A_p0 1) A_p0_walk I_p0_walk_8, gz cI (A_p0_walk 0) 8 f_p0_walk_places_8] := hD
  refine lv_aload_n hx hb d_X_sound_11 rfl (lv_at hl 0 rfl) ?_
  refine va_get (D := (dC, dI)) (ci := 9) (v := .ref (A_p0 1)) (C := R_X) (T := T_X) (N := 14) hx hb hg in_X hown hK hP 0 rfl rfl 1 (by decide) (hg _ t_308) (fun _ h9 => h9) rfl d_X_sound_12 ?_
  refine va_get (D := (dC, dI)) (ci := 8) (v := .int (I_p0_walk_8 2)) (C := R_Wk) (T := T_Wk) (N := 4) hx hb hg in_Wk hown hK hP 3 rfl rfl 2 (by decide) (hg _ t_117) (fun _ h9 => h9) rfl d_X_sound_15 ?_
  obtain ⟨hz, hw⟩ := hw
  exact hret _ _ _ _ _ (I_p0_walk_8, f_p0_walk_places_8) d_X_sound_18 (gz_nar hz) hP hD hS hw
theorem d_X_unlabel_0 : decode b_X_unlabel 0 = .ok (.aload_n 0, 1) := by decide +kernel
theorem d_X_unlabel_1 : decode b_X_unlabel 1 = .ok (.getfield 33, 3) := by decide +kernel
theorem d_X_unlabel_4 : decode b_X_unlabel 4 = .ok (.getfield 144, 3) := by decide +kernel
theorem d_X_unlabel_7 : decode b_X_unlabel 7 = .ok (.istore_n 1, 1) := by decide +kernel
theorem d_X_unlabel_8 : decode b_X_unlabel 8 = .ok (.aload_n 0, 1) := by decide +kernel
theorem d_X_unlabel_9 : decode b_X_unlabel 9 = .ok (.getfield 33, 3) := by decide +kernel
theorem d_X_unlabel_12 : decode b_X_unlabel 12 = .ok (.iconst 0, 1) := by decide +kernel
theorem d_X_unlabel_13 : decode b_X_unlabel 13 = .ok (.putfield 144, 3) := by decide +kernel
theorem d_X_unlabel_16 : decode b_X_unlabel 16 = .ok (.iload_n 1, 1) := by decide +kernel
theorem d_X_unlabel_17 : decode b_X_unlabel 17 = .ok (.ireturn, 1) := by decide +kernel
def wp_X_unlabel (post : Int32 → (Nat → Int32) → Prop) (I_p0_labels : Nat → Int32) : Prop :=
  post (I_p0_labels 3) (upd I_p0_labels 3 0)
set_option maxRecDepth 100000 in
set_option maxHeartbeats 4000000 in
theorem c_X_unlabel (l : Launch) (dC : Nat → ClassId) (dI : Nat → Nat → Nat) (cI : ClassId) (a_p0 : Nat) (A_p0 : Nat → Nat) (A_p0_labels : Nat → Nat) (I_p0_labels : Nat → Int32) {post : Int32 → (Nat → Int32) → Prop} (hw : wp_X_unlabel post I_p0_labels) : gm_i l y_X_unlabel ws_X_unlabel ({ frames := 0, cells := 0, slots := 0, locals := 0 } : Room) (dC, dI) vwCl [(cI, .int)] [.ref a_p0] [oX a_p0 A_p0, oLb (A_p0 3) A_p0_labels I_p0_labels] (fun (u : (Nat → Int32)) => [oX a_p0 A_p0, oLb (A_p0 3) A_p0_labels u]) (fun (r : Int32) (u : (Nat → Int32)) => post r u) := by
  refine gm_iof (cc := b_X_unlabel) (maxL := 2) (ty := .int) (by decide) rfl (Nat.le_of_ble_eq_true rfl) ?_
  intro p e s m args below meth c A Q hx hb hml hown hg hK hN hA hret
  have hown : s.vm.findClass R_X = some m.cls := hown
  intro ls hl hP hD hS
  have hl : lv_has ls 2 [(0, .ref a_p0)] := hl
  unfold wp_X_unlabel at hw
  refine lv_aload_n hx hb d_X_unlabel_0 rfl (lv_at hl 0 rfl) ?_
  refine va_get (D := (dC, dI)) (ci := 9) (v := .ref (A_p0 3)) (C := R_X) (T := T_X) (N := 14) hx hb hg in_X hown hK hP 0 rfl rfl 3 (by decide) (hg _ t_310) (fun _ h9 => h9) rfl d_X_unlabel_1 ?_
  refine va_get (D := (dC, dI)) (ci := 2) (v := .int (I_p0_labels 3)) (C := R_Lb) (T := T_Lb) (N := 4) hx hb hg in_Lb hown hK hP 1 rfl rfl 3 (by decide) (hg _ t_162) (fun _ h9 => h9) rfl d_X_unlabel_4 ?_
  refine lv_istore_n (lv' := [(1, .int (I_p0_labels 3)), (0, .ref a_p0)]) hx hb d_X_unlabel_7 rfl hl (by decide) rfl (fun ls hl => ?_)
  refine lv_aload_n hx hb d_X_unlabel_8 rfl (lv_at hl 1 rfl) ?_
  refine va_get (D := (dC, dI)) (ci := 9) (v := .ref (A_p0 3)) (C := R_X) (T := T_X) (N := 14) hx hb hg in_X hown hK hP 0 rfl rfl 3 (by decide) (hg _ t_310) (fun _ h9 => h9) rfl d_X_unlabel_9 ?_
  refine lv_iconst (v := 0) hx hb d_X_unlabel_12 (by decide) ?_
  refine va_put (D := (dC, dI)) (ci := 2) (v := .int 0) (ty := .int) (C := R_Lb) (T := T_Lb) (N := 4) hx hb hg in_Lb t_Lb tok_Lb nok_Lb hown hK hP hD hS 1 rfl rfl 3 (by decide) (hg _ t_162) (fun _ h9 => h9) rfl (by decide +kernel) rfl rfl (Nat.le_of_ble_eq_true rfl) d_X_unlabel_13 (fun H locs hP hD hS => ?_)
  have hP : va_P (dC, dI) vwCl [oX a_p0 A_p0, oLb (A_p0 3) A_p0_labels (upd I_p0_labels 3 0)] H := hP
  have hD : va_D A [oX a_p0 A_p0, oLb (A_p0 3) A_p0_labels (upd I_p0_labels 3 0)] := hD
  refine lv_iload_n hx hb d_X_unlabel_16 rfl (lv_at hl 0 rfl) ?_
  exact hret _ _ _ _ _ (upd I_p0_labels 3 0) d_X_unlabel_17 rfl hP hD hS hw
theorem d_X_wash_0 : decode b_X_wash 0 = .ok (.iconst 0, 1) := by decide +kernel
theorem d_X_wash_1 : decode b_X_wash 1 = .ok (.istore 4, 2) := by decide +kernel
theorem d_X_wash_3 : decode b_X_wash 3 = .ok (.iload 4, 2) := by decide +kernel
theorem d_X_wash_5 : decode b_X_wash 5 = .ok (.aload_n 0, 1) := by decide +kernel
theorem d_X_wash_6 : decode b_X_wash 6 = .ok (.getfield 26, 3) := by decide +kernel
theorem d_X_wash_9 : decode b_X_wash 9 = .ok (.getfield 121, 3) := by decide +kernel
theorem d_X_wash_12 : decode b_X_wash 12 = .ok (.if_icmp .ge 64, 3) := by decide +kernel
theorem d_X_wash_15 : decode b_X_wash 15 = .ok (.iconst 0, 1) := by decide +kernel
theorem d_X_wash_16 : decode b_X_wash 16 = .ok (.istore 5, 2) := by decide +kernel
theorem d_X_wash_18 : decode b_X_wash 18 = .ok (.iload 5, 2) := by decide +kernel
theorem d_X_wash_20 : decode b_X_wash 20 = .ok (.aload_n 0, 1) := by decide +kernel
theorem d_X_wash_21 : decode b_X_wash 21 = .ok (.getfield 26, 3) := by decide +kernel
theorem d_X_wash_24 : decode b_X_wash 24 = .ok (.getfield 118, 3) := by decide +kernel
theorem d_X_wash_27 : decode b_X_wash 27 = .ok (.if_icmp .ge 43, 3) := by decide +kernel
theorem d_X_wash_30 : decode b_X_wash 30 = .ok (.aload_n 0, 1) := by decide +kernel
theorem d_X_wash_31 : decode b_X_wash 31 = .ok (.getfield 26, 3) := by decide +kernel
theorem d_X_wash_34 : decode b_X_wash 34 = .ok (.iload 5, 2) := by decide +kernel
theorem d_X_wash_36 : decode b_X_wash 36 = .ok (.iload 4, 2) := by decide +kernel
theorem d_X_wash_38 : decode b_X_wash 38 = .ok (.aload_n 0, 1) := by decide +kernel
theorem d_X_wash_39 : decode b_X_wash 39 = .ok (.getfield 26, 3) := by decide +kernel
theorem d_X_wash_42 : decode b_X_wash 42 = .ok (.iload 5, 2) := by decide +kernel
theorem d_X_wash_44 : decode b_X_wash 44 = .ok (.iload 4, 2) := by decide +kernel
theorem d_X_wash_46 : decode b_X_wash 46 = .ok (.invokevirtual 135, 3) := by decide +kernel
theorem d_X_wash_49 : decode b_X_wash 49 = .ok (.iload_n 1, 1) := by decide +kernel
theorem d_X_wash_50 : decode b_X_wash 50 = .ok (.iload 5, 2) := by decide +kernel
theorem d_X_wash_52 : decode b_X_wash 52 = .ok (.imul, 1) := by decide +kernel
theorem d_X_wash_53 : decode b_X_wash 53 = .ok (.iadd, 1) := by decide +kernel
theorem d_X_wash_54 : decode b_X_wash 54 = .ok (.iload_n 2, 1) := by decide +kernel
theorem d_X_wash_55 : decode b_X_wash 55 = .ok (.iload 4, 2) := by decide +kernel
theorem d_X_wash_57 : decode b_X_wash 57 = .ok (.imul, 1) := by decide +kernel
theorem d_X_wash_58 : decode b_X_wash 58 = .ok (.iadd, 1) := by decide +kernel
theorem d_X_wash_59 : decode b_X_wash 59 = .ok (.iload_n 3, 1) := by decide +kernel
theorem d_X_wash_60 : decode b_X_wash 60 = .ok (.iadd, 1) := by decide +kernel
theorem d_X_wash_61 : decode b_X_wash 61 = .ok (.invokevirtual 132, 3) := by decide +kernel
theorem d_X_wash_64 : decode b_X_wash 64 = .ok (.iinc 5 1, 3) := by decide +kernel
theorem d_X_wash_67 : decode b_X_wash 67 = .ok (.goto (-49), 3) := by decide +kernel
theorem d_X_wash_70 : decode b_X_wash 70 = .ok (.iinc 4 1, 3) := by decide +kernel
theorem d_X_wash_73 : decode b_X_wash 73 = .ok (.goto (-70), 3) := by decide +kernel
theorem d_X_wash_76 : decode b_X_wash 76 = .ok (.return_, 1) := by decide +kernel
def wp_X_wash_l18 (post : (Nat → Int32) → Prop) (k3 : (Nat → Int32) → Int32 → Int32 → Int32 → Int32 → Prop) (I_p0_picture : Nat → Int32) : Nat → (Nat → Int32) → Int32 → Int32 → Int32 → Int32 → Int32 → Prop
  | 0, _, _, _, _, _, _ => False
  | n + 1, f_p0_picture_samples, x1, x2, x3, x4, x5 =>
    (((I_p0_picture 1) ≤ x5 →
      k3 f_p0_picture_samples x1 x2 x3 (x4 + 1)) ∧
     (¬ (I_p0_picture 1) ≤ x5 →
      wp_Pi_get (fun (r46 : Int32) =>
        wp_Pi_put (fun (f_p0_picture_samples_61 : Nat → Int32) =>
          wp_X_wash_l18 post k3 I_p0_picture n f_p0_picture_samples_61 x1 x2 x3 x4 (x5 + 1)) I_p0_picture f_p0_picture_samples x5 x4 (((r46 + (x1 * x5)) + (x2 * x4)) + x3)) I_p0_picture f_p0_picture_samples x5 x4))
def wp_X_wash_l3 (post : (Nat → Int32) → Prop) (I_p0_picture : Nat → Int32) : Nat → (Nat → Int32) → Int32 → Int32 → Int32 → Int32 → Prop
  | 0, _, _, _, _, _ => False
  | n + 1, f_p0_picture_samples, x1, x2, x3, x4 =>
    (((I_p0_picture 2) ≤ x4 →
      post f_p0_picture_samples) ∧
     (¬ (I_p0_picture 2) ≤ x4 →
      (∃ n1 : Nat, wp_X_wash_l18 post (wp_X_wash_l3 post I_p0_picture n) I_p0_picture n1 f_p0_picture_samples x1 x2 x3 x4 0)))
def wp_X_wash (post : (Nat → Int32) → Prop) (I_p0_picture : Nat → Int32) (f_p0_picture_samples : Nat → Int32) (x1 : Int32) (x2 : Int32) (x3 : Int32) : Prop :=
  (∃ n1 : Nat, wp_X_wash_l3 post I_p0_picture n1 f_p0_picture_samples x1 x2 x3 0)
set_option maxRecDepth 100000 in
set_option maxHeartbeats 4000000 in
theorem c_X_wash (l : Launch) (dC : Nat → ClassId) (dI : Nat → Nat → Nat) (cI : ClassId) (a_p0 : Nat) (A_p0 : Nat → Nat) (A_p0_picture : Nat → Nat) (I_p0_picture : Nat → Int32) (f_p0_picture_samples : Nat → Int32) (x1 : Int32) (x2 : Int32) (x3 : Int32) {post : (Nat → Int32) → Prop} (hw : wp_X_wash post I_p0_picture f_p0_picture_samples x1 x2 x3) : gm_v l y_X_wash ws_X_wash ({ frames := 2, cells := 0, slots := 0, locals := 45 } : Room) (dC, dI) vwCl [(cI, .int)] [.ref a_p0, .int x1, .int x2, .int x3] [oX a_p0 A_p0, oPi (A_p0 2) A_p0_picture I_p0_picture, gz cI (A_p0_picture 0) 256 f_p0_picture_samples] (fun (u : (Nat → Int32)) => [oX a_p0 A_p0, oPi (A_p0 2) A_p0_picture I_p0_picture, gz cI (A_p0_picture 0) 256 u]) (fun (u : (Nat → Int32)) => post  u) := by
  refine gm_vof (cc := b_X_wash) (maxL := 6) (by decide) rfl (Nat.le_of_ble_eq_true rfl) ?_
  intro p e s m args below meth c A Q hx hb hml hown hg hK hN hA hnm hret
  have hown : s.vm.findClass R_X = some m.cls := hown
  have l18 : ∀ (k3 : (Nat → Int32) → Int32 → Int32 → Int32 → Int32 → Prop), (∀ (H : Heap) (locs : List Loc) (ls : Array Slot) (f_p0_picture_samples : Nat → Int32) (x1 : Int32) (x2 : Int32) (x3 : Int32) (x4 : Int32), va_P (dC, dI) vwCl [oX a_p0 A_p0, oPi (A_p0 2) A_p0_picture I_p0_picture, gz cI (A_p0_picture 0) 256 f_p0_picture_samples] H → va_D A [oX a_p0 A_p0, oPi (A_p0 2) A_p0_picture I_p0_picture, gz cI (A_p0_picture 0) 256 f_p0_picture_samples] → va_S A s.heap H locs → lv_has ls 6 [(0, .ref a_p0), (1, .int x1), (2, .int x2), (3, .int x3), (4, .int x4)] → k3 f_p0_picture_samples x1 x2 x3 x4 → W p l e ({ frames := 2, cells := 0, slots := 0, locals := 45 } : Room) s m args below meth c H locs 0 0 Q (F0 m 3 ls [])) → ∀ n : Nat, ∀ (H : Heap) (locs : List Loc) (ls : Array Slot) (f_p0_picture_samples : Nat → Int32) (x1 : Int32) (x2 : Int32) (x3 : Int32) (x4 : Int32) (x5 : Int32), va_P (dC, dI) vwCl [oX a_p0 A_p0, oPi (A_p0 2) A_p0_picture I_p0_picture, gz cI (A_p0_picture 0) 256 f_p0_picture_samples] H → va_D A [oX a_p0 A_p0, oPi (A_p0 2) A_p0_picture I_p0_picture, gz cI (A_p0_picture 0) 256 f_p0_picture_samples] → va_S A s.heap H locs → lv_has ls 6 [(0, .ref a_p0), (1, .int x1), (2, .int x2), (3, .int x3), (4, .int x4), (5, .int x5)] → wp_X_wash_l18 post k3 I_p0_picture n f_p0_picture_samples x1 x2 x3 x4 x5 → W p l e ({ frames := 2, cells := 0, slots := 0, locals := 45 } : Room) s m args below meth c H locs 0 0 Q (F0 m 18 ls []) := by
    intro k3 hk3 n
    induction n with
    | zero => intro H locs ls f_p0_picture_samples x1 x2 x3 x4 x5 hP hD hS hl hw; exact hw.elim
    | succ n ih =>
      intro H locs ls f_p0_picture_samples x1 x2 x3 x4 x5 hP hD hS hl hw
      unfold wp_X_wash_l18 at hw
      refine lv_iload hx hb d_X_wash_18 (lv_at hl 5 rfl) ?_
      refine lv_aload_n hx hb d_X_wash_20 rfl (lv_at hl 0 rfl) ?_
      refine va_get (D := (dC, dI)) (ci := 9) (v := .ref (A_p0 2)) (C := R_X) (T := T_X) (N := 14) hx hb hg in_X hown hK hP 0 rfl rfl 2 (by decide) (hg _ t_309) (fun _ h9 => h9) rfl d_X_wash_21 ?_
      refine va_get (D := (dC, dI)) (ci := 6) (v := .int (I_p0_picture 1)) (C := R_Pi) (T := T_Pi) (N := 4) hx hb hg in_Pi hown hK hP 1 rfl rfl 1 (by decide) (hg _ t_137) (fun _ h9 => h9) rfl d_X_wash_24 ?_
      refine lv_icmp_ge hx hb d_X_wash_27 rfl (fun hc => ?_) (fun hc => ?_)
      · have hw := hw.1 hc
        refine lv_iinc (k := 4) (v := (x4 + 1)) (lv' := [(4, .int (x4 + 1)), (0, .ref a_p0), (1, .int x1), (2, .int x2), (3, .int x3), (5, .int x5)]) hx hb d_X_wash_70 hl rfl (congrArg (fun z => x4 + z) (by decide : Int32.ofInt 1 = 1)) (by decide) rfl (fun ls hl => ?_)
        refine lv_goto hx hb d_X_wash_73 rfl ?_
        exact hk3 _ _ _ f_p0_picture_samples x1 x2 x3 (x4 + 1) hP hD hS (lv_sub hl [1, 2, 3, 4, 0] rfl) hw
      · have hw := hw.2 hc
        refine lv_aload_n hx hb d_X_wash_30 rfl (lv_at hl 0 rfl) ?_
        refine va_get (D := (dC, dI)) (ci := 9) (v := .ref (A_p0 2)) (C := R_X) (T := T_X) (N := 14) hx hb hg in_X hown hK hP 0 rfl rfl 2 (by decide) (hg _ t_309) (fun _ h9 => h9) rfl d_X_wash_31 ?_
        refine lv_iload hx hb d_X_wash_34 (lv_at hl 5 rfl) ?_
        refine lv_iload hx hb d_X_wash_36 (lv_at hl 4 rfl) ?_
        refine lv_aload_n hx hb d_X_wash_38 rfl (lv_at hl 0 rfl) ?_
        refine va_get (D := (dC, dI)) (ci := 9) (v := .ref (A_p0 2)) (C := R_X) (T := T_X) (N := 14) hx hb hg in_X hown hK hP 0 rfl rfl 2 (by decide) (hg _ t_309) (fun _ h9 => h9) rfl d_X_wash_39 ?_
        refine lv_iload hx hb d_X_wash_42 (lv_at hl 5 rfl) ?_
        refine lv_iload hx hb d_X_wash_44 (lv_at hl 4 rfl) ?_
        refine gc_i (wn := fun (_ : Unit) => [oX a_p0 A_p0, oPi (A_p0 2) A_p0_picture I_p0_picture, gz cI (A_p0_picture 0) 256 f_p0_picture_samples]) (wr := [oX a_p0 A_p0]) (gr_V (As := [.int x5, .int x4]) (rest := [.int x4, .int x5, .ref (A_p0 2)]) ⟨hx, hb, hml, hown, hg⟩ (c_Pi_get l dC dI cI (A_p0 2) A_p0_picture I_p0_picture f_p0_picture_samples x5 x4 hw _) (cwV 2 hg (gg_V t_411 t_412 t_413 t_63 t_414) rfl rfl rfl (by decide +kernel) ⟨Nat.le_of_ble_eq_true rfl, Nat.le_of_ble_eq_true rfl⟩) hK hN hP hD [1, 2] (by decide) rfl 1 6 rfl rfl rfl rfl hl.1 rfl (Nat.le_of_ble_eq_true rfl) d_X_wash_46 ⟨Nat.le_of_ble_eq_true rfl, Nat.le_of_ble_eq_true rfl⟩) rfl rfl hP hD hS hA [1, 2] [0] [0, 1, 2] rfl rfl (by decide) (by decide) (by decide) (fun _ => rfl) ?_
        intro r46 _ H locs hw hP hD hS
        try dsimp only at hw
        have hP : va_P (dC, dI) vwCl [oX a_p0 A_p0, oPi (A_p0 2) A_p0_picture I_p0_picture, gz cI (A_p0_picture 0) 256 f_p0_picture_samples] H := hP
        have hD : va_D A [oX a_p0 A_p0, oPi (A_p0 2) A_p0_picture I_p0_picture, gz cI (A_p0_picture 0) 256 f_p0_picture_samples] := hD
        refine lv_iload_n hx hb d_X_wash_49 rfl (lv_at hl 1 rfl) ?_
        refine lv_iload hx hb d_X_wash_50 (lv_at hl 5 rfl) ?_
        refine lv_imul hx hb d_X_wash_52 ?_
        refine lv_iadd hx hb d_X_wash_53 ?_
        refine lv_iload_n hx hb d_X_wash_54 rfl (lv_at hl 2 rfl) ?_
        refine lv_iload hx hb d_X_wash_55 (lv_at hl 4 rfl) ?_
        refine lv_imul hx hb d_X_wash_57 ?_
        refine lv_iadd hx hb d_X_wash_58 ?_
        refine lv_iload_n hx hb d_X_wash_59 rfl (lv_at hl 3 rfl) ?_
        refine lv_iadd hx hb d_X_wash_60 ?_
        refine gc_v (wn := fun u => [oX a_p0 A_p0, oPi (A_p0 2) A_p0_picture I_p0_picture, gz cI (A_p0_picture 0) 256 u]) (wr := [oX a_p0 A_p0]) (gr_V (As := [.int x5, .int x4, .int (((r46 + (x1 * x5)) + (x2 * x4)) + x3)]) (rest := []) ⟨hx, hb, hml, hown, hg⟩ (c_Pi_put l dC dI cI (A_p0 2) A_p0_picture I_p0_picture f_p0_picture_samples x5 x4 (((r46 + (x1 * x5)) + (x2 * x4)) + x3) hw _) (cwV 3 hg (gg_V t_401 t_402 t_403 t_63 t_404) rfl rfl rfl (by decide +kernel) ⟨Nat.le_of_ble_eq_true rfl, Nat.le_of_ble_eq_true rfl⟩) hK hN hP hD [1, 2] (by decide) rfl 1 6 rfl rfl rfl rfl hl.1 rfl (Nat.le_of_ble_eq_true rfl) d_X_wash_61 ⟨Nat.le_of_ble_eq_true rfl, Nat.le_of_ble_eq_true rfl⟩) rfl rfl hP hD hS hA [1, 2] [0] [0, 1, 2] rfl rfl (by decide) (by decide) (by decide) (fun _ => rfl) ?_
        intro f_p0_picture_samples_61 H locs hw hP hD hS
        try dsimp only at hw
        have hP : va_P (dC, dI) vwCl [oX a_p0 A_p0, oPi (A_p0 2) A_p0_picture I_p0_picture, gz cI (A_p0_picture 0) 256 f_p0_picture_samples_61] H := hP
        have hD : va_D A [oX a_p0 A_p0, oPi (A_p0 2) A_p0_picture I_p0_picture, gz cI (A_p0_picture 0) 256 f_p0_picture_samples_61] := hD
        refine lv_iinc (k := 5) (v := (x5 + 1)) (lv' := [(5, .int (x5 + 1)), (0, .ref a_p0), (1, .int x1), (2, .int x2), (3, .int x3), (4, .int x4)]) hx hb d_X_wash_64 hl rfl (congrArg (fun z => x5 + z) (by decide : Int32.ofInt 1 = 1)) (by decide) rfl (fun ls hl => ?_)
        refine lv_goto hx hb d_X_wash_67 rfl ?_
        exact ih _ _ _ f_p0_picture_samples_61 x1 x2 x3 x4 (x5 + 1) hP hD hS (lv_sub hl [1, 2, 3, 4, 5, 0] rfl) hw
  have l3 : ∀ n : Nat, ∀ (H : Heap) (locs : List Loc) (ls : Array Slot) (f_p0_picture_samples : Nat → Int32) (x1 : Int32) (x2 : Int32) (x3 : Int32) (x4 : Int32), va_P (dC, dI) vwCl [oX a_p0 A_p0, oPi (A_p0 2) A_p0_picture I_p0_picture, gz cI (A_p0_picture 0) 256 f_p0_picture_samples] H → va_D A [oX a_p0 A_p0, oPi (A_p0 2) A_p0_picture I_p0_picture, gz cI (A_p0_picture 0) 256 f_p0_picture_samples] → va_S A s.heap H locs → lv_has ls 6 [(0, .ref a_p0), (1, .int x1), (2, .int x2), (3, .int x3), (4, .int x4)] → wp_X_wash_l3 post I_p0_picture n f_p0_picture_samples x1 x2 x3 x4 → W p l e ({ frames := 2, cells := 0, slots := 0, locals := 45 } : Room) s m args below meth c H locs 0 0 Q (F0 m 3 ls []) := by
    intro n
    induction n with
    | zero => intro H locs ls f_p0_picture_samples x1 x2 x3 x4 hP hD hS hl hw; exact hw.elim
    | succ n ih =>
      intro H locs ls f_p0_picture_samples x1 x2 x3 x4 hP hD hS hl hw
      unfold wp_X_wash_l3 at hw
      refine lv_iload hx hb d_X_wash_3 (lv_at hl 4 rfl) ?_
      refine lv_aload_n hx hb d_X_wash_5 rfl (lv_at hl 0 rfl) ?_
      refine va_get (D := (dC, dI)) (ci := 9) (v := .ref (A_p0 2)) (C := R_X) (T := T_X) (N := 14) hx hb hg in_X hown hK hP 0 rfl rfl 2 (by decide) (hg _ t_309) (fun _ h9 => h9) rfl d_X_wash_6 ?_
      refine va_get (D := (dC, dI)) (ci := 6) (v := .int (I_p0_picture 2)) (C := R_Pi) (T := T_Pi) (N := 4) hx hb hg in_Pi hown hK hP 1 rfl rfl 2 (by decide) (hg _ t_139) (fun _ h9 => h9) rfl d_X_wash_9 ?_
      refine lv_icmp_ge hx hb d_X_wash_12 rfl (fun hc => ?_) (fun hc => ?_)
      · have hw := hw.1 hc
        exact hret _ _ _ _ f_p0_picture_samples d_X_wash_76 hP hD hS hw
      · have hw := hw.2 hc
        refine lv_iconst (v := 0) hx hb d_X_wash_15 (by decide) ?_
        refine lv_istore (lv' := [(5, .int 0), (0, .ref a_p0), (1, .int x1), (2, .int x2), (3, .int x3), (4, .int x4)]) hx hb d_X_wash_16 hl (by decide) rfl (fun ls hl => ?_)
        obtain ⟨n1, hw⟩ := hw
        exact l18 _ ih n1 _ _ _ f_p0_picture_samples x1 x2 x3 x4 0 hP hD hS (lv_sub hl [1, 2, 3, 4, 5, 0] rfl) hw
  intro ls hl hP hD hS
  have hl : lv_has ls 6 [(0, .ref a_p0), (1, .int x1), (2, .int x2), (3, .int x3)] := hl
  unfold wp_X_wash at hw
  refine lv_iconst (v := 0) hx hb d_X_wash_0 (by decide) ?_
  refine lv_istore (lv' := [(4, .int 0), (0, .ref a_p0), (1, .int x1), (2, .int x2), (3, .int x3)]) hx hb d_X_wash_1 hl (by decide) rfl (fun ls hl => ?_)
  obtain ⟨n1, hw⟩ := hw
  exact l3 n1 _ _ _ f_p0_picture_samples x1 x2 x3 0 hP hD hS (lv_sub hl [1, 2, 3, 4, 0] rfl) hw
theorem d_St_startAppending_0 : decode b_St_startAppending 0 = .ok (.aload_n 0, 1) := by decide +kernel
theorem d_St_startAppending_1 : decode b_St_startAppending 1 = .ok (.aload_n 0, 1) := by decide +kernel
theorem d_St_startAppending_2 : decode b_St_startAppending 2 = .ok (.getfield 29, 3) := by decide +kernel
theorem d_St_startAppending_5 : decode b_St_startAppending 5 = .ok (.putfield 15, 3) := by decide +kernel
theorem d_St_startAppending_8 : decode b_St_startAppending 8 = .ok (.return_, 1) := by decide +kernel
def wp_St_startAppending (post : (Nat → Int32) → Prop) (I_p0 : Nat → Int32) : Prop :=
  post (upd I_p0 2 (I_p0 1))
set_option maxRecDepth 100000 in
set_option maxHeartbeats 4000000 in
theorem c_St_startAppending (l : Launch) (dC : Nat → ClassId) (dI : Nat → Nat → Nat) (cI : ClassId) (a_p0 : Nat) (A_p0 : Nat → Nat) (I_p0 : Nat → Int32) {post : (Nat → Int32) → Prop} (hw : wp_St_startAppending post I_p0) : gm_v l y_St_startAppending ws_St_startAppending ({ frames := 0, cells := 0, slots := 0, locals := 0 } : Room) (dC, dI) vwCl [(cI, .int)] [.ref a_p0] [oSt a_p0 A_p0 I_p0] (fun (u : (Nat → Int32)) => [oSt a_p0 A_p0 u]) (fun (u : (Nat → Int32)) => post  u) := by
  refine gm_vof (cc := b_St_startAppending) (maxL := 1) (by decide) rfl (Nat.le_of_ble_eq_true rfl) ?_
  intro p e s m args below meth c A Q hx hb hml hown hg hK hN hA hnm hret
  have hown : s.vm.findClass R_St = some m.cls := hown
  intro ls hl hP hD hS
  have hl : lv_has ls 1 [(0, .ref a_p0)] := hl
  unfold wp_St_startAppending at hw
  refine lv_aload_n hx hb d_St_startAppending_0 rfl (lv_at hl 0 rfl) ?_
  refine lv_aload_n hx hb d_St_startAppending_1 rfl (lv_at hl 0 rfl) ?_
  refine va_get (D := (dC, dI)) (ci := 7) (v := .int (I_p0 1)) (C := R_St) (T := T_St) (N := 3) hx hb hg in_St hown hK hP 0 rfl rfl 1 (by decide) (hg _ t_94) (fun _ h9 => h9) rfl d_St_startAppending_2 ?_
  refine va_put (D := (dC, dI)) (ci := 7) (v := .int (I_p0 1)) (ty := .int) (C := R_St) (T := T_St) (N := 3) hx hb hg in_St t_St tok_St nok_St hown hK hP hD hS 0 rfl rfl 2 (by decide) (hg _ t_96) (fun _ h9 => h9) rfl (by decide +kernel) rfl rfl (Nat.le_of_ble_eq_true rfl) d_St_startAppending_5 (fun H locs hP hD hS => ?_)
  have hP : va_P (dC, dI) vwCl [oSt a_p0 A_p0 (upd I_p0 2 (I_p0 1))] H := hP
  have hD : va_D A [oSt a_p0 A_p0 (upd I_p0 2 (I_p0 1))] := hD
  exact hret _ _ _ _ (upd I_p0 2 (I_p0 1)) d_St_startAppending_8 hP hD hS hw
theorem d_St_putLong_0 : decode b_St_putLong 0 = .ok (.aload_n 0, 1) := by decide +kernel
theorem d_St_putLong_1 : decode b_St_putLong 1 = .ok (.iload_n 1, 1) := by decide +kernel
theorem d_St_putLong_2 : decode b_St_putLong 2 = .ok (.i2l, 1) := by decide +kernel
theorem d_St_putLong_3 : decode b_St_putLong 3 = .ok (.ldc2_w 38, 3) := by decide +kernel
theorem d_St_putLong_6 : decode b_St_putLong 6 = .ok (.invokevirtual 40, 3) := by decide +kernel
theorem d_St_putLong_9 : decode b_St_putLong 9 = .ok (.ifCond .ne 4, 3) := by decide +kernel
theorem d_St_putLong_12 : decode b_St_putLong 12 = .ok (.return_, 1) := by decide +kernel
theorem d_St_putLong_13 : decode b_St_putLong 13 = .ok (.iconst 0, 1) := by decide +kernel
theorem d_St_putLong_14 : decode b_St_putLong 14 = .ok (.istore_n 3, 1) := by decide +kernel
theorem d_St_putLong_15 : decode b_St_putLong 15 = .ok (.iload_n 3, 1) := by decide +kernel
theorem d_St_putLong_16 : decode b_St_putLong 16 = .ok (.iconst 4, 1) := by decide +kernel
theorem d_St_putLong_17 : decode b_St_putLong 17 = .ok (.if_icmp .ge 23, 3) := by decide +kernel
theorem d_St_putLong_20 : decode b_St_putLong 20 = .ok (.aload_n 0, 1) := by decide +kernel
theorem d_St_putLong_21 : decode b_St_putLong 21 = .ok (.getfield 9, 3) := by decide +kernel
theorem d_St_putLong_24 : decode b_St_putLong 24 = .ok (.iload_n 1, 1) := by decide +kernel
theorem d_St_putLong_25 : decode b_St_putLong 25 = .ok (.iload_n 3, 1) := by decide +kernel
theorem d_St_putLong_26 : decode b_St_putLong 26 = .ok (.iadd, 1) := by decide +kernel
theorem d_St_putLong_27 : decode b_St_putLong 27 = .ok (.aload_n 0, 1) := by decide +kernel
theorem d_St_putLong_28 : decode b_St_putLong 28 = .ok (.iload_n 2, 1) := by decide +kernel
theorem d_St_putLong_29 : decode b_St_putLong 29 = .ok (.iload_n 3, 1) := by decide +kernel
theorem d_St_putLong_30 : decode b_St_putLong 30 = .ok (.invokevirtual 44, 3) := by decide +kernel
theorem d_St_putLong_33 : decode b_St_putLong 33 = .ok (.iastore, 1) := by decide +kernel
theorem d_St_putLong_34 : decode b_St_putLong 34 = .ok (.iinc 3 1, 3) := by decide +kernel
theorem d_St_putLong_37 : decode b_St_putLong 37 = .ok (.goto (-22), 3) := by decide +kernel
theorem d_St_putLong_40 : decode b_St_putLong 40 = .ok (.return_, 1) := by decide +kernel
def wp_St_putLong_l15 (post : (Nat → Int32) → Prop) (I_p0 : Nat → Int32) : Nat → (Nat → Int32) → Int32 → Int32 → Int32 → Prop
  | 0, _, _, _, _ => False
  | n + 1, f_p0_bytes, x1, x2, x3 =>
    ((4 ≤ x3 →
      post f_p0_bytes) ∧
     (¬ 4 ≤ x3 →
      wp_St_byteOfLong (fun (r30 : Int32) =>
        vp_in (x1 + x3) 900 ∧
        wp_St_putLong_l15 post I_p0 n (upd f_p0_bytes (x1 + x3).toNatClampNeg r30) x1 x2 (x3 + 1)) I_p0 f_p0_bytes x2 x3))
def wp_St_putLong (post : (Nat → Int32) → Prop) (I_p0 : Nat → Int32) (f_p0_bytes : Nat → Int32) (x1 : Int32) (x2 : Int32) : Prop :=
  wp_St_holds (fun (r6 : Int32) =>
    ((r6 = 0 →
      post f_p0_bytes) ∧
     (¬ r6 = 0 →
      (∃ n1 : Nat, wp_St_putLong_l15 post I_p0 n1 f_p0_bytes x1 x2 0)))) I_p0 x1.toInt64 4
set_option maxRecDepth 100000 in
set_option maxHeartbeats 4000000 in
theorem c_St_putLong (l : Launch) (dC : Nat → ClassId) (dI : Nat → Nat → Nat) (cI : ClassId) (a_p0 : Nat) (A_p0 : Nat → Nat) (I_p0 : Nat → Int32) (f_p0_bytes : Nat → Int32) (x1 : Int32) (x2 : Int32) {post : (Nat → Int32) → Prop} (hw : wp_St_putLong post I_p0 f_p0_bytes x1 x2) : gm_v l y_St_putLong ws_St_putLong ({ frames := 1, cells := 0, slots := 0, locals := 24 } : Room) (dC, dI) vwCl [(cI, .int)] [.ref a_p0, .int x1, .int x2] [oSt a_p0 A_p0 I_p0, gz cI (A_p0 0) 900 f_p0_bytes] (fun (u : (Nat → Int32)) => [oSt a_p0 A_p0 I_p0, gz cI (A_p0 0) 900 u]) (fun (u : (Nat → Int32)) => post  u) := by
  refine gm_vof (cc := b_St_putLong) (maxL := 4) (by decide) rfl (Nat.le_of_ble_eq_true rfl) ?_
  intro p e s m args below meth c A Q hx hb hml hown hg hK hN hA hnm hret
  have hown : s.vm.findClass R_St = some m.cls := hown
  have l15 : ∀ n : Nat, ∀ (H : Heap) (locs : List Loc) (ls : Array Slot) (f_p0_bytes : Nat → Int32) (x1 : Int32) (x2 : Int32) (x3 : Int32), va_P (dC, dI) vwCl [oSt a_p0 A_p0 I_p0, gz cI (A_p0 0) 900 f_p0_bytes] H → va_D A [oSt a_p0 A_p0 I_p0, gz cI (A_p0 0) 900 f_p0_bytes] → va_S A s.heap H locs → lv_has ls 4 [(0, .ref a_p0), (1, .int x1), (2, .int x2), (3, .int x3)] → wp_St_putLong_l15 post I_p0 n f_p0_bytes x1 x2 x3 → W p l e ({ frames := 1, cells := 0, slots := 0, locals := 24 } : Room) s m args below meth c H locs 0 0 Q (F0 m 15 ls []) := by
    intro n
    induction n with
    | zero => intro H locs ls f_p0_bytes x1 x2 x3 hP hD hS hl hw; exact hw.elim
    | succ n ih =>
      intro H locs ls f_p0_bytes x1 x2 x3 hP hD hS hl hw
      unfold wp_St_putLong_l15 at hw
      refine lv_iload_n hx hb d_St_putLong_15 rfl (lv_at hl 3 rfl) ?_
      refine lv_iconst (v := 4) hx hb d_St_putLong_16 (by decide) ?_
      refine lv_icmp_ge hx hb d_St_putLong_17 rfl (fun hc => ?_) (fun hc => ?_)
      · have hw := hw.1 hc
        exact hret _ _ _ _ f_p0_bytes d_St_putLong_40 hP hD hS hw
      · have hw := hw.2 hc
        refine lv_aload_n hx hb d_St_putLong_20 rfl (lv_at hl 0 rfl) ?_
        refine va_get (D := (dC, dI)) (ci := 7) (v := .ref (A_p0 0)) (C := R_St) (T := T_St) (N := 3) hx hb hg in_St hown hK hP 0 rfl rfl 0 (by decide) (hg _ t_88) (fun _ h9 => h9) rfl d_St_putLong_21 ?_
        refine lv_iload_n hx hb d_St_putLong_24 rfl (lv_at hl 1 rfl) ?_
        refine lv_iload_n hx hb d_St_putLong_25 rfl (lv_at hl 3 rfl) ?_
        refine lv_iadd hx hb d_St_putLong_26 ?_
        refine lv_aload_n hx hb d_St_putLong_27 rfl (lv_at hl 0 rfl) ?_
        refine lv_iload_n hx hb d_St_putLong_28 rfl (lv_at hl 2 rfl) ?_
        refine lv_iload_n hx hb d_St_putLong_29 rfl (lv_at hl 3 rfl) ?_
        refine gc_i (wn := fun (_ : Unit) => [oSt a_p0 A_p0 I_p0, gz cI (A_p0 0) 900 f_p0_bytes]) (wr := []) (gr_V (As := [.int x2, .int x3]) (rest := [.int (x1 + x3), .ref (A_p0 0)]) ⟨hx, hb, hml, hown, hg⟩ (c_St_byteOfLong l dC dI cI a_p0 A_p0 I_p0 f_p0_bytes x2 x3 hw _) (cwV 2 hg (gg_V t_296 t_298 t_0 t_61 t_299) rfl rfl rfl (by decide +kernel) ⟨Nat.le_of_ble_eq_true rfl, Nat.le_of_ble_eq_true rfl⟩) hK hN hP hD [0, 1] (by decide) rfl 0 7 rfl rfl rfl rfl hl.1 rfl (Nat.le_of_ble_eq_true rfl) d_St_putLong_30 ⟨Nat.le_of_ble_eq_true rfl, Nat.le_of_ble_eq_true rfl⟩) rfl rfl hP hD hS hA [0, 1] [] [0, 1] rfl rfl (by decide) (by decide) (by decide) (fun _ => rfl) ?_
        intro r30 _ H locs hw hP hD hS
        try dsimp only at hw
        have hP : va_P (dC, dI) vwCl [oSt a_p0 A_p0 I_p0, gz cI (A_p0 0) 900 f_p0_bytes] H := hP
        have hD : va_D A [oSt a_p0 A_p0 I_p0, gz cI (A_p0 0) 900 f_p0_bytes] := hD
        obtain ⟨hin, hw⟩ := hw
        refine va_iast hx hb hK hP hD hS 1 0 rfl rfl hin d_St_putLong_33 (fun H locs hP hD hS => ?_)
        have hP : va_P (dC, dI) vwCl [oSt a_p0 A_p0 I_p0, gz cI (A_p0 0) 900 (upd f_p0_bytes (x1 + x3).toNatClampNeg r30)] H := hP
        have hD : va_D A [oSt a_p0 A_p0 I_p0, gz cI (A_p0 0) 900 (upd f_p0_bytes (x1 + x3).toNatClampNeg r30)] := hD
        refine lv_iinc (k := 3) (v := (x3 + 1)) (lv' := [(3, .int (x3 + 1)), (0, .ref a_p0), (1, .int x1), (2, .int x2)]) hx hb d_St_putLong_34 hl rfl (congrArg (fun z => x3 + z) (by decide : Int32.ofInt 1 = 1)) (by decide) rfl (fun ls hl => ?_)
        refine lv_goto hx hb d_St_putLong_37 rfl ?_
        exact ih _ _ _ (upd f_p0_bytes (x1 + x3).toNatClampNeg r30) x1 x2 (x3 + 1) hP hD hS (lv_sub hl [1, 2, 3, 0] rfl) hw
  intro ls hl hP hD hS
  have hl : lv_has ls 4 [(0, .ref a_p0), (1, .int x1), (2, .int x2)] := hl
  unfold wp_St_putLong at hw
  refine lv_aload_n hx hb d_St_putLong_0 rfl (lv_at hl 0 rfl) ?_
  refine lv_iload_n hx hb d_St_putLong_1 rfl (lv_at hl 1 rfl) ?_
  refine lv_i2l hx hb d_St_putLong_2 rfl ?_
  refine lv_ldc2 (v := 4) hx hb hown (hg _ t_627) d_St_putLong_3 ?_
  refine gc_i (wn := fun (_ : Unit) => [oSt a_p0 A_p0 I_p0, gz cI (A_p0 0) 900 f_p0_bytes]) (wr := [gz cI (A_p0 0) 900 f_p0_bytes]) (gr_V (As := [.long x1.toInt64, .long 4]) (rest := []) ⟨hx, hb, hml, hown, hg⟩ (c_St_holds l dC dI cI a_p0 A_p0 I_p0 x1.toInt64 4 hw _) (cwV 2 hg (gg_V t_628 t_363 t_364 t_61 t_365) rfl rfl rfl (by decide +kernel) ⟨Nat.le_of_ble_eq_true rfl, Nat.le_of_ble_eq_true rfl⟩) hK hN hP hD [0] (by decide) rfl 0 7 rfl rfl rfl rfl hl.1 rfl (Nat.le_of_ble_eq_true rfl) d_St_putLong_6 ⟨Nat.le_of_ble_eq_true rfl, Nat.le_of_ble_eq_true rfl⟩) rfl rfl hP hD hS hA [0] [1] [1, 0] rfl rfl (by decide) (by decide) (by decide) (fun _ => rfl) ?_
  intro r6 _ H locs hw hP hD hS
  try dsimp only at hw
  have hP : va_P (dC, dI) vwCl [oSt a_p0 A_p0 I_p0, gz cI (A_p0 0) 900 f_p0_bytes] H := hP
  have hD : va_D A [oSt a_p0 A_p0 I_p0, gz cI (A_p0 0) 900 f_p0_bytes] := hD
  refine lv_if_ne hx hb d_St_putLong_9 rfl (fun hc => ?_) (fun hc => ?_)
  · have hw := hw.2 hc
    refine lv_iconst (v := 0) hx hb d_St_putLong_13 (by decide) ?_
    refine lv_istore_n (lv' := [(3, .int 0), (0, .ref a_p0), (1, .int x1), (2, .int x2)]) hx hb d_St_putLong_14 rfl hl (by decide) rfl (fun ls hl => ?_)
    obtain ⟨n1, hw⟩ := hw
    exact l15 n1 _ _ _ f_p0_bytes x1 x2 0 hP hD hS (lv_sub hl [1, 2, 3, 0] rfl) hw
  · have hw := hw.1 hc
    exact hret _ _ _ _ f_p0_bytes d_St_putLong_12 hP hD hS hw
theorem d_St_keepAppended_0 : decode b_St_keepAppended 0 = .ok (.aload_n 0, 1) := by decide +kernel
theorem d_St_keepAppended_1 : decode b_St_keepAppended 1 = .ok (.getfield 15, 3) := by decide +kernel
theorem d_St_keepAppended_4 : decode b_St_keepAppended 4 = .ok (.aload_n 0, 1) := by decide +kernel
theorem d_St_keepAppended_5 : decode b_St_keepAppended 5 = .ok (.getfield 29, 3) := by decide +kernel
theorem d_St_keepAppended_8 : decode b_St_keepAppended 8 = .ok (.isub, 1) := by decide +kernel
theorem d_St_keepAppended_9 : decode b_St_keepAppended 9 = .ok (.istore_n 1, 1) := by decide +kernel
theorem d_St_keepAppended_10 : decode b_St_keepAppended 10 = .ok (.aload_n 0, 1) := by decide +kernel
theorem d_St_keepAppended_11 : decode b_St_keepAppended 11 = .ok (.aload_n 0, 1) := by decide +kernel
theorem d_St_keepAppended_12 : decode b_St_keepAppended 12 = .ok (.getfield 15, 3) := by decide +kernel
theorem d_St_keepAppended_15 : decode b_St_keepAppended 15 = .ok (.putfield 29, 3) := by decide +kernel
theorem d_St_keepAppended_18 : decode b_St_keepAppended 18 = .ok (.iload_n 1, 1) := by decide +kernel
theorem d_St_keepAppended_19 : decode b_St_keepAppended 19 = .ok (.ireturn, 1) := by decide +kernel
def wp_St_keepAppended (post : Int32 → (Nat → Int32) → Prop) (I_p0 : Nat → Int32) : Prop :=
  post ((I_p0 2) - (I_p0 1)) (upd I_p0 1 (I_p0 2))
set_option maxRecDepth 100000 in
set_option maxHeartbeats 4000000 in
theorem c_St_keepAppended (l : Launch) (dC : Nat → ClassId) (dI : Nat → Nat → Nat) (cI : ClassId) (a_p0 : Nat) (A_p0 : Nat → Nat) (I_p0 : Nat → Int32) {post : Int32 → (Nat → Int32) → Prop} (hw : wp_St_keepAppended post I_p0) : gm_i l y_St_keepAppended ws_St_keepAppended ({ frames := 0, cells := 0, slots := 0, locals := 0 } : Room) (dC, dI) vwCl [(cI, .int)] [.ref a_p0] [oSt a_p0 A_p0 I_p0] (fun (u : (Nat → Int32)) => [oSt a_p0 A_p0 u]) (fun (r : Int32) (u : (Nat → Int32)) => post r u) := by
  refine gm_iof (cc := b_St_keepAppended) (maxL := 2) (ty := .int) (by decide) rfl (Nat.le_of_ble_eq_true rfl) ?_
  intro p e s m args below meth c A Q hx hb hml hown hg hK hN hA hret
  have hown : s.vm.findClass R_St = some m.cls := hown
  intro ls hl hP hD hS
  have hl : lv_has ls 2 [(0, .ref a_p0)] := hl
  unfold wp_St_keepAppended at hw
  refine lv_aload_n hx hb d_St_keepAppended_0 rfl (lv_at hl 0 rfl) ?_
  refine va_get (D := (dC, dI)) (ci := 7) (v := .int (I_p0 2)) (C := R_St) (T := T_St) (N := 3) hx hb hg in_St hown hK hP 0 rfl rfl 2 (by decide) (hg _ t_96) (fun _ h9 => h9) rfl d_St_keepAppended_1 ?_
  refine lv_aload_n hx hb d_St_keepAppended_4 rfl (lv_at hl 0 rfl) ?_
  refine va_get (D := (dC, dI)) (ci := 7) (v := .int (I_p0 1)) (C := R_St) (T := T_St) (N := 3) hx hb hg in_St hown hK hP 0 rfl rfl 1 (by decide) (hg _ t_94) (fun _ h9 => h9) rfl d_St_keepAppended_5 ?_
  refine lv_isub hx hb d_St_keepAppended_8 ?_
  refine lv_istore_n (lv' := [(1, .int ((I_p0 2) - (I_p0 1))), (0, .ref a_p0)]) hx hb d_St_keepAppended_9 rfl hl (by decide) rfl (fun ls hl => ?_)
  refine lv_aload_n hx hb d_St_keepAppended_10 rfl (lv_at hl 1 rfl) ?_
  refine lv_aload_n hx hb d_St_keepAppended_11 rfl (lv_at hl 1 rfl) ?_
  refine va_get (D := (dC, dI)) (ci := 7) (v := .int (I_p0 2)) (C := R_St) (T := T_St) (N := 3) hx hb hg in_St hown hK hP 0 rfl rfl 2 (by decide) (hg _ t_96) (fun _ h9 => h9) rfl d_St_keepAppended_12 ?_
  refine va_put (D := (dC, dI)) (ci := 7) (v := .int (I_p0 2)) (ty := .int) (C := R_St) (T := T_St) (N := 3) hx hb hg in_St t_St tok_St nok_St hown hK hP hD hS 0 rfl rfl 1 (by decide) (hg _ t_94) (fun _ h9 => h9) rfl (by decide +kernel) rfl rfl (Nat.le_of_ble_eq_true rfl) d_St_keepAppended_15 (fun H locs hP hD hS => ?_)
  have hP : va_P (dC, dI) vwCl [oSt a_p0 A_p0 (upd I_p0 1 (I_p0 2))] H := hP
  have hD : va_D A [oSt a_p0 A_p0 (upd I_p0 1 (I_p0 2))] := hD
  refine lv_iload_n hx hb d_St_keepAppended_18 rfl (lv_at hl 0 rfl) ?_
  exact hret _ _ _ _ _ (upd I_p0 1 (I_p0 2)) d_St_keepAppended_19 rfl hP hD hS hw
