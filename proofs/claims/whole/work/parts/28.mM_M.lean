theorem d_M_values_0 : decode b_M_values 0 = .ok (.aload_n 0, 1) := by decide +kernel
theorem d_M_values_1 : decode b_M_values 1 = .ok (.iload_n 1, 1) := by decide +kernel
theorem d_M_values_2 : decode b_M_values 2 = .ok (.invokevirtual 105, 3) := by decide +kernel
theorem d_M_values_5 : decode b_M_values 5 = .ok (.i2l, 1) := by decide +kernel
theorem d_M_values_6 : decode b_M_values 6 = .ok (.aload_n 0, 1) := by decide +kernel
theorem d_M_values_7 : decode b_M_values 7 = .ok (.iload_n 1, 1) := by decide +kernel
theorem d_M_values_8 : decode b_M_values 8 = .ok (.iconst 4, 1) := by decide +kernel
theorem d_M_values_9 : decode b_M_values 9 = .ok (.iadd, 1) := by decide +kernel
theorem d_M_values_10 : decode b_M_values 10 = .ok (.iconst 4, 1) := by decide +kernel
theorem d_M_values_11 : decode b_M_values 11 = .ok (.invokevirtual 78, 3) := by decide +kernel
theorem d_M_values_14 : decode b_M_values 14 = .ok (.lmul, 1) := by decide +kernel
theorem d_M_values_15 : decode b_M_values 15 = .ok (.lstore_n 2, 1) := by decide +kernel
theorem d_M_values_16 : decode b_M_values 16 = .ok (.lload_n 2, 1) := by decide +kernel
theorem d_M_values_17 : decode b_M_values 17 = .ok (.lconst 0, 1) := by decide +kernel
theorem d_M_values_18 : decode b_M_values 18 = .ok (.lcmp, 1) := by decide +kernel
theorem d_M_values_19 : decode b_M_values 19 = .ok (.ifCond .ne 7, 3) := by decide +kernel
theorem d_M_values_22 : decode b_M_values 22 = .ok (.ldc2_w 109, 3) := by decide +kernel
theorem d_M_values_25 : decode b_M_values 25 = .ok (.lreturn, 1) := by decide +kernel
theorem d_M_values_26 : decode b_M_values 26 = .ok (.lload_n 2, 1) := by decide +kernel
theorem d_M_values_27 : decode b_M_values 27 = .ok (.ldc2_w 111, 3) := by decide +kernel
theorem d_M_values_30 : decode b_M_values 30 = .ok (.lcmp, 1) := by decide +kernel
theorem d_M_values_31 : decode b_M_values 31 = .ok (.ifCond .gt 10, 3) := by decide +kernel
theorem d_M_values_34 : decode b_M_values 34 = .ok (.iload_n 1, 1) := by decide +kernel
theorem d_M_values_35 : decode b_M_values 35 = .ok (.i2l, 1) := by decide +kernel
theorem d_M_values_36 : decode b_M_values 36 = .ok (.ldc2_w 76, 3) := by decide +kernel
theorem d_M_values_39 : decode b_M_values 39 = .ok (.ladd, 1) := by decide +kernel
theorem d_M_values_40 : decode b_M_values 40 = .ok (.lreturn, 1) := by decide +kernel
theorem d_M_values_41 : decode b_M_values 41 = .ok (.aload_n 0, 1) := by decide +kernel
theorem d_M_values_42 : decode b_M_values 42 = .ok (.iload_n 1, 1) := by decide +kernel
theorem d_M_values_43 : decode b_M_values 43 = .ok (.bipush 8, 2) := by decide +kernel
theorem d_M_values_45 : decode b_M_values 45 = .ok (.iadd, 1) := by decide +kernel
theorem d_M_values_46 : decode b_M_values 46 = .ok (.iconst 4, 1) := by decide +kernel
theorem d_M_values_47 : decode b_M_values 47 = .ok (.invokevirtual 78, 3) := by decide +kernel
theorem d_M_values_50 : decode b_M_values 50 = .ok (.lstore 4, 2) := by decide +kernel
theorem d_M_values_52 : decode b_M_values 52 = .ok (.lload 4, 2) := by decide +kernel
theorem d_M_values_54 : decode b_M_values 54 = .ok (.lload_n 2, 1) := by decide +kernel
theorem d_M_values_55 : decode b_M_values 55 = .ok (.ladd, 1) := by decide +kernel
theorem d_M_values_56 : decode b_M_values 56 = .ok (.aload_n 0, 1) := by decide +kernel
theorem d_M_values_57 : decode b_M_values 57 = .ok (.getfield 63, 3) := by decide +kernel
theorem d_M_values_60 : decode b_M_values 60 = .ok (.i2l, 1) := by decide +kernel
theorem d_M_values_61 : decode b_M_values 61 = .ok (.lcmp, 1) := by decide +kernel
theorem d_M_values_62 : decode b_M_values 62 = .ok (.ifCond .gt 8, 3) := by decide +kernel
theorem d_M_values_65 : decode b_M_values 65 = .ok (.lload 4, 2) := by decide +kernel
theorem d_M_values_67 : decode b_M_values 67 = .ok (.goto 6, 3) := by decide +kernel
theorem d_M_values_70 : decode b_M_values 70 = .ok (.ldc2_w 109, 3) := by decide +kernel
theorem d_M_values_73 : decode b_M_values 73 = .ok (.lreturn, 1) := by decide +kernel
def wp_M_values (post : Int64 → Prop) (I_p0 : Nat → Int32) (f_p0_file : Nat → Int32) (x1 : Int32) : Prop :=
  wp_M_unit (fun (r2 : Int32) =>
    wp_M_read (fun (r11 : Int64) =>
      (((r2.toInt64 * r11) = 0 →
        post (-1)) ∧
       (¬ (r2.toInt64 * r11) = 0 →
        ((4 < (r2.toInt64 * r11) →
          wp_M_read (fun (r47 : Int64) =>
            (((I_p0 1).toInt64 < (r47 + (r2.toInt64 * r11)) →
              post (-1)) ∧
             (¬ (I_p0 1).toInt64 < (r47 + (r2.toInt64 * r11)) →
              post r47))) I_p0 f_p0_file (x1 + 8) 4) ∧
         (¬ 4 < (r2.toInt64 * r11) →
          post (x1.toInt64 + 8)))))) I_p0 f_p0_file (x1 + 4) 4) I_p0 f_p0_file x1
set_option maxRecDepth 100000 in
set_option maxHeartbeats 4000000 in
theorem c_M_values (l : Launch) (dC : Nat → ClassId) (dI : Nat → Nat → Nat) (cI : ClassId) (a_p0 : Nat) (A_p0 : Nat → Nat) (I_p0 : Nat → Int32) (f_p0_file : Nat → Int32) (x1 : Int32) {post : Int64 → Prop} (hw : wp_M_values post I_p0 f_p0_file x1) : gm_l l y_M_values ws_M_values ({ frames := 2, cells := 0, slots := 0, locals := 47 } : Room) (dC, dI) vwCl [(cI, .int)] [.ref a_p0, .int x1] [oM a_p0 A_p0 I_p0, gz cI (A_p0 0) 2000 f_p0_file] (fun (_ : Unit) => [oM a_p0 A_p0 I_p0, gz cI (A_p0 0) 2000 f_p0_file]) (fun (r : Int64) (_ : Unit) => post r) := by
  refine gm_lof (cc := b_M_values) (maxL := 6) (by decide) rfl (Nat.le_of_ble_eq_true rfl) ?_
  intro p e s m args below meth c A Q hx hb hml hown hg hK hN hA hret
  have hown : s.vm.findClass R_M = some m.cls := hown
  intro ls hl hP hD hS
  have hl : lv_has ls 6 [(0, .ref a_p0), (1, .int x1)] := hl
  unfold wp_M_values at hw
  refine lv_aload_n hx hb d_M_values_0 rfl (lv_at hl 0 rfl) ?_
  refine lv_iload_n hx hb d_M_values_1 rfl (lv_at hl 1 rfl) ?_
  refine gc_i (wn := fun (_ : Unit) => [oM a_p0 A_p0 I_p0, gz cI (A_p0 0) 2000 f_p0_file]) (wr := []) (gr_V (As := [.int x1]) (rest := []) ⟨hx, hb, hml, hown, hg⟩ (c_M_unit l dC dI cI a_p0 A_p0 I_p0 f_p0_file x1 hw _) (cwV 1 hg (gg_V t_931 t_933 t_32 t_71 t_934) rfl rfl rfl (by decide +kernel) ⟨Nat.le_of_ble_eq_true rfl, Nat.le_of_ble_eq_true rfl⟩) hK hN hP hD [0, 1] (by decide) rfl 0 10 rfl rfl rfl rfl hl.1 rfl (Nat.le_of_ble_eq_true rfl) d_M_values_2 ⟨Nat.le_of_ble_eq_true rfl, Nat.le_of_ble_eq_true rfl⟩) rfl rfl hP hD hS hA [0, 1] [] [0, 1] rfl rfl (by decide) (by decide) (by decide) (fun _ => rfl) ?_
  intro r2 _ H locs hw hP hD hS
  try dsimp only at hw
  have hP : va_P (dC, dI) vwCl [oM a_p0 A_p0 I_p0, gz cI (A_p0 0) 2000 f_p0_file] H := hP
  have hD : va_D A [oM a_p0 A_p0 I_p0, gz cI (A_p0 0) 2000 f_p0_file] := hD
  refine lv_i2l hx hb d_M_values_5 rfl ?_
  refine lv_aload_n hx hb d_M_values_6 rfl (lv_at hl 0 rfl) ?_
  refine lv_iload_n hx hb d_M_values_7 rfl (lv_at hl 1 rfl) ?_
  refine lv_iconst (v := 4) hx hb d_M_values_8 (by decide) ?_
  refine lv_iadd hx hb d_M_values_9 ?_
  refine lv_iconst (v := 4) hx hb d_M_values_10 (by decide) ?_
  refine gc_l (wn := fun (_ : Unit) => [oM a_p0 A_p0 I_p0, gz cI (A_p0 0) 2000 f_p0_file]) (wr := []) (gr_V (As := [.int (x1 + 4), .int 4]) (rest := [.long r2.toInt64]) ⟨hx, hb, hml, hown, hg⟩ (c_M_read l dC dI cI a_p0 A_p0 I_p0 f_p0_file (x1 + 4) 4 hw _) (cwV 2 hg (gg_V t_901 t_903 t_28 t_71 t_904) rfl rfl rfl (by decide +kernel) ⟨Nat.le_of_ble_eq_true rfl, Nat.le_of_ble_eq_true rfl⟩) hK hN hP hD [0, 1] (by decide) rfl 0 10 rfl rfl rfl rfl hl.1 rfl (Nat.le_of_ble_eq_true rfl) d_M_values_11 ⟨Nat.le_of_ble_eq_true rfl, Nat.le_of_ble_eq_true rfl⟩) rfl rfl hP hD hS hA [0, 1] [] [0, 1] rfl rfl (by decide) (by decide) (by decide) (fun _ => rfl) ?_
  intro r11 _ H locs hw hP hD hS
  try dsimp only at hw
  have hP : va_P (dC, dI) vwCl [oM a_p0 A_p0 I_p0, gz cI (A_p0 0) 2000 f_p0_file] H := hP
  have hD : va_D A [oM a_p0 A_p0 I_p0, gz cI (A_p0 0) 2000 f_p0_file] := hD
  refine lv_lmul hx hb d_M_values_14 ?_
  refine lv_lstore_n (lv' := [(2, .long (r2.toInt64 * r11)), (0, .ref a_p0), (1, .int x1)]) hx hb d_M_values_15 rfl hl (by decide) rfl (fun ls hl => ?_)
  refine lv_lload_n hx hb d_M_values_16 rfl (lv_at hl 0 rfl) ?_
  refine lv_lconst (v := 0) hx hb d_M_values_17 (by decide) ?_
  refine W.lcmp hx hb d_M_values_18 ?_
  refine lv_if_ne hx hb d_M_values_19 rfl (fun hc => ?_) (fun hc => ?_)
  · have hw := hw.2 (fun h9 => hc ((lg_cmp_eq _ _).mpr h9))
    refine lv_lload_n hx hb d_M_values_26 rfl (lv_at hl 0 rfl) ?_
    refine lv_ldc2 (v := 4) hx hb hown (hg _ t_936) d_M_values_27 ?_
    refine W.lcmp hx hb d_M_values_30 ?_
    refine lv_if_gt hx hb d_M_values_31 rfl (fun hc => ?_) (fun hc => ?_)
    · have hw := hw.1 ((lg_cmp_gt _ _).mp hc)
      refine lv_aload_n hx hb d_M_values_41 rfl (lv_at hl 1 rfl) ?_
      refine lv_iload_n hx hb d_M_values_42 rfl (lv_at hl 2 rfl) ?_
      refine lv_bipush (v := 8) hx hb d_M_values_43 (by decide) ?_
      refine lv_iadd hx hb d_M_values_45 ?_
      refine lv_iconst (v := 4) hx hb d_M_values_46 (by decide) ?_
      refine gc_l (wn := fun (_ : Unit) => [oM a_p0 A_p0 I_p0, gz cI (A_p0 0) 2000 f_p0_file]) (wr := []) (gr_V (As := [.int (x1 + 8), .int 4]) (rest := []) ⟨hx, hb, hml, hown, hg⟩ (c_M_read l dC dI cI a_p0 A_p0 I_p0 f_p0_file (x1 + 8) 4 hw _) (cwV 2 hg (gg_V t_901 t_903 t_28 t_71 t_904) rfl rfl rfl (by decide +kernel) ⟨Nat.le_of_ble_eq_true rfl, Nat.le_of_ble_eq_true rfl⟩) hK hN hP hD [0, 1] (by decide) rfl 0 10 rfl rfl rfl rfl hl.1 rfl (Nat.le_of_ble_eq_true rfl) d_M_values_47 ⟨Nat.le_of_ble_eq_true rfl, Nat.le_of_ble_eq_true rfl⟩) rfl rfl hP hD hS hA [0, 1] [] [0, 1] rfl rfl (by decide) (by decide) (by decide) (fun _ => rfl) ?_
      intro r47 _ H locs hw hP hD hS
      try dsimp only at hw
      have hP : va_P (dC, dI) vwCl [oM a_p0 A_p0 I_p0, gz cI (A_p0 0) 2000 f_p0_file] H := hP
      have hD : va_D A [oM a_p0 A_p0 I_p0, gz cI (A_p0 0) 2000 f_p0_file] := hD
      refine lv_lstore (lv' := [(4, .long r47), (2, .long (r2.toInt64 * r11)), (0, .ref a_p0), (1, .int x1)]) hx hb d_M_values_50 hl (by decide) rfl (fun ls hl => ?_)
      refine lv_lload hx hb d_M_values_52 (lv_at hl 0 rfl) ?_
      refine lv_lload_n hx hb d_M_values_54 rfl (lv_at hl 1 rfl) ?_
      refine lv_ladd hx hb d_M_values_55 ?_
      refine lv_aload_n hx hb d_M_values_56 rfl (lv_at hl 2 rfl) ?_
      refine va_get (D := (dC, dI)) (ci := 10) (v := .int (I_p0 1)) (C := R_M) (T := T_M) (N := 30) hx hb hg in_M hown hK hP 0 rfl rfl 1 (by decide) (hg _ t_759) (fun _ h9 => h9) rfl d_M_values_57 ?_
      refine lv_i2l hx hb d_M_values_60 rfl ?_
      refine W.lcmp hx hb d_M_values_61 ?_
      refine lv_if_gt hx hb d_M_values_62 rfl (fun hc => ?_) (fun hc => ?_)
      · have hw := hw.1 ((lg_cmp_gt _ _).mp hc)
        refine lv_ldc2 (v := (-1)) hx hb hown (hg _ t_935) d_M_values_70 ?_
        exact hret _ _ _ _ _ () d_M_values_73 hP hD hS hw
      · have hw := hw.2 (fun h9 => hc ((lg_cmp_gt _ _).mpr h9))
        refine lv_lload hx hb d_M_values_65 (lv_at hl 0 rfl) ?_
        refine lv_goto hx hb d_M_values_67 rfl ?_
        exact hret _ _ _ _ _ () d_M_values_73 hP hD hS hw
    · have hw := hw.2 (fun h9 => hc ((lg_cmp_gt _ _).mpr h9))
      refine lv_iload_n hx hb d_M_values_34 rfl (lv_at hl 2 rfl) ?_
      refine lv_i2l hx hb d_M_values_35 rfl ?_
      refine lv_ldc2 (v := 8) hx hb hown (hg _ t_912) d_M_values_36 ?_
      refine lv_ladd hx hb d_M_values_39 ?_
      exact hret _ _ _ _ _ () d_M_values_40 hP hD hS hw
  · have hw := hw.1 ((lg_cmp_eq _ _).mp hc)
    refine lv_ldc2 (v := (-1)) hx hb hown (hg _ t_935) d_M_values_22 ?_
    exact hret _ _ _ _ _ () d_M_values_25 hP hD hS hw
theorem d_M_field_0 : decode b_M_field 0 = .ok (.aload_n 0, 1) := by decide +kernel
theorem d_M_field_1 : decode b_M_field 1 = .ok (.iload_n 1, 1) := by decide +kernel
theorem d_M_field_2 : decode b_M_field 2 = .ok (.iload_n 2, 1) := by decide +kernel
theorem d_M_field_3 : decode b_M_field 3 = .ok (.invokevirtual 113, 3) := by decide +kernel
theorem d_M_field_6 : decode b_M_field 6 = .ok (.istore 4, 2) := by decide +kernel
theorem d_M_field_8 : decode b_M_field 8 = .ok (.iload 4, 2) := by decide +kernel
theorem d_M_field_10 : decode b_M_field 10 = .ok (.ifCond .lt 33, 3) := by decide +kernel
theorem d_M_field_13 : decode b_M_field 13 = .ok (.iload_n 3, 1) := by decide +kernel
theorem d_M_field_14 : decode b_M_field 14 = .ok (.ifCond .lt 29, 3) := by decide +kernel
theorem d_M_field_17 : decode b_M_field 17 = .ok (.aload_n 0, 1) := by decide +kernel
theorem d_M_field_18 : decode b_M_field 18 = .ok (.iload 4, 2) := by decide +kernel
theorem d_M_field_20 : decode b_M_field 20 = .ok (.invokevirtual 117, 3) := by decide +kernel
theorem d_M_field_23 : decode b_M_field 23 = .ok (.lconst 0, 1) := by decide +kernel
theorem d_M_field_24 : decode b_M_field 24 = .ok (.lcmp, 1) := by decide +kernel
theorem d_M_field_25 : decode b_M_field 25 = .ok (.ifCond .lt 18, 3) := by decide +kernel
theorem d_M_field_28 : decode b_M_field 28 = .ok (.iload_n 3, 1) := by decide +kernel
theorem d_M_field_29 : decode b_M_field 29 = .ok (.i2l, 1) := by decide +kernel
theorem d_M_field_30 : decode b_M_field 30 = .ok (.aload_n 0, 1) := by decide +kernel
theorem d_M_field_31 : decode b_M_field 31 = .ok (.iload 4, 2) := by decide +kernel
theorem d_M_field_33 : decode b_M_field 33 = .ok (.iconst 4, 1) := by decide +kernel
theorem d_M_field_34 : decode b_M_field 34 = .ok (.iadd, 1) := by decide +kernel
theorem d_M_field_35 : decode b_M_field 35 = .ok (.iconst 4, 1) := by decide +kernel
theorem d_M_field_36 : decode b_M_field 36 = .ok (.invokevirtual 78, 3) := by decide +kernel
theorem d_M_field_39 : decode b_M_field 39 = .ok (.lcmp, 1) := by decide +kernel
theorem d_M_field_40 : decode b_M_field 40 = .ok (.ifCond .lt 7, 3) := by decide +kernel
theorem d_M_field_43 : decode b_M_field 43 = .ok (.ldc2_w 109, 3) := by decide +kernel
theorem d_M_field_46 : decode b_M_field 46 = .ok (.lreturn, 1) := by decide +kernel
theorem d_M_field_47 : decode b_M_field 47 = .ok (.aload_n 0, 1) := by decide +kernel
theorem d_M_field_48 : decode b_M_field 48 = .ok (.iload 4, 2) := by decide +kernel
theorem d_M_field_50 : decode b_M_field 50 = .ok (.invokevirtual 105, 3) := by decide +kernel
theorem d_M_field_53 : decode b_M_field 53 = .ok (.istore 5, 2) := by decide +kernel
theorem d_M_field_55 : decode b_M_field 55 = .ok (.aload_n 0, 1) := by decide +kernel
theorem d_M_field_56 : decode b_M_field 56 = .ok (.aload_n 0, 1) := by decide +kernel
theorem d_M_field_57 : decode b_M_field 57 = .ok (.iload 4, 2) := by decide +kernel
theorem d_M_field_59 : decode b_M_field 59 = .ok (.invokevirtual 117, 3) := by decide +kernel
theorem d_M_field_62 : decode b_M_field 62 = .ok (.l2i, 1) := by decide +kernel
theorem d_M_field_63 : decode b_M_field 63 = .ok (.iload 5, 2) := by decide +kernel
theorem d_M_field_65 : decode b_M_field 65 = .ok (.iload_n 3, 1) := by decide +kernel
theorem d_M_field_66 : decode b_M_field 66 = .ok (.imul, 1) := by decide +kernel
theorem d_M_field_67 : decode b_M_field 67 = .ok (.iadd, 1) := by decide +kernel
theorem d_M_field_68 : decode b_M_field 68 = .ok (.iload 5, 2) := by decide +kernel
theorem d_M_field_70 : decode b_M_field 70 = .ok (.invokevirtual 78, 3) := by decide +kernel
theorem d_M_field_73 : decode b_M_field 73 = .ok (.lreturn, 1) := by decide +kernel
def wp_M_field (post : Int64 → (Nat → Int32) → (Nat → Int32) → Prop) (f_p0_file : Nat → Int32) (I_p0 : Nat → Int32) (f_p0_dirs : Nat → Int32) (x1 : Int32) (x2 : Int32) (x3 : Int32) : Prop :=
  wp_M_entry (fun (r3 : Int32) (I_p0_3 : Nat → Int32) (f_p0_dirs_3 : Nat → Int32) =>
    ((r3 < 0 →
      post (-1) I_p0_3 f_p0_dirs_3) ∧
     (¬ r3 < 0 →
      ((x3 < 0 →
        post (-1) I_p0_3 f_p0_dirs_3) ∧
       (¬ x3 < 0 →
        wp_M_values (fun (r20 : Int64) =>
          ((r20 < 0 →
            post (-1) I_p0_3 f_p0_dirs_3) ∧
           (¬ r20 < 0 →
            wp_M_read (fun (r36 : Int64) =>
              ((x3.toInt64 < r36 →
                wp_M_unit (fun (r50 : Int32) =>
                  wp_M_values (fun (r59 : Int64) =>
                    wp_M_read (fun (r70 : Int64) =>
                      post r70 I_p0_3 f_p0_dirs_3) I_p0_3 f_p0_file (r59.toInt32 + (r50 * x3)) r50) I_p0_3 f_p0_file r3) I_p0_3 f_p0_file r3) ∧
               (¬ x3.toInt64 < r36 →
                post (-1) I_p0_3 f_p0_dirs_3))) I_p0_3 f_p0_file (r3 + 4) 4))) I_p0_3 f_p0_file r3))))) f_p0_file I_p0 f_p0_dirs x1 x2
set_option maxRecDepth 100000 in
set_option maxHeartbeats 4000000 in
theorem c_M_field (l : Launch) (dC : Nat → ClassId) (dI : Nat → Nat → Nat) (cI : ClassId) (a_p0 : Nat) (A_p0 : Nat → Nat) (f_p0_file : Nat → Int32) (I_p0 : Nat → Int32) (f_p0_dirs : Nat → Int32) (x1 : Int32) (x2 : Int32) (x3 : Int32) {post : Int64 → (Nat → Int32) → (Nat → Int32) → Prop} (hw : wp_M_field post f_p0_file I_p0 f_p0_dirs x1 x2 x3) : gm_l l y_M_field ws_M_field ({ frames := 4, cells := 0, slots := 0, locals := 99 } : Room) (dC, dI) vwCl [(cI, .int)] [.ref a_p0, .int x1, .int x2, .int x3] [oM a_p0 A_p0 I_p0, gz cI (A_p0 13) 8 f_p0_dirs, gz cI (A_p0 0) 2000 f_p0_file] (fun (u : (Nat → Int32) × (Nat → Int32)) => [oM a_p0 A_p0 u.1, gz cI (A_p0 13) 8 u.2, gz cI (A_p0 0) 2000 f_p0_file]) (fun (r : Int64) (u : (Nat → Int32) × (Nat → Int32)) => post r u.1 u.2) := by
  refine gm_lof (cc := b_M_field) (maxL := 6) (by decide) rfl (Nat.le_of_ble_eq_true rfl) ?_
  intro p e s m args below meth c A Q hx hb hml hown hg hK hN hA hret
  have hown : s.vm.findClass R_M = some m.cls := hown
  intro ls hl hP hD hS
  have hl : lv_has ls 6 [(0, .ref a_p0), (1, .int x1), (2, .int x2), (3, .int x3)] := hl
  unfold wp_M_field at hw
  refine lv_aload_n hx hb d_M_field_0 rfl (lv_at hl 0 rfl) ?_
  refine lv_iload_n hx hb d_M_field_1 rfl (lv_at hl 1 rfl) ?_
  refine lv_iload_n hx hb d_M_field_2 rfl (lv_at hl 2 rfl) ?_
  refine gc_i (wn := fun u => [oM a_p0 A_p0 u.1, gz cI (A_p0 13) 8 u.2, gz cI (A_p0 0) 2000 f_p0_file]) (wr := []) (gr_V (As := [.int x1, .int x2]) (rest := []) ⟨hx, hb, hml, hown, hg⟩ (c_M_entry l dC dI cI a_p0 A_p0 f_p0_file I_p0 f_p0_dirs x1 x2 hw _) (cwV 2 hg (gg_V t_923 t_925 t_30 t_71 t_926) rfl rfl rfl (by decide +kernel) ⟨Nat.le_of_ble_eq_true rfl, Nat.le_of_ble_eq_true rfl⟩) hK hN hP hD [0, 1, 2] (by decide) rfl 0 10 rfl rfl rfl rfl hl.1 rfl (Nat.le_of_ble_eq_true rfl) d_M_field_3 ⟨Nat.le_of_ble_eq_true rfl, Nat.le_of_ble_eq_true rfl⟩) rfl rfl hP hD hS hA [0, 1, 2] [] [0, 1, 2] rfl rfl (by decide) (by decide) (by decide) (fun _ => rfl) ?_
  intro r3 u9 H locs hw hP hD hS
  obtain ⟨I_p0_3, f_p0_dirs_3⟩ := u9
  try dsimp only at hw
  have hP : va_P (dC, dI) vwCl [oM a_p0 A_p0 I_p0_3, gz cI (A_p0 13) 8 f_p0_dirs_3, gz cI (A_p0 0) 2000 f_p0_file] H := hP
  have hD : va_D A [oM a_p0 A_p0 I_p0_3, gz cI (A_p0 13) 8 f_p0_dirs_3, gz cI (A_p0 0) 2000 f_p0_file] := hD
  refine lv_istore (lv' := [(4, .int r3), (0, .ref a_p0), (1, .int x1), (2, .int x2), (3, .int x3)]) hx hb d_M_field_6 hl (by decide) rfl (fun ls hl => ?_)
  refine lv_iload hx hb d_M_field_8 (lv_at hl 0 rfl) ?_
  refine lv_if_lt hx hb d_M_field_10 rfl (fun hc => ?_) (fun hc => ?_)
  · have hw := hw.1 hc
    refine lv_ldc2 (v := (-1)) hx hb hown (hg _ t_935) d_M_field_43 ?_
    exact hret _ _ _ _ _ (I_p0_3, f_p0_dirs_3) d_M_field_46 hP hD hS hw
  · have hw := hw.2 hc
    refine lv_iload_n hx hb d_M_field_13 rfl (lv_at hl 4 rfl) ?_
    refine lv_if_lt hx hb d_M_field_14 rfl (fun hc => ?_) (fun hc => ?_)
    · have hw := hw.1 hc
      refine lv_ldc2 (v := (-1)) hx hb hown (hg _ t_935) d_M_field_43 ?_
      exact hret _ _ _ _ _ (I_p0_3, f_p0_dirs_3) d_M_field_46 hP hD hS hw
    · have hw := hw.2 hc
      refine lv_aload_n hx hb d_M_field_17 rfl (lv_at hl 1 rfl) ?_
      refine lv_iload hx hb d_M_field_18 (lv_at hl 0 rfl) ?_
      refine gc_l (wn := fun (_ : Unit) => [oM a_p0 A_p0 I_p0_3, gz cI (A_p0 13) 8 f_p0_dirs_3, gz cI (A_p0 0) 2000 f_p0_file]) (wr := [gz cI (A_p0 13) 8 f_p0_dirs_3]) (gr_V (As := [.int r3]) (rest := []) ⟨hx, hb, hml, hown, hg⟩ (c_M_values l dC dI cI a_p0 A_p0 I_p0_3 f_p0_file r3 hw _) (cwV 1 hg (gg_V t_927 t_929 t_31 t_71 t_930) rfl rfl rfl (by decide +kernel) ⟨Nat.le_of_ble_eq_true rfl, Nat.le_of_ble_eq_true rfl⟩) hK hN hP hD [0, 2] (by decide) rfl 0 10 rfl rfl rfl rfl hl.1 rfl (Nat.le_of_ble_eq_true rfl) d_M_field_20 ⟨Nat.le_of_ble_eq_true rfl, Nat.le_of_ble_eq_true rfl⟩) rfl rfl hP hD hS hA [0, 2] [1] [1, 0, 2] rfl rfl (by decide) (by decide) (by decide) (fun _ => rfl) ?_
      intro r20 _ H locs hw hP hD hS
      try dsimp only at hw
      have hP : va_P (dC, dI) vwCl [oM a_p0 A_p0 I_p0_3, gz cI (A_p0 13) 8 f_p0_dirs_3, gz cI (A_p0 0) 2000 f_p0_file] H := hP
      have hD : va_D A [oM a_p0 A_p0 I_p0_3, gz cI (A_p0 13) 8 f_p0_dirs_3, gz cI (A_p0 0) 2000 f_p0_file] := hD
      refine lv_lconst (v := 0) hx hb d_M_field_23 (by decide) ?_
      refine W.lcmp hx hb d_M_field_24 ?_
      refine lv_if_lt hx hb d_M_field_25 rfl (fun hc => ?_) (fun hc => ?_)
      · have hw := hw.1 ((lg_cmp_lt _ _).mp hc)
        refine lv_ldc2 (v := (-1)) hx hb hown (hg _ t_935) d_M_field_43 ?_
        exact hret _ _ _ _ _ (I_p0_3, f_p0_dirs_3) d_M_field_46 hP hD hS hw
      · have hw := hw.2 (fun h9 => hc ((lg_cmp_lt _ _).mpr h9))
        refine lv_iload_n hx hb d_M_field_28 rfl (lv_at hl 4 rfl) ?_
        refine lv_i2l hx hb d_M_field_29 rfl ?_
        refine lv_aload_n hx hb d_M_field_30 rfl (lv_at hl 1 rfl) ?_
        refine lv_iload hx hb d_M_field_31 (lv_at hl 0 rfl) ?_
        refine lv_iconst (v := 4) hx hb d_M_field_33 (by decide) ?_
        refine lv_iadd hx hb d_M_field_34 ?_
        refine lv_iconst (v := 4) hx hb d_M_field_35 (by decide) ?_
        refine gc_l (wn := fun (_ : Unit) => [oM a_p0 A_p0 I_p0_3, gz cI (A_p0 13) 8 f_p0_dirs_3, gz cI (A_p0 0) 2000 f_p0_file]) (wr := [gz cI (A_p0 13) 8 f_p0_dirs_3]) (gr_V (As := [.int (r3 + 4), .int 4]) (rest := [.long x3.toInt64]) ⟨hx, hb, hml, hown, hg⟩ (c_M_read l dC dI cI a_p0 A_p0 I_p0_3 f_p0_file (r3 + 4) 4 hw _) (cwV 2 hg (gg_V t_901 t_903 t_28 t_71 t_904) rfl rfl rfl (by decide +kernel) ⟨Nat.le_of_ble_eq_true rfl, Nat.le_of_ble_eq_true rfl⟩) hK hN hP hD [0, 2] (by decide) rfl 0 10 rfl rfl rfl rfl hl.1 rfl (Nat.le_of_ble_eq_true rfl) d_M_field_36 ⟨Nat.le_of_ble_eq_true rfl, Nat.le_of_ble_eq_true rfl⟩) rfl rfl hP hD hS hA [0, 2] [1] [1, 0, 2] rfl rfl (by decide) (by decide) (by decide) (fun _ => rfl) ?_
        intro r36 _ H locs hw hP hD hS
        try dsimp only at hw
        have hP : va_P (dC, dI) vwCl [oM a_p0 A_p0 I_p0_3, gz cI (A_p0 13) 8 f_p0_dirs_3, gz cI (A_p0 0) 2000 f_p0_file] H := hP
        have hD : va_D A [oM a_p0 A_p0 I_p0_3, gz cI (A_p0 13) 8 f_p0_dirs_3, gz cI (A_p0 0) 2000 f_p0_file] := hD
        refine W.lcmp hx hb d_M_field_39 ?_
        refine lv_if_lt hx hb d_M_field_40 rfl (fun hc => ?_) (fun hc => ?_)
        · have hw := hw.1 ((lg_cmp_lt _ _).mp hc)
          refine lv_aload_n hx hb d_M_field_47 rfl (lv_at hl 1 rfl) ?_
          refine lv_iload hx hb d_M_field_48 (lv_at hl 0 rfl) ?_
          refine gc_i (wn := fun (_ : Unit) => [oM a_p0 A_p0 I_p0_3, gz cI (A_p0 13) 8 f_p0_dirs_3, gz cI (A_p0 0) 2000 f_p0_file]) (wr := [gz cI (A_p0 13) 8 f_p0_dirs_3]) (gr_V (As := [.int r3]) (rest := []) ⟨hx, hb, hml, hown, hg⟩ (c_M_unit l dC dI cI a_p0 A_p0 I_p0_3 f_p0_file r3 hw _) (cwV 1 hg (gg_V t_931 t_933 t_32 t_71 t_934) rfl rfl rfl (by decide +kernel) ⟨Nat.le_of_ble_eq_true rfl, Nat.le_of_ble_eq_true rfl⟩) hK hN hP hD [0, 2] (by decide) rfl 0 10 rfl rfl rfl rfl hl.1 rfl (Nat.le_of_ble_eq_true rfl) d_M_field_50 ⟨Nat.le_of_ble_eq_true rfl, Nat.le_of_ble_eq_true rfl⟩) rfl rfl hP hD hS hA [0, 2] [1] [1, 0, 2] rfl rfl (by decide) (by decide) (by decide) (fun _ => rfl) ?_
          intro r50 _ H locs hw hP hD hS
          try dsimp only at hw
          have hP : va_P (dC, dI) vwCl [oM a_p0 A_p0 I_p0_3, gz cI (A_p0 13) 8 f_p0_dirs_3, gz cI (A_p0 0) 2000 f_p0_file] H := hP
          have hD : va_D A [oM a_p0 A_p0 I_p0_3, gz cI (A_p0 13) 8 f_p0_dirs_3, gz cI (A_p0 0) 2000 f_p0_file] := hD
          refine lv_istore (lv' := [(5, .int r50), (4, .int r3), (0, .ref a_p0), (1, .int x1), (2, .int x2), (3, .int x3)]) hx hb d_M_field_53 hl (by decide) rfl (fun ls hl => ?_)
          refine lv_aload_n hx hb d_M_field_55 rfl (lv_at hl 2 rfl) ?_
          refine lv_aload_n hx hb d_M_field_56 rfl (lv_at hl 2 rfl) ?_
          refine lv_iload hx hb d_M_field_57 (lv_at hl 1 rfl) ?_
          refine gc_l (wn := fun (_ : Unit) => [oM a_p0 A_p0 I_p0_3, gz cI (A_p0 13) 8 f_p0_dirs_3, gz cI (A_p0 0) 2000 f_p0_file]) (wr := [gz cI (A_p0 13) 8 f_p0_dirs_3]) (gr_V (As := [.int r3]) (rest := [.ref a_p0]) ⟨hx, hb, hml, hown, hg⟩ (c_M_values l dC dI cI a_p0 A_p0 I_p0_3 f_p0_file r3 hw _) (cwV 1 hg (gg_V t_927 t_929 t_31 t_71 t_930) rfl rfl rfl (by decide +kernel) ⟨Nat.le_of_ble_eq_true rfl, Nat.le_of_ble_eq_true rfl⟩) hK hN hP hD [0, 2] (by decide) rfl 0 10 rfl rfl rfl rfl hl.1 rfl (Nat.le_of_ble_eq_true rfl) d_M_field_59 ⟨Nat.le_of_ble_eq_true rfl, Nat.le_of_ble_eq_true rfl⟩) rfl rfl hP hD hS hA [0, 2] [1] [1, 0, 2] rfl rfl (by decide) (by decide) (by decide) (fun _ => rfl) ?_
          intro r59 _ H locs hw hP hD hS
          try dsimp only at hw
          have hP : va_P (dC, dI) vwCl [oM a_p0 A_p0 I_p0_3, gz cI (A_p0 13) 8 f_p0_dirs_3, gz cI (A_p0 0) 2000 f_p0_file] H := hP
          have hD : va_D A [oM a_p0 A_p0 I_p0_3, gz cI (A_p0 13) 8 f_p0_dirs_3, gz cI (A_p0 0) 2000 f_p0_file] := hD
          refine lv_l2i hx hb d_M_field_62 rfl ?_
          refine lv_iload hx hb d_M_field_63 (lv_at hl 0 rfl) ?_
          refine lv_iload_n hx hb d_M_field_65 rfl (lv_at hl 5 rfl) ?_
          refine lv_imul hx hb d_M_field_66 ?_
          refine lv_iadd hx hb d_M_field_67 ?_
          refine lv_iload hx hb d_M_field_68 (lv_at hl 0 rfl) ?_
          refine gc_l (wn := fun (_ : Unit) => [oM a_p0 A_p0 I_p0_3, gz cI (A_p0 13) 8 f_p0_dirs_3, gz cI (A_p0 0) 2000 f_p0_file]) (wr := [gz cI (A_p0 13) 8 f_p0_dirs_3]) (gr_V (As := [.int (r59.toInt32 + (r50 * x3)), .int r50]) (rest := []) ⟨hx, hb, hml, hown, hg⟩ (c_M_read l dC dI cI a_p0 A_p0 I_p0_3 f_p0_file (r59.toInt32 + (r50 * x3)) r50 hw _) (cwV 2 hg (gg_V t_901 t_903 t_28 t_71 t_904) rfl rfl rfl (by decide +kernel) ⟨Nat.le_of_ble_eq_true rfl, Nat.le_of_ble_eq_true rfl⟩) hK hN hP hD [0, 2] (by decide) rfl 0 10 rfl rfl rfl rfl hl.1 rfl (Nat.le_of_ble_eq_true rfl) d_M_field_70 ⟨Nat.le_of_ble_eq_true rfl, Nat.le_of_ble_eq_true rfl⟩) rfl rfl hP hD hS hA [0, 2] [1] [1, 0, 2] rfl rfl (by decide) (by decide) (by decide) (fun _ => rfl) ?_
          intro r70 _ H locs hw hP hD hS
          try dsimp only at hw
          have hP : va_P (dC, dI) vwCl [oM a_p0 A_p0 I_p0_3, gz cI (A_p0 13) 8 f_p0_dirs_3, gz cI (A_p0 0) 2000 f_p0_file] H := hP
          have hD : va_D A [oM a_p0 A_p0 I_p0_3, gz cI (A_p0 13) 8 f_p0_dirs_3, gz cI (A_p0 0) 2000 f_p0_file] := hD
          exact hret _ _ _ _ _ (I_p0_3, f_p0_dirs_3) d_M_field_73 hP hD hS hw
        · have hw := hw.2 (fun h9 => hc ((lg_cmp_lt _ _).mpr h9))
          refine lv_ldc2 (v := (-1)) hx hb hown (hg _ t_935) d_M_field_43 ?_
          exact hret _ _ _ _ _ (I_p0_3, f_p0_dirs_3) d_M_field_46 hP hD hS hw
theorem d_M_fieldCount_0 : decode b_M_fieldCount 0 = .ok (.aload_n 0, 1) := by decide +kernel
theorem d_M_fieldCount_1 : decode b_M_fieldCount 1 = .ok (.iload_n 1, 1) := by decide +kernel
theorem d_M_fieldCount_2 : decode b_M_fieldCount 2 = .ok (.iload_n 2, 1) := by decide +kernel
theorem d_M_fieldCount_3 : decode b_M_fieldCount 3 = .ok (.invokevirtual 113, 3) := by decide +kernel
theorem d_M_fieldCount_6 : decode b_M_fieldCount 6 = .ok (.istore_n 3, 1) := by decide +kernel
theorem d_M_fieldCount_7 : decode b_M_fieldCount 7 = .ok (.iload_n 3, 1) := by decide +kernel
theorem d_M_fieldCount_8 : decode b_M_fieldCount 8 = .ok (.ifCond .lt 13, 3) := by decide +kernel
theorem d_M_fieldCount_11 : decode b_M_fieldCount 11 = .ok (.aload_n 0, 1) := by decide +kernel
theorem d_M_fieldCount_12 : decode b_M_fieldCount 12 = .ok (.iload_n 3, 1) := by decide +kernel
theorem d_M_fieldCount_13 : decode b_M_fieldCount 13 = .ok (.invokevirtual 117, 3) := by decide +kernel
theorem d_M_fieldCount_16 : decode b_M_fieldCount 16 = .ok (.lconst 0, 1) := by decide +kernel
theorem d_M_fieldCount_17 : decode b_M_fieldCount 17 = .ok (.lcmp, 1) := by decide +kernel
theorem d_M_fieldCount_18 : decode b_M_fieldCount 18 = .ok (.ifCond .ge 9, 3) := by decide +kernel
theorem d_M_fieldCount_21 : decode b_M_fieldCount 21 = .ok (.ldc2_w 109, 3) := by decide +kernel
theorem d_M_fieldCount_24 : decode b_M_fieldCount 24 = .ok (.goto 11, 3) := by decide +kernel
theorem d_M_fieldCount_27 : decode b_M_fieldCount 27 = .ok (.aload_n 0, 1) := by decide +kernel
theorem d_M_fieldCount_28 : decode b_M_fieldCount 28 = .ok (.iload_n 3, 1) := by decide +kernel
theorem d_M_fieldCount_29 : decode b_M_fieldCount 29 = .ok (.iconst 4, 1) := by decide +kernel
theorem d_M_fieldCount_30 : decode b_M_fieldCount 30 = .ok (.iadd, 1) := by decide +kernel
theorem d_M_fieldCount_31 : decode b_M_fieldCount 31 = .ok (.iconst 4, 1) := by decide +kernel
theorem d_M_fieldCount_32 : decode b_M_fieldCount 32 = .ok (.invokevirtual 78, 3) := by decide +kernel
theorem d_M_fieldCount_35 : decode b_M_fieldCount 35 = .ok (.lreturn, 1) := by decide +kernel
def wp_M_fieldCount_b21 (post : Int64 → (Nat → Int32) → (Nat → Int32) → Prop) (f_p0_file : Nat → Int32) (I_p0 : Nat → Int32) (f_p0_dirs : Nat → Int32) : Prop :=
  post (-1) I_p0 f_p0_dirs
def wp_M_fieldCount (post : Int64 → (Nat → Int32) → (Nat → Int32) → Prop) (f_p0_file : Nat → Int32) (I_p0 : Nat → Int32) (f_p0_dirs : Nat → Int32) (x1 : Int32) (x2 : Int32) : Prop :=
  wp_M_entry (fun (r3 : Int32) (I_p0_3 : Nat → Int32) (f_p0_dirs_3 : Nat → Int32) =>
    ((r3 < 0 →
      wp_M_fieldCount_b21 post f_p0_file I_p0_3 f_p0_dirs_3) ∧
     (¬ r3 < 0 →
      wp_M_values (fun (r13 : Int64) =>
        ((0 ≤ r13 →
          wp_M_read (fun (r32 : Int64) =>
            post r32 I_p0_3 f_p0_dirs_3) I_p0_3 f_p0_file (r3 + 4) 4) ∧
         (¬ 0 ≤ r13 →
          wp_M_fieldCount_b21 post f_p0_file I_p0_3 f_p0_dirs_3))) I_p0_3 f_p0_file r3))) f_p0_file I_p0 f_p0_dirs x1 x2
set_option maxRecDepth 100000 in
set_option maxHeartbeats 4000000 in
theorem c_M_fieldCount (l : Launch) (dC : Nat → ClassId) (dI : Nat → Nat → Nat) (cI : ClassId) (a_p0 : Nat) (A_p0 : Nat → Nat) (f_p0_file : Nat → Int32) (I_p0 : Nat → Int32) (f_p0_dirs : Nat → Int32) (x1 : Int32) (x2 : Int32) {post : Int64 → (Nat → Int32) → (Nat → Int32) → Prop} (hw : wp_M_fieldCount post f_p0_file I_p0 f_p0_dirs x1 x2) : gm_l l y_M_fieldCount ws_M_fieldCount ({ frames := 4, cells := 0, slots := 0, locals := 99 } : Room) (dC, dI) vwCl [(cI, .int)] [.ref a_p0, .int x1, .int x2] [oM a_p0 A_p0 I_p0, gz cI (A_p0 13) 8 f_p0_dirs, gz cI (A_p0 0) 2000 f_p0_file] (fun (u : (Nat → Int32) × (Nat → Int32)) => [oM a_p0 A_p0 u.1, gz cI (A_p0 13) 8 u.2, gz cI (A_p0 0) 2000 f_p0_file]) (fun (r : Int64) (u : (Nat → Int32) × (Nat → Int32)) => post r u.1 u.2) := by
  refine gm_lof (cc := b_M_fieldCount) (maxL := 4) (by decide) rfl (Nat.le_of_ble_eq_true rfl) ?_
  intro p e s m args below meth c A Q hx hb hml hown hg hK hN hA hret
  have hown : s.vm.findClass R_M = some m.cls := hown
  have b21 : ∀ (H : Heap) (locs : List Loc) (ls : Array Slot) (I_p0 : Nat → Int32) (f_p0_dirs : Nat → Int32), va_P (dC, dI) vwCl [oM a_p0 A_p0 I_p0, gz cI (A_p0 13) 8 f_p0_dirs, gz cI (A_p0 0) 2000 f_p0_file] H → va_D A [oM a_p0 A_p0 I_p0, gz cI (A_p0 13) 8 f_p0_dirs, gz cI (A_p0 0) 2000 f_p0_file] → va_S A s.heap H locs → lv_has ls 4 [] → wp_M_fieldCount_b21 post f_p0_file I_p0 f_p0_dirs → W p l e ({ frames := 4, cells := 0, slots := 0, locals := 99 } : Room) s m args below meth c H locs 0 0 Q (F0 m 21 ls []) := by
    intro H locs ls I_p0 f_p0_dirs hP hD hS hl hw
    unfold wp_M_fieldCount_b21 at hw
    refine lv_ldc2 (v := (-1)) hx hb hown (hg _ t_935) d_M_fieldCount_21 ?_
    refine lv_goto hx hb d_M_fieldCount_24 rfl ?_
    exact hret _ _ _ _ _ (I_p0, f_p0_dirs) d_M_fieldCount_35 hP hD hS hw
  intro ls hl hP hD hS
  have hl : lv_has ls 4 [(0, .ref a_p0), (1, .int x1), (2, .int x2)] := hl
  unfold wp_M_fieldCount at hw
  refine lv_aload_n hx hb d_M_fieldCount_0 rfl (lv_at hl 0 rfl) ?_
  refine lv_iload_n hx hb d_M_fieldCount_1 rfl (lv_at hl 1 rfl) ?_
  refine lv_iload_n hx hb d_M_fieldCount_2 rfl (lv_at hl 2 rfl) ?_
  refine gc_i (wn := fun u => [oM a_p0 A_p0 u.1, gz cI (A_p0 13) 8 u.2, gz cI (A_p0 0) 2000 f_p0_file]) (wr := []) (gr_V (As := [.int x1, .int x2]) (rest := []) ⟨hx, hb, hml, hown, hg⟩ (c_M_entry l dC dI cI a_p0 A_p0 f_p0_file I_p0 f_p0_dirs x1 x2 hw _) (cwV 2 hg (gg_V t_923 t_925 t_30 t_71 t_926) rfl rfl rfl (by decide +kernel) ⟨Nat.le_of_ble_eq_true rfl, Nat.le_of_ble_eq_true rfl⟩) hK hN hP hD [0, 1, 2] (by decide) rfl 0 10 rfl rfl rfl rfl hl.1 rfl (Nat.le_of_ble_eq_true rfl) d_M_fieldCount_3 ⟨Nat.le_of_ble_eq_true rfl, Nat.le_of_ble_eq_true rfl⟩) rfl rfl hP hD hS hA [0, 1, 2] [] [0, 1, 2] rfl rfl (by decide) (by decide) (by decide) (fun _ => rfl) ?_
  intro r3 u9 H locs hw hP hD hS
  obtain ⟨I_p0_3, f_p0_dirs_3⟩ := u9
  try dsimp only at hw
  have hP : va_P (dC, dI) vwCl [oM a_p0 A_p0 I_p0_3, gz cI (A_p0 13) 8 f_p0_dirs_3, gz cI (A_p0 0) 2000 f_p0_file] H := hP
  have hD : va_D A [oM a_p0 A_p0 I_p0_3, gz cI (A_p0 13) 8 f_p0_dirs_3, gz cI (A_p0 0) 2000 f_p0_file] := hD
  refine lv_istore_n (lv' := [(3, .int r3), (0, .ref a_p0), (1, .int x1), (2, .int x2)]) hx hb d_M_fieldCount_6 rfl hl (by decide) rfl (fun ls hl => ?_)
  refine lv_iload_n hx hb d_M_fieldCount_7 rfl (lv_at hl 0 rfl) ?_
  refine lv_if_lt hx hb d_M_fieldCount_8 rfl (fun hc => ?_) (fun hc => ?_)
  · have hw := hw.1 hc
    exact b21 _ _ _ I_p0_3 f_p0_dirs_3 hP hD hS (lv_sub hl [] rfl) hw
  · have hw := hw.2 hc
    refine lv_aload_n hx hb d_M_fieldCount_11 rfl (lv_at hl 1 rfl) ?_
    refine lv_iload_n hx hb d_M_fieldCount_12 rfl (lv_at hl 0 rfl) ?_
    refine gc_l (wn := fun (_ : Unit) => [oM a_p0 A_p0 I_p0_3, gz cI (A_p0 13) 8 f_p0_dirs_3, gz cI (A_p0 0) 2000 f_p0_file]) (wr := [gz cI (A_p0 13) 8 f_p0_dirs_3]) (gr_V (As := [.int r3]) (rest := []) ⟨hx, hb, hml, hown, hg⟩ (c_M_values l dC dI cI a_p0 A_p0 I_p0_3 f_p0_file r3 hw _) (cwV 1 hg (gg_V t_927 t_929 t_31 t_71 t_930) rfl rfl rfl (by decide +kernel) ⟨Nat.le_of_ble_eq_true rfl, Nat.le_of_ble_eq_true rfl⟩) hK hN hP hD [0, 2] (by decide) rfl 0 10 rfl rfl rfl rfl hl.1 rfl (Nat.le_of_ble_eq_true rfl) d_M_fieldCount_13 ⟨Nat.le_of_ble_eq_true rfl, Nat.le_of_ble_eq_true rfl⟩) rfl rfl hP hD hS hA [0, 2] [1] [1, 0, 2] rfl rfl (by decide) (by decide) (by decide) (fun _ => rfl) ?_
    intro r13 _ H locs hw hP hD hS
    try dsimp only at hw
    have hP : va_P (dC, dI) vwCl [oM a_p0 A_p0 I_p0_3, gz cI (A_p0 13) 8 f_p0_dirs_3, gz cI (A_p0 0) 2000 f_p0_file] H := hP
    have hD : va_D A [oM a_p0 A_p0 I_p0_3, gz cI (A_p0 13) 8 f_p0_dirs_3, gz cI (A_p0 0) 2000 f_p0_file] := hD
    refine lv_lconst (v := 0) hx hb d_M_fieldCount_16 (by decide) ?_
    refine W.lcmp hx hb d_M_fieldCount_17 ?_
    refine lv_if_ge hx hb d_M_fieldCount_18 rfl (fun hc => ?_) (fun hc => ?_)
    · have hw := hw.1 ((lg_cmp_ge _ _).mp hc)
      refine lv_aload_n hx hb d_M_fieldCount_27 rfl (lv_at hl 1 rfl) ?_
      refine lv_iload_n hx hb d_M_fieldCount_28 rfl (lv_at hl 0 rfl) ?_
      refine lv_iconst (v := 4) hx hb d_M_fieldCount_29 (by decide) ?_
      refine lv_iadd hx hb d_M_fieldCount_30 ?_
      refine lv_iconst (v := 4) hx hb d_M_fieldCount_31 (by decide) ?_
      refine gc_l (wn := fun (_ : Unit) => [oM a_p0 A_p0 I_p0_3, gz cI (A_p0 13) 8 f_p0_dirs_3, gz cI (A_p0 0) 2000 f_p0_file]) (wr := [gz cI (A_p0 13) 8 f_p0_dirs_3]) (gr_V (As := [.int (r3 + 4), .int 4]) (rest := []) ⟨hx, hb, hml, hown, hg⟩ (c_M_read l dC dI cI a_p0 A_p0 I_p0_3 f_p0_file (r3 + 4) 4 hw _) (cwV 2 hg (gg_V t_901 t_903 t_28 t_71 t_904) rfl rfl rfl (by decide +kernel) ⟨Nat.le_of_ble_eq_true rfl, Nat.le_of_ble_eq_true rfl⟩) hK hN hP hD [0, 2] (by decide) rfl 0 10 rfl rfl rfl rfl hl.1 rfl (Nat.le_of_ble_eq_true rfl) d_M_fieldCount_32 ⟨Nat.le_of_ble_eq_true rfl, Nat.le_of_ble_eq_true rfl⟩) rfl rfl hP hD hS hA [0, 2] [1] [1, 0, 2] rfl rfl (by decide) (by decide) (by decide) (fun _ => rfl) ?_
      intro r32 _ H locs hw hP hD hS
      try dsimp only at hw
      have hP : va_P (dC, dI) vwCl [oM a_p0 A_p0 I_p0_3, gz cI (A_p0 13) 8 f_p0_dirs_3, gz cI (A_p0 0) 2000 f_p0_file] H := hP
      have hD : va_D A [oM a_p0 A_p0 I_p0_3, gz cI (A_p0 13) 8 f_p0_dirs_3, gz cI (A_p0 0) 2000 f_p0_file] := hD
      exact hret _ _ _ _ _ (I_p0_3, f_p0_dirs_3) d_M_fieldCount_35 hP hD hS hw
    · have hw := hw.2 (fun h9 => hc ((lg_cmp_ge _ _).mpr h9))
      exact b21 _ _ _ I_p0_3 f_p0_dirs_3 hP hD hS (lv_sub hl [] rfl) hw
theorem d_M_good_0 : decode b_M_good 0 = .ok (.aload_n 0, 1) := by decide +kernel
theorem d_M_good_1 : decode b_M_good 1 = .ok (.iload_n 1, 1) := by decide +kernel
theorem d_M_good_2 : decode b_M_good 2 = .ok (.iload_n 2, 1) := by decide +kernel
theorem d_M_good_3 : decode b_M_good 3 = .ok (.invokevirtual 113, 3) := by decide +kernel
theorem d_M_good_6 : decode b_M_good 6 = .ok (.istore 5, 2) := by decide +kernel
theorem d_M_good_8 : decode b_M_good 8 = .ok (.iload 5, 2) := by decide +kernel
theorem d_M_good_10 : decode b_M_good 10 = .ok (.ifCond .lt 38, 3) := by decide +kernel
theorem d_M_good_13 : decode b_M_good 13 = .ok (.aload_n 0, 1) := by decide +kernel
theorem d_M_good_14 : decode b_M_good 14 = .ok (.iload 5, 2) := by decide +kernel
theorem d_M_good_16 : decode b_M_good 16 = .ok (.invokevirtual 105, 3) := by decide +kernel
theorem d_M_good_19 : decode b_M_good 19 = .ok (.iconst 2, 1) := by decide +kernel
theorem d_M_good_20 : decode b_M_good 20 = .ok (.if_icmp .lt 28, 3) := by decide +kernel
theorem d_M_good_23 : decode b_M_good 23 = .ok (.aload_n 0, 1) := by decide +kernel
theorem d_M_good_24 : decode b_M_good 24 = .ok (.iload 5, 2) := by decide +kernel
theorem d_M_good_26 : decode b_M_good 26 = .ok (.invokevirtual 117, 3) := by decide +kernel
theorem d_M_good_29 : decode b_M_good 29 = .ok (.lconst 0, 1) := by decide +kernel
theorem d_M_good_30 : decode b_M_good 30 = .ok (.lcmp, 1) := by decide +kernel
theorem d_M_good_31 : decode b_M_good 31 = .ok (.ifCond .lt 17, 3) := by decide +kernel
theorem d_M_good_34 : decode b_M_good 34 = .ok (.aload_n 0, 1) := by decide +kernel
theorem d_M_good_35 : decode b_M_good 35 = .ok (.iload 5, 2) := by decide +kernel
theorem d_M_good_37 : decode b_M_good 37 = .ok (.iconst 4, 1) := by decide +kernel
theorem d_M_good_38 : decode b_M_good 38 = .ok (.iadd, 1) := by decide +kernel
theorem d_M_good_39 : decode b_M_good 39 = .ok (.iconst 4, 1) := by decide +kernel
theorem d_M_good_40 : decode b_M_good 40 = .ok (.invokevirtual 78, 3) := by decide +kernel
theorem d_M_good_43 : decode b_M_good 43 = .ok (.lload_n 3, 1) := by decide +kernel
theorem d_M_good_44 : decode b_M_good 44 = .ok (.lcmp, 1) := by decide +kernel
theorem d_M_good_45 : decode b_M_good 45 = .ok (.ifCond .eq 7, 3) := by decide +kernel
theorem d_M_good_48 : decode b_M_good 48 = .ok (.iconst (-1), 1) := by decide +kernel
theorem d_M_good_49 : decode b_M_good 49 = .ok (.goto 5, 3) := by decide +kernel
theorem d_M_good_52 : decode b_M_good 52 = .ok (.iload 5, 2) := by decide +kernel
theorem d_M_good_54 : decode b_M_good 54 = .ok (.ireturn, 1) := by decide +kernel
def wp_M_good_b48 (post : Int32 → (Nat → Int32) → (Nat → Int32) → Prop) (f_p0_file : Nat → Int32) (I_p0 : Nat → Int32) (f_p0_dirs : Nat → Int32) : Prop :=
  post (-1) I_p0 f_p0_dirs
def wp_M_good (post : Int32 → (Nat → Int32) → (Nat → Int32) → Prop) (f_p0_file : Nat → Int32) (I_p0 : Nat → Int32) (f_p0_dirs : Nat → Int32) (x1 : Int32) (x2 : Int32) (x3 : Int64) : Prop :=
  wp_M_entry (fun (r3 : Int32) (I_p0_3 : Nat → Int32) (f_p0_dirs_3 : Nat → Int32) =>
    ((r3 < 0 →
      wp_M_good_b48 post f_p0_file I_p0_3 f_p0_dirs_3) ∧
     (¬ r3 < 0 →
      wp_M_unit (fun (r16 : Int32) =>
        ((r16 < 2 →
          wp_M_good_b48 post f_p0_file I_p0_3 f_p0_dirs_3) ∧
         (¬ r16 < 2 →
          wp_M_values (fun (r26 : Int64) =>
            ((r26 < 0 →
              wp_M_good_b48 post f_p0_file I_p0_3 f_p0_dirs_3) ∧
             (¬ r26 < 0 →
              wp_M_read (fun (r40 : Int64) =>
                ((r40 = x3 →
                  post r3 I_p0_3 f_p0_dirs_3) ∧
                 (¬ r40 = x3 →
                  wp_M_good_b48 post f_p0_file I_p0_3 f_p0_dirs_3))) I_p0_3 f_p0_file (r3 + 4) 4))) I_p0_3 f_p0_file r3))) I_p0_3 f_p0_file r3))) f_p0_file I_p0 f_p0_dirs x1 x2
set_option maxRecDepth 100000 in
set_option maxHeartbeats 4000000 in
theorem c_M_good (l : Launch) (dC : Nat → ClassId) (dI : Nat → Nat → Nat) (cI : ClassId) (a_p0 : Nat) (A_p0 : Nat → Nat) (f_p0_file : Nat → Int32) (I_p0 : Nat → Int32) (f_p0_dirs : Nat → Int32) (x1 : Int32) (x2 : Int32) (x3 : Int64) {post : Int32 → (Nat → Int32) → (Nat → Int32) → Prop} (hw : wp_M_good post f_p0_file I_p0 f_p0_dirs x1 x2 x3) : gm_i l y_M_good ws_M_good ({ frames := 4, cells := 0, slots := 0, locals := 99 } : Room) (dC, dI) vwCl [(cI, .int)] [.ref a_p0, .int x1, .int x2, .long x3] [oM a_p0 A_p0 I_p0, gz cI (A_p0 13) 8 f_p0_dirs, gz cI (A_p0 0) 2000 f_p0_file] (fun (u : (Nat → Int32) × (Nat → Int32)) => [oM a_p0 A_p0 u.1, gz cI (A_p0 13) 8 u.2, gz cI (A_p0 0) 2000 f_p0_file]) (fun (r : Int32) (u : (Nat → Int32) × (Nat → Int32)) => post r u.1 u.2) := by
  refine gm_iof (cc := b_M_good) (maxL := 6) (ty := .int) (by decide) rfl (Nat.le_of_ble_eq_true rfl) ?_
  intro p e s m args below meth c A Q hx hb hml hown hg hK hN hA hret
  have hown : s.vm.findClass R_M = some m.cls := hown
  have b48 : ∀ (H : Heap) (locs : List Loc) (ls : Array Slot) (I_p0 : Nat → Int32) (f_p0_dirs : Nat → Int32), va_P (dC, dI) vwCl [oM a_p0 A_p0 I_p0, gz cI (A_p0 13) 8 f_p0_dirs, gz cI (A_p0 0) 2000 f_p0_file] H → va_D A [oM a_p0 A_p0 I_p0, gz cI (A_p0 13) 8 f_p0_dirs, gz cI (A_p0 0) 2000 f_p0_file] → va_S A s.heap H locs → lv_has ls 6 [] → wp_M_good_b48 post f_p0_file I_p0 f_p0_dirs → W p l e ({ frames := 4, cells := 0, slots := 0, locals := 99 } : Room) s m args below meth c H locs 0 0 Q (F0 m 48 ls []) := by
    intro H locs ls I_p0 f_p0_dirs hP hD hS hl hw
    unfold wp_M_good_b48 at hw
    refine lv_iconst (v := (-1)) hx hb d_M_good_48 (by decide) ?_
    refine lv_goto hx hb d_M_good_49 rfl ?_
    exact hret _ _ _ _ _ (I_p0, f_p0_dirs) d_M_good_54 rfl hP hD hS hw
  intro ls hl hP hD hS
  have hl : lv_has ls 6 [(0, .ref a_p0), (1, .int x1), (2, .int x2), (3, .long x3)] := hl
  unfold wp_M_good at hw
  refine lv_aload_n hx hb d_M_good_0 rfl (lv_at hl 0 rfl) ?_
  refine lv_iload_n hx hb d_M_good_1 rfl (lv_at hl 1 rfl) ?_
  refine lv_iload_n hx hb d_M_good_2 rfl (lv_at hl 2 rfl) ?_
  refine gc_i (wn := fun u => [oM a_p0 A_p0 u.1, gz cI (A_p0 13) 8 u.2, gz cI (A_p0 0) 2000 f_p0_file]) (wr := []) (gr_V (As := [.int x1, .int x2]) (rest := []) ⟨hx, hb, hml, hown, hg⟩ (c_M_entry l dC dI cI a_p0 A_p0 f_p0_file I_p0 f_p0_dirs x1 x2 hw _) (cwV 2 hg (gg_V t_923 t_925 t_30 t_71 t_926) rfl rfl rfl (by decide +kernel) ⟨Nat.le_of_ble_eq_true rfl, Nat.le_of_ble_eq_true rfl⟩) hK hN hP hD [0, 1, 2] (by decide) rfl 0 10 rfl rfl rfl rfl hl.1 rfl (Nat.le_of_ble_eq_true rfl) d_M_good_3 ⟨Nat.le_of_ble_eq_true rfl, Nat.le_of_ble_eq_true rfl⟩) rfl rfl hP hD hS hA [0, 1, 2] [] [0, 1, 2] rfl rfl (by decide) (by decide) (by decide) (fun _ => rfl) ?_
  intro r3 u9 H locs hw hP hD hS
  obtain ⟨I_p0_3, f_p0_dirs_3⟩ := u9
  try dsimp only at hw
  have hP : va_P (dC, dI) vwCl [oM a_p0 A_p0 I_p0_3, gz cI (A_p0 13) 8 f_p0_dirs_3, gz cI (A_p0 0) 2000 f_p0_file] H := hP
  have hD : va_D A [oM a_p0 A_p0 I_p0_3, gz cI (A_p0 13) 8 f_p0_dirs_3, gz cI (A_p0 0) 2000 f_p0_file] := hD
  refine lv_istore (lv' := [(5, .int r3), (0, .ref a_p0), (1, .int x1), (2, .int x2), (3, .long x3)]) hx hb d_M_good_6 hl (by decide) rfl (fun ls hl => ?_)
  refine lv_iload hx hb d_M_good_8 (lv_at hl 0 rfl) ?_
  refine lv_if_lt hx hb d_M_good_10 rfl (fun hc => ?_) (fun hc => ?_)
  · have hw := hw.1 hc
    exact b48 _ _ _ I_p0_3 f_p0_dirs_3 hP hD hS (lv_sub hl [] rfl) hw
  · have hw := hw.2 hc
    refine lv_aload_n hx hb d_M_good_13 rfl (lv_at hl 1 rfl) ?_
    refine lv_iload hx hb d_M_good_14 (lv_at hl 0 rfl) ?_
    refine gc_i (wn := fun (_ : Unit) => [oM a_p0 A_p0 I_p0_3, gz cI (A_p0 13) 8 f_p0_dirs_3, gz cI (A_p0 0) 2000 f_p0_file]) (wr := [gz cI (A_p0 13) 8 f_p0_dirs_3]) (gr_V (As := [.int r3]) (rest := []) ⟨hx, hb, hml, hown, hg⟩ (c_M_unit l dC dI cI a_p0 A_p0 I_p0_3 f_p0_file r3 hw _) (cwV 1 hg (gg_V t_931 t_933 t_32 t_71 t_934) rfl rfl rfl (by decide +kernel) ⟨Nat.le_of_ble_eq_true rfl, Nat.le_of_ble_eq_true rfl⟩) hK hN hP hD [0, 2] (by decide) rfl 0 10 rfl rfl rfl rfl hl.1 rfl (Nat.le_of_ble_eq_true rfl) d_M_good_16 ⟨Nat.le_of_ble_eq_true rfl, Nat.le_of_ble_eq_true rfl⟩) rfl rfl hP hD hS hA [0, 2] [1] [1, 0, 2] rfl rfl (by decide) (by decide) (by decide) (fun _ => rfl) ?_
    intro r16 _ H locs hw hP hD hS
    try dsimp only at hw
    have hP : va_P (dC, dI) vwCl [oM a_p0 A_p0 I_p0_3, gz cI (A_p0 13) 8 f_p0_dirs_3, gz cI (A_p0 0) 2000 f_p0_file] H := hP
    have hD : va_D A [oM a_p0 A_p0 I_p0_3, gz cI (A_p0 13) 8 f_p0_dirs_3, gz cI (A_p0 0) 2000 f_p0_file] := hD
    refine lv_iconst (v := 2) hx hb d_M_good_19 (by decide) ?_
    refine lv_icmp_lt hx hb d_M_good_20 rfl (fun hc => ?_) (fun hc => ?_)
    · have hw := hw.1 hc
      exact b48 _ _ _ I_p0_3 f_p0_dirs_3 hP hD hS (lv_sub hl [] rfl) hw
    · have hw := hw.2 hc
      refine lv_aload_n hx hb d_M_good_23 rfl (lv_at hl 1 rfl) ?_
      refine lv_iload hx hb d_M_good_24 (lv_at hl 0 rfl) ?_
      refine gc_l (wn := fun (_ : Unit) => [oM a_p0 A_p0 I_p0_3, gz cI (A_p0 13) 8 f_p0_dirs_3, gz cI (A_p0 0) 2000 f_p0_file]) (wr := [gz cI (A_p0 13) 8 f_p0_dirs_3]) (gr_V (As := [.int r3]) (rest := []) ⟨hx, hb, hml, hown, hg⟩ (c_M_values l dC dI cI a_p0 A_p0 I_p0_3 f_p0_file r3 hw _) (cwV 1 hg (gg_V t_927 t_929 t_31 t_71 t_930) rfl rfl rfl (by decide +kernel) ⟨Nat.le_of_ble_eq_true rfl, Nat.le_of_ble_eq_true rfl⟩) hK hN hP hD [0, 2] (by decide) rfl 0 10 rfl rfl rfl rfl hl.1 rfl (Nat.le_of_ble_eq_true rfl) d_M_good_26 ⟨Nat.le_of_ble_eq_true rfl, Nat.le_of_ble_eq_true rfl⟩) rfl rfl hP hD hS hA [0, 2] [1] [1, 0, 2] rfl rfl (by decide) (by decide) (by decide) (fun _ => rfl) ?_
      intro r26 _ H locs hw hP hD hS
      try dsimp only at hw
      have hP : va_P (dC, dI) vwCl [oM a_p0 A_p0 I_p0_3, gz cI (A_p0 13) 8 f_p0_dirs_3, gz cI (A_p0 0) 2000 f_p0_file] H := hP
      have hD : va_D A [oM a_p0 A_p0 I_p0_3, gz cI (A_p0 13) 8 f_p0_dirs_3, gz cI (A_p0 0) 2000 f_p0_file] := hD
      refine lv_lconst (v := 0) hx hb d_M_good_29 (by decide) ?_
      refine W.lcmp hx hb d_M_good_30 ?_
      refine lv_if_lt hx hb d_M_good_31 rfl (fun hc => ?_) (fun hc => ?_)
      · have hw := hw.1 ((lg_cmp_lt _ _).mp hc)
        exact b48 _ _ _ I_p0_3 f_p0_dirs_3 hP hD hS (lv_sub hl [] rfl) hw
      · have hw := hw.2 (fun h9 => hc ((lg_cmp_lt _ _).mpr h9))
        refine lv_aload_n hx hb d_M_good_34 rfl (lv_at hl 1 rfl) ?_
        refine lv_iload hx hb d_M_good_35 (lv_at hl 0 rfl) ?_
        refine lv_iconst (v := 4) hx hb d_M_good_37 (by decide) ?_
        refine lv_iadd hx hb d_M_good_38 ?_
        refine lv_iconst (v := 4) hx hb d_M_good_39 (by decide) ?_
        refine gc_l (wn := fun (_ : Unit) => [oM a_p0 A_p0 I_p0_3, gz cI (A_p0 13) 8 f_p0_dirs_3, gz cI (A_p0 0) 2000 f_p0_file]) (wr := [gz cI (A_p0 13) 8 f_p0_dirs_3]) (gr_V (As := [.int (r3 + 4), .int 4]) (rest := []) ⟨hx, hb, hml, hown, hg⟩ (c_M_read l dC dI cI a_p0 A_p0 I_p0_3 f_p0_file (r3 + 4) 4 hw _) (cwV 2 hg (gg_V t_901 t_903 t_28 t_71 t_904) rfl rfl rfl (by decide +kernel) ⟨Nat.le_of_ble_eq_true rfl, Nat.le_of_ble_eq_true rfl⟩) hK hN hP hD [0, 2] (by decide) rfl 0 10 rfl rfl rfl rfl hl.1 rfl (Nat.le_of_ble_eq_true rfl) d_M_good_40 ⟨Nat.le_of_ble_eq_true rfl, Nat.le_of_ble_eq_true rfl⟩) rfl rfl hP hD hS hA [0, 2] [1] [1, 0, 2] rfl rfl (by decide) (by decide) (by decide) (fun _ => rfl) ?_
        intro r40 _ H locs hw hP hD hS
        try dsimp only at hw
        have hP : va_P (dC, dI) vwCl [oM a_p0 A_p0 I_p0_3, gz cI (A_p0 13) 8 f_p0_dirs_3, gz cI (A_p0 0) 2000 f_p0_file] H := hP
        have hD : va_D A [oM a_p0 A_p0 I_p0_3, gz cI (A_p0 13) 8 f_p0_dirs_3, gz cI (A_p0 0) 2000 f_p0_file] := hD
        refine lv_lload_n hx hb d_M_good_43 rfl (lv_at hl 4 rfl) ?_
        refine W.lcmp hx hb d_M_good_44 ?_
        refine lv_if_eq hx hb d_M_good_45 rfl (fun hc => ?_) (fun hc => ?_)
        · have hw := hw.1 ((lg_cmp_eq _ _).mp hc)
          refine lv_iload hx hb d_M_good_52 (lv_at hl 0 rfl) ?_
          exact hret _ _ _ _ _ (I_p0_3, f_p0_dirs_3) d_M_good_54 rfl hP hD hS hw
        · have hw := hw.2 (fun h9 => hc ((lg_cmp_eq _ _).mpr h9))
          exact b48 _ _ _ I_p0_3 f_p0_dirs_3 hP hD hS (lv_sub hl [] rfl) hw
theorem d_M_one_0 : decode b_M_one 0 = .ok (.aload_n 0, 1) := by decide +kernel
theorem d_M_one_1 : decode b_M_one 1 = .ok (.iload_n 1, 1) := by decide +kernel
theorem d_M_one_2 : decode b_M_one 2 = .ok (.iload_n 2, 1) := by decide +kernel
theorem d_M_one_3 : decode b_M_one 3 = .ok (.lconst 1, 1) := by decide +kernel
theorem d_M_one_4 : decode b_M_one 4 = .ok (.invokevirtual 193, 3) := by decide +kernel
theorem d_M_one_7 : decode b_M_one 7 = .ok (.ifCond .ge 9, 3) := by decide +kernel
theorem d_M_one_10 : decode b_M_one 10 = .ok (.ldc2_w 109, 3) := by decide +kernel
theorem d_M_one_13 : decode b_M_one 13 = .ok (.goto 10, 3) := by decide +kernel
theorem d_M_one_16 : decode b_M_one 16 = .ok (.aload_n 0, 1) := by decide +kernel
theorem d_M_one_17 : decode b_M_one 17 = .ok (.iload_n 1, 1) := by decide +kernel
theorem d_M_one_18 : decode b_M_one 18 = .ok (.iload_n 2, 1) := by decide +kernel
theorem d_M_one_19 : decode b_M_one 19 = .ok (.iconst 0, 1) := by decide +kernel
theorem d_M_one_20 : decode b_M_one 20 = .ok (.invokevirtual 197, 3) := by decide +kernel
theorem d_M_one_23 : decode b_M_one 23 = .ok (.lreturn, 1) := by decide +kernel
def wp_M_one (post : Int64 → (Nat → Int32) → (Nat → Int32) → Prop) (f_p0_file : Nat → Int32) (I_p0 : Nat → Int32) (f_p0_dirs : Nat → Int32) (x1 : Int32) (x2 : Int32) : Prop :=
  wp_M_good (fun (r4 : Int32) (I_p0_4 : Nat → Int32) (f_p0_dirs_4 : Nat → Int32) =>
    ((0 ≤ r4 →
      wp_M_field (fun (r20 : Int64) (I_p0_20 : Nat → Int32) (f_p0_dirs_20 : Nat → Int32) =>
        post r20 I_p0_20 f_p0_dirs_20) f_p0_file I_p0_4 f_p0_dirs_4 x1 x2 0) ∧
     (¬ 0 ≤ r4 →
      post (-1) I_p0_4 f_p0_dirs_4))) f_p0_file I_p0 f_p0_dirs x1 x2 1
set_option maxRecDepth 100000 in
set_option maxHeartbeats 4000000 in
theorem c_M_one (l : Launch) (dC : Nat → ClassId) (dI : Nat → Nat → Nat) (cI : ClassId) (a_p0 : Nat) (A_p0 : Nat → Nat) (f_p0_file : Nat → Int32) (I_p0 : Nat → Int32) (f_p0_dirs : Nat → Int32) (x1 : Int32) (x2 : Int32) {post : Int64 → (Nat → Int32) → (Nat → Int32) → Prop} (hw : wp_M_one post f_p0_file I_p0 f_p0_dirs x1 x2) : gm_l l y_M_one ws_M_one ({ frames := 5, cells := 0, slots := 0, locals := 124 } : Room) (dC, dI) vwCl [(cI, .int)] [.ref a_p0, .int x1, .int x2] [oM a_p0 A_p0 I_p0, gz cI (A_p0 13) 8 f_p0_dirs, gz cI (A_p0 0) 2000 f_p0_file] (fun (u : (Nat → Int32) × (Nat → Int32)) => [oM a_p0 A_p0 u.1, gz cI (A_p0 13) 8 u.2, gz cI (A_p0 0) 2000 f_p0_file]) (fun (r : Int64) (u : (Nat → Int32) × (Nat → Int32)) => post r u.1 u.2) := by
  refine gm_lof (cc := b_M_one) (maxL := 3) (by decide) rfl (Nat.le_of_ble_eq_true rfl) ?_
  intro p e s m args below meth c A Q hx hb hml hown hg hK hN hA hret
  have hown : s.vm.findClass R_M = some m.cls := hown
  intro ls hl hP hD hS
  have hl : lv_has ls 3 [(0, .ref a_p0), (1, .int x1), (2, .int x2)] := hl
  unfold wp_M_one at hw
  refine lv_aload_n hx hb d_M_one_0 rfl (lv_at hl 0 rfl) ?_
  refine lv_iload_n hx hb d_M_one_1 rfl (lv_at hl 1 rfl) ?_
  refine lv_iload_n hx hb d_M_one_2 rfl (lv_at hl 2 rfl) ?_
  refine lv_lconst (v := 1) hx hb d_M_one_3 (by decide) ?_
  refine gc_i (wn := fun u => [oM a_p0 A_p0 u.1, gz cI (A_p0 13) 8 u.2, gz cI (A_p0 0) 2000 f_p0_file]) (wr := []) (gr_V (As := [.int x1, .int x2, .long 1]) (rest := []) ⟨hx, hb, hml, hown, hg⟩ (c_M_good l dC dI cI a_p0 A_p0 f_p0_file I_p0 f_p0_dirs x1 x2 1 hw _) (cwV 3 hg (gg_V t_1028 t_1030 t_51 t_71 t_1031) rfl rfl rfl (by decide +kernel) ⟨Nat.le_of_ble_eq_true rfl, Nat.le_of_ble_eq_true rfl⟩) hK hN hP hD [0, 1, 2] (by decide) rfl 0 10 rfl rfl rfl rfl hl.1 rfl (Nat.le_of_ble_eq_true rfl) d_M_one_4 ⟨Nat.le_of_ble_eq_true rfl, Nat.le_of_ble_eq_true rfl⟩) rfl rfl hP hD hS hA [0, 1, 2] [] [0, 1, 2] rfl rfl (by decide) (by decide) (by decide) (fun _ => rfl) ?_
  intro r4 u9 H locs hw hP hD hS
  obtain ⟨I_p0_4, f_p0_dirs_4⟩ := u9
  try dsimp only at hw
  have hP : va_P (dC, dI) vwCl [oM a_p0 A_p0 I_p0_4, gz cI (A_p0 13) 8 f_p0_dirs_4, gz cI (A_p0 0) 2000 f_p0_file] H := hP
  have hD : va_D A [oM a_p0 A_p0 I_p0_4, gz cI (A_p0 13) 8 f_p0_dirs_4, gz cI (A_p0 0) 2000 f_p0_file] := hD
  refine lv_if_ge hx hb d_M_one_7 rfl (fun hc => ?_) (fun hc => ?_)
  · have hw := hw.1 hc
    refine lv_aload_n hx hb d_M_one_16 rfl (lv_at hl 0 rfl) ?_
    refine lv_iload_n hx hb d_M_one_17 rfl (lv_at hl 1 rfl) ?_
    refine lv_iload_n hx hb d_M_one_18 rfl (lv_at hl 2 rfl) ?_
    refine lv_iconst (v := 0) hx hb d_M_one_19 (by decide) ?_
    refine gc_l (wn := fun u => [oM a_p0 A_p0 u.1, gz cI (A_p0 13) 8 u.2, gz cI (A_p0 0) 2000 f_p0_file]) (wr := []) (gr_V (As := [.int x1, .int x2, .int 0]) (rest := []) ⟨hx, hb, hml, hown, hg⟩ (c_M_field l dC dI cI a_p0 A_p0 f_p0_file I_p0_4 f_p0_dirs_4 x1 x2 0 hw _) (cwV 3 hg (gg_V t_1032 t_920 t_921 t_71 t_922) rfl rfl rfl (by decide +kernel) ⟨Nat.le_of_ble_eq_true rfl, Nat.le_of_ble_eq_true rfl⟩) hK hN hP hD [0, 1, 2] (by decide) rfl 0 10 rfl rfl rfl rfl hl.1 rfl (Nat.le_of_ble_eq_true rfl) d_M_one_20 ⟨Nat.le_of_ble_eq_true rfl, Nat.le_of_ble_eq_true rfl⟩) rfl rfl hP hD hS hA [0, 1, 2] [] [0, 1, 2] rfl rfl (by decide) (by decide) (by decide) (fun _ => rfl) ?_
    intro r20 u9 H locs hw hP hD hS
    obtain ⟨I_p0_20, f_p0_dirs_20⟩ := u9
    try dsimp only at hw
    have hP : va_P (dC, dI) vwCl [oM a_p0 A_p0 I_p0_20, gz cI (A_p0 13) 8 f_p0_dirs_20, gz cI (A_p0 0) 2000 f_p0_file] H := hP
    have hD : va_D A [oM a_p0 A_p0 I_p0_20, gz cI (A_p0 13) 8 f_p0_dirs_20, gz cI (A_p0 0) 2000 f_p0_file] := hD
    exact hret _ _ _ _ _ (I_p0_20, f_p0_dirs_20) d_M_one_23 hP hD hS hw
  · have hw := hw.2 hc
    refine lv_ldc2 (v := (-1)) hx hb hown (hg _ t_935) d_M_one_10 ?_
    refine lv_goto hx hb d_M_one_13 rfl ?_
    exact hret _ _ _ _ _ (I_p0_4, f_p0_dirs_4) d_M_one_23 hP hD hS hw
theorem d_M_rising_0 : decode b_M_rising 0 = .ok (.aload_n 0, 1) := by decide +kernel
theorem d_M_rising_1 : decode b_M_rising 1 = .ok (.aload_n 0, 1) := by decide +kernel
theorem d_M_rising_2 : decode b_M_rising 2 = .ok (.getfield 35, 3) := by decide +kernel
theorem d_M_rising_5 : decode b_M_rising 5 = .ok (.iload_n 1, 1) := by decide +kernel
theorem d_M_rising_6 : decode b_M_rising 6 = .ok (.iaload, 1) := by decide +kernel
theorem d_M_rising_7 : decode b_M_rising 7 = .ok (.iconst 2, 1) := by decide +kernel
theorem d_M_rising_8 : decode b_M_rising 8 = .ok (.invokevirtual 78, 3) := by decide +kernel
theorem d_M_rising_11 : decode b_M_rising 11 = .ok (.l2i, 1) := by decide +kernel
theorem d_M_rising_12 : decode b_M_rising 12 = .ok (.istore_n 2, 1) := by decide +kernel
theorem d_M_rising_13 : decode b_M_rising 13 = .ok (.iconst 1, 1) := by decide +kernel
theorem d_M_rising_14 : decode b_M_rising 14 = .ok (.istore_n 3, 1) := by decide +kernel
theorem d_M_rising_15 : decode b_M_rising 15 = .ok (.iload_n 3, 1) := by decide +kernel
theorem d_M_rising_16 : decode b_M_rising 16 = .ok (.iload_n 2, 1) := by decide +kernel
theorem d_M_rising_17 : decode b_M_rising 17 = .ok (.if_icmp .ge 52, 3) := by decide +kernel
theorem d_M_rising_20 : decode b_M_rising 20 = .ok (.aload_n 0, 1) := by decide +kernel
theorem d_M_rising_21 : decode b_M_rising 21 = .ok (.aload_n 0, 1) := by decide +kernel
theorem d_M_rising_22 : decode b_M_rising 22 = .ok (.getfield 35, 3) := by decide +kernel
theorem d_M_rising_25 : decode b_M_rising 25 = .ok (.iload_n 1, 1) := by decide +kernel
theorem d_M_rising_26 : decode b_M_rising 26 = .ok (.iaload, 1) := by decide +kernel
theorem d_M_rising_27 : decode b_M_rising 27 = .ok (.iconst 2, 1) := by decide +kernel
theorem d_M_rising_28 : decode b_M_rising 28 = .ok (.iadd, 1) := by decide +kernel
theorem d_M_rising_29 : decode b_M_rising 29 = .ok (.bipush 12, 2) := by decide +kernel
theorem d_M_rising_31 : decode b_M_rising 31 = .ok (.iload_n 3, 1) := by decide +kernel
theorem d_M_rising_32 : decode b_M_rising 32 = .ok (.imul, 1) := by decide +kernel
theorem d_M_rising_33 : decode b_M_rising 33 = .ok (.iadd, 1) := by decide +kernel
theorem d_M_rising_34 : decode b_M_rising 34 = .ok (.iconst 2, 1) := by decide +kernel
theorem d_M_rising_35 : decode b_M_rising 35 = .ok (.invokevirtual 78, 3) := by decide +kernel
theorem d_M_rising_38 : decode b_M_rising 38 = .ok (.aload_n 0, 1) := by decide +kernel
theorem d_M_rising_39 : decode b_M_rising 39 = .ok (.aload_n 0, 1) := by decide +kernel
theorem d_M_rising_40 : decode b_M_rising 40 = .ok (.getfield 35, 3) := by decide +kernel
theorem d_M_rising_43 : decode b_M_rising 43 = .ok (.iload_n 1, 1) := by decide +kernel
theorem d_M_rising_44 : decode b_M_rising 44 = .ok (.iaload, 1) := by decide +kernel
theorem d_M_rising_45 : decode b_M_rising 45 = .ok (.bipush 12, 2) := by decide +kernel
theorem d_M_rising_47 : decode b_M_rising 47 = .ok (.iload_n 3, 1) := by decide +kernel
theorem d_M_rising_48 : decode b_M_rising 48 = .ok (.imul, 1) := by decide +kernel
theorem d_M_rising_49 : decode b_M_rising 49 = .ok (.iadd, 1) := by decide +kernel
theorem d_M_rising_50 : decode b_M_rising 50 = .ok (.bipush 10, 2) := by decide +kernel
theorem d_M_rising_52 : decode b_M_rising 52 = .ok (.isub, 1) := by decide +kernel
theorem d_M_rising_53 : decode b_M_rising 53 = .ok (.iconst 2, 1) := by decide +kernel
theorem d_M_rising_54 : decode b_M_rising 54 = .ok (.invokevirtual 78, 3) := by decide +kernel
theorem d_M_rising_57 : decode b_M_rising 57 = .ok (.lcmp, 1) := by decide +kernel
theorem d_M_rising_58 : decode b_M_rising 58 = .ok (.ifCond .gt 5, 3) := by decide +kernel
theorem d_M_rising_61 : decode b_M_rising 61 = .ok (.iconst 0, 1) := by decide +kernel
theorem d_M_rising_62 : decode b_M_rising 62 = .ok (.ireturn, 1) := by decide +kernel
theorem d_M_rising_63 : decode b_M_rising 63 = .ok (.iinc 3 1, 3) := by decide +kernel
theorem d_M_rising_66 : decode b_M_rising 66 = .ok (.goto (-51), 3) := by decide +kernel
theorem d_M_rising_69 : decode b_M_rising 69 = .ok (.iconst 1, 1) := by decide +kernel
theorem d_M_rising_70 : decode b_M_rising 70 = .ok (.ireturn, 1) := by decide +kernel
def wp_M_rising_l15 (post : Int32 → Prop) (I_p0 : Nat → Int32) (f_p0_dirs : Nat → Int32) (f_p0_file : Nat → Int32) : Nat → Int32 → Int32 → Int32 → Prop
  | 0, _, _, _ => False
  | n + 1, x1, x2, x3 =>
    ((x2 ≤ x3 →
      post 1) ∧
     (¬ x2 ≤ x3 →
      vp_in x1 8 ∧
      wp_M_read (fun (r35 : Int64) =>
        vp_in x1 8 ∧
        wp_M_read (fun (r54 : Int64) =>
          ((r54 < r35 →
            wp_M_rising_l15 post I_p0 f_p0_dirs f_p0_file n x1 x2 (x3 + 1)) ∧
           (¬ r54 < r35 →
            post 0))) I_p0 f_p0_file (((f_p0_dirs (x1).toNatClampNeg) + (12 * x3)) - 10) 2) I_p0 f_p0_file (((f_p0_dirs (x1).toNatClampNeg) + 2) + (12 * x3)) 2))
def wp_M_rising (post : Int32 → Prop) (I_p0 : Nat → Int32) (f_p0_dirs : Nat → Int32) (f_p0_file : Nat → Int32) (x1 : Int32) : Prop :=
  vp_in x1 8 ∧
  wp_M_read (fun (r8 : Int64) =>
    (∃ n1 : Nat, wp_M_rising_l15 post I_p0 f_p0_dirs f_p0_file n1 x1 r8.toInt32 1)) I_p0 f_p0_file (f_p0_dirs (x1).toNatClampNeg) 2
set_option maxRecDepth 100000 in
set_option maxHeartbeats 4000000 in
theorem c_M_rising (l : Launch) (dC : Nat → ClassId) (dI : Nat → Nat → Nat) (cI : ClassId) (a_p0 : Nat) (A_p0 : Nat → Nat) (I_p0 : Nat → Int32) (f_p0_dirs : Nat → Int32) (f_p0_file : Nat → Int32) (x1 : Int32) {post : Int32 → Prop} (hw : wp_M_rising post I_p0 f_p0_dirs f_p0_file x1) : gm_i l y_M_rising ws_M_rising ({ frames := 1, cells := 0, slots := 0, locals := 25 } : Room) (dC, dI) vwCl [(cI, .int)] [.ref a_p0, .int x1] [oM a_p0 A_p0 I_p0, gz cI (A_p0 13) 8 f_p0_dirs, gz cI (A_p0 0) 2000 f_p0_file] (fun (_ : Unit) => [oM a_p0 A_p0 I_p0, gz cI (A_p0 13) 8 f_p0_dirs, gz cI (A_p0 0) 2000 f_p0_file]) (fun (r : Int32) (_ : Unit) => post r) := by
  refine gm_iof (cc := b_M_rising) (maxL := 4) (ty := .boolean) (by decide) rfl (Nat.le_of_ble_eq_true rfl) ?_
  intro p e s m args below meth c A Q hx hb hml hown hg hK hN hA hret
  have hown : s.vm.findClass R_M = some m.cls := hown
  have l15 : ∀ n : Nat, ∀ (H : Heap) (locs : List Loc) (ls : Array Slot) (x1 : Int32) (x2 : Int32) (x3 : Int32), va_P (dC, dI) vwCl [oM a_p0 A_p0 I_p0, gz cI (A_p0 13) 8 f_p0_dirs, gz cI (A_p0 0) 2000 f_p0_file] H → va_D A [oM a_p0 A_p0 I_p0, gz cI (A_p0 13) 8 f_p0_dirs, gz cI (A_p0 0) 2000 f_p0_file] → va_S A s.heap H locs → lv_has ls 4 [(0, .ref a_p0), (1, .int x1), (2, .int x2), (3, .int x3)] → wp_M_rising_l15 post I_p0 f_p0_dirs f_p0_file n x1 x2 x3 → W p l e ({ frames := 1, cells := 0, slots := 0, locals := 25 } : Room) s m args below meth c H locs 0 0 Q (F0 m 15 ls []) := by
    intro n
    induction n with
    | zero => intro H locs ls x1 x2 x3 hP hD hS hl hw; exact hw.elim
    | succ n ih =>
      intro H locs ls x1 x2 x3 hP hD hS hl hw
      unfold wp_M_rising_l15 at hw
      refine lv_iload_n hx hb d_M_rising_15 rfl (lv_at hl 3 rfl) ?_
      refine lv_iload_n hx hb d_M_rising_16 rfl (lv_at hl 2 rfl) ?_
      refine lv_icmp_ge hx hb d_M_rising_17 rfl (fun hc => ?_) (fun hc => ?_)
      · have hw := hw.1 hc
        refine lv_iconst (v := 1) hx hb d_M_rising_69 (by decide) ?_
        exact hret _ _ _ _ _ () d_M_rising_70 rfl hP hD hS hw
      · have hw := hw.2 hc
        refine lv_aload_n hx hb d_M_rising_20 rfl (lv_at hl 0 rfl) ?_
        refine lv_aload_n hx hb d_M_rising_21 rfl (lv_at hl 0 rfl) ?_
        refine va_get (D := (dC, dI)) (ci := 10) (v := .ref (A_p0 13)) (C := R_M) (T := T_M) (N := 30) hx hb hg in_M hown hK hP 0 rfl rfl 13 (by decide) (hg _ t_771) (fun _ h9 => h9) rfl d_M_rising_22 ?_
        refine lv_iload_n hx hb d_M_rising_25 rfl (lv_at hl 1 rfl) ?_
        obtain ⟨hin, hw⟩ := hw
        refine va_iald hx hb hK hP 1 0 rfl rfl hin d_M_rising_26 ?_
        refine lv_iconst (v := 2) hx hb d_M_rising_27 (by decide) ?_
        refine lv_iadd hx hb d_M_rising_28 ?_
        refine lv_bipush (v := 12) hx hb d_M_rising_29 (by decide) ?_
        refine lv_iload_n hx hb d_M_rising_31 rfl (lv_at hl 3 rfl) ?_
        refine lv_imul hx hb d_M_rising_32 ?_
        refine lv_iadd hx hb d_M_rising_33 ?_
        refine lv_iconst (v := 2) hx hb d_M_rising_34 (by decide) ?_
        refine gc_l (wn := fun (_ : Unit) => [oM a_p0 A_p0 I_p0, gz cI (A_p0 13) 8 f_p0_dirs, gz cI (A_p0 0) 2000 f_p0_file]) (wr := [gz cI (A_p0 13) 8 f_p0_dirs]) (gr_V (As := [.int (((f_p0_dirs (x1).toNatClampNeg) + 2) + (12 * x3)), .int 2]) (rest := []) ⟨hx, hb, hml, hown, hg⟩ (c_M_read l dC dI cI a_p0 A_p0 I_p0 f_p0_file (((f_p0_dirs (x1).toNatClampNeg) + 2) + (12 * x3)) 2 hw _) (cwV 2 hg (gg_V t_901 t_903 t_28 t_71 t_904) rfl rfl rfl (by decide +kernel) ⟨Nat.le_of_ble_eq_true rfl, Nat.le_of_ble_eq_true rfl⟩) hK hN hP hD [0, 2] (by decide) rfl 0 10 rfl rfl rfl rfl hl.1 rfl (Nat.le_of_ble_eq_true rfl) d_M_rising_35 ⟨Nat.le_of_ble_eq_true rfl, Nat.le_of_ble_eq_true rfl⟩) rfl rfl hP hD hS hA [0, 2] [1] [1, 0, 2] rfl rfl (by decide) (by decide) (by decide) (fun _ => rfl) ?_
        intro r35 _ H locs hw hP hD hS
        try dsimp only at hw
        have hP : va_P (dC, dI) vwCl [oM a_p0 A_p0 I_p0, gz cI (A_p0 13) 8 f_p0_dirs, gz cI (A_p0 0) 2000 f_p0_file] H := hP
        have hD : va_D A [oM a_p0 A_p0 I_p0, gz cI (A_p0 13) 8 f_p0_dirs, gz cI (A_p0 0) 2000 f_p0_file] := hD
        refine lv_aload_n hx hb d_M_rising_38 rfl (lv_at hl 0 rfl) ?_
        refine lv_aload_n hx hb d_M_rising_39 rfl (lv_at hl 0 rfl) ?_
        refine va_get (D := (dC, dI)) (ci := 10) (v := .ref (A_p0 13)) (C := R_M) (T := T_M) (N := 30) hx hb hg in_M hown hK hP 0 rfl rfl 13 (by decide) (hg _ t_771) (fun _ h9 => h9) rfl d_M_rising_40 ?_
        refine lv_iload_n hx hb d_M_rising_43 rfl (lv_at hl 1 rfl) ?_
        obtain ⟨hin, hw⟩ := hw
        refine va_iald hx hb hK hP 1 0 rfl rfl hin d_M_rising_44 ?_
        refine lv_bipush (v := 12) hx hb d_M_rising_45 (by decide) ?_
        refine lv_iload_n hx hb d_M_rising_47 rfl (lv_at hl 3 rfl) ?_
        refine lv_imul hx hb d_M_rising_48 ?_
        refine lv_iadd hx hb d_M_rising_49 ?_
        refine lv_bipush (v := 10) hx hb d_M_rising_50 (by decide) ?_
        refine lv_isub hx hb d_M_rising_52 ?_
        refine lv_iconst (v := 2) hx hb d_M_rising_53 (by decide) ?_
        refine gc_l (wn := fun (_ : Unit) => [oM a_p0 A_p0 I_p0, gz cI (A_p0 13) 8 f_p0_dirs, gz cI (A_p0 0) 2000 f_p0_file]) (wr := [gz cI (A_p0 13) 8 f_p0_dirs]) (gr_V (As := [.int (((f_p0_dirs (x1).toNatClampNeg) + (12 * x3)) - 10), .int 2]) (rest := [.long r35]) ⟨hx, hb, hml, hown, hg⟩ (c_M_read l dC dI cI a_p0 A_p0 I_p0 f_p0_file (((f_p0_dirs (x1).toNatClampNeg) + (12 * x3)) - 10) 2 hw _) (cwV 2 hg (gg_V t_901 t_903 t_28 t_71 t_904) rfl rfl rfl (by decide +kernel) ⟨Nat.le_of_ble_eq_true rfl, Nat.le_of_ble_eq_true rfl⟩) hK hN hP hD [0, 2] (by decide) rfl 0 10 rfl rfl rfl rfl hl.1 rfl (Nat.le_of_ble_eq_true rfl) d_M_rising_54 ⟨Nat.le_of_ble_eq_true rfl, Nat.le_of_ble_eq_true rfl⟩) rfl rfl hP hD hS hA [0, 2] [1] [1, 0, 2] rfl rfl (by decide) (by decide) (by decide) (fun _ => rfl) ?_
        intro r54 _ H locs hw hP hD hS
        try dsimp only at hw
        have hP : va_P (dC, dI) vwCl [oM a_p0 A_p0 I_p0, gz cI (A_p0 13) 8 f_p0_dirs, gz cI (A_p0 0) 2000 f_p0_file] H := hP
        have hD : va_D A [oM a_p0 A_p0 I_p0, gz cI (A_p0 13) 8 f_p0_dirs, gz cI (A_p0 0) 2000 f_p0_file] := hD
        refine W.lcmp hx hb d_M_rising_57 ?_
        refine lv_if_gt hx hb d_M_rising_58 rfl (fun hc => ?_) (fun hc => ?_)
        · have hw := hw.1 ((lg_cmp_gt _ _).mp hc)
          refine lv_iinc (k := 3) (v := (x3 + 1)) (lv' := [(3, .int (x3 + 1)), (0, .ref a_p0), (1, .int x1), (2, .int x2)]) hx hb d_M_rising_63 hl rfl (congrArg (fun z => x3 + z) (by decide : Int32.ofInt 1 = 1)) (by decide) rfl (fun ls hl => ?_)
          refine lv_goto hx hb d_M_rising_66 rfl ?_
          exact ih _ _ _ x1 x2 (x3 + 1) hP hD hS (lv_sub hl [1, 2, 3, 0] rfl) hw
        · have hw := hw.2 (fun h9 => hc ((lg_cmp_gt _ _).mpr h9))
          refine lv_iconst (v := 0) hx hb d_M_rising_61 (by decide) ?_
          exact hret _ _ _ _ _ () d_M_rising_62 rfl hP hD hS hw
  intro ls hl hP hD hS
  have hl : lv_has ls 4 [(0, .ref a_p0), (1, .int x1)] := hl
  unfold wp_M_rising at hw
  refine lv_aload_n hx hb d_M_rising_0 rfl (lv_at hl 0 rfl) ?_
  refine lv_aload_n hx hb d_M_rising_1 rfl (lv_at hl 0 rfl) ?_
  refine va_get (D := (dC, dI)) (ci := 10) (v := .ref (A_p0 13)) (C := R_M) (T := T_M) (N := 30) hx hb hg in_M hown hK hP 0 rfl rfl 13 (by decide) (hg _ t_771) (fun _ h9 => h9) rfl d_M_rising_2 ?_
  refine lv_iload_n hx hb d_M_rising_5 rfl (lv_at hl 1 rfl) ?_
  obtain ⟨hin, hw⟩ := hw
  refine va_iald hx hb hK hP 1 0 rfl rfl hin d_M_rising_6 ?_
  refine lv_iconst (v := 2) hx hb d_M_rising_7 (by decide) ?_
  refine gc_l (wn := fun (_ : Unit) => [oM a_p0 A_p0 I_p0, gz cI (A_p0 13) 8 f_p0_dirs, gz cI (A_p0 0) 2000 f_p0_file]) (wr := [gz cI (A_p0 13) 8 f_p0_dirs]) (gr_V (As := [.int (f_p0_dirs (x1).toNatClampNeg), .int 2]) (rest := []) ⟨hx, hb, hml, hown, hg⟩ (c_M_read l dC dI cI a_p0 A_p0 I_p0 f_p0_file (f_p0_dirs (x1).toNatClampNeg) 2 hw _) (cwV 2 hg (gg_V t_901 t_903 t_28 t_71 t_904) rfl rfl rfl (by decide +kernel) ⟨Nat.le_of_ble_eq_true rfl, Nat.le_of_ble_eq_true rfl⟩) hK hN hP hD [0, 2] (by decide) rfl 0 10 rfl rfl rfl rfl hl.1 rfl (Nat.le_of_ble_eq_true rfl) d_M_rising_8 ⟨Nat.le_of_ble_eq_true rfl, Nat.le_of_ble_eq_true rfl⟩) rfl rfl hP hD hS hA [0, 2] [1] [1, 0, 2] rfl rfl (by decide) (by decide) (by decide) (fun _ => rfl) ?_
  intro r8 _ H locs hw hP hD hS
  try dsimp only at hw
  have hP : va_P (dC, dI) vwCl [oM a_p0 A_p0 I_p0, gz cI (A_p0 13) 8 f_p0_dirs, gz cI (A_p0 0) 2000 f_p0_file] H := hP
  have hD : va_D A [oM a_p0 A_p0 I_p0, gz cI (A_p0 13) 8 f_p0_dirs, gz cI (A_p0 0) 2000 f_p0_file] := hD
  refine lv_l2i hx hb d_M_rising_11 rfl ?_
  refine lv_istore_n (lv' := [(2, .int r8.toInt32), (0, .ref a_p0), (1, .int x1)]) hx hb d_M_rising_12 rfl hl (by decide) rfl (fun ls hl => ?_)
  refine lv_iconst (v := 1) hx hb d_M_rising_13 (by decide) ?_
  refine lv_istore_n (lv' := [(3, .int 1), (2, .int r8.toInt32), (0, .ref a_p0), (1, .int x1)]) hx hb d_M_rising_14 rfl hl (by decide) rfl (fun ls hl => ?_)
  obtain ⟨n1, hw⟩ := hw
  exact l15 n1 _ _ _ x1 r8.toInt32 1 hP hD hS (lv_sub hl [2, 3, 1, 0] rfl) hw
theorem d_M_strips_0 : decode b_M_strips 0 = .ok (.aload_n 0, 1) := by decide +kernel
theorem d_M_strips_1 : decode b_M_strips 1 = .ok (.getfield 201, 3) := by decide +kernel
theorem d_M_strips_4 : decode b_M_strips 4 = .ok (.aload_n 0, 1) := by decide +kernel
theorem d_M_strips_5 : decode b_M_strips 5 = .ok (.getfield 204, 3) := by decide +kernel
theorem d_M_strips_8 : decode b_M_strips 8 = .ok (.iadd, 1) := by decide +kernel
theorem d_M_strips_9 : decode b_M_strips 9 = .ok (.iconst 1, 1) := by decide +kernel
theorem d_M_strips_10 : decode b_M_strips 10 = .ok (.isub, 1) := by decide +kernel
theorem d_M_strips_11 : decode b_M_strips 11 = .ok (.aload_n 0, 1) := by decide +kernel
theorem d_M_strips_12 : decode b_M_strips 12 = .ok (.getfield 204, 3) := by decide +kernel
theorem d_M_strips_15 : decode b_M_strips 15 = .ok (.idiv, 1) := by decide +kernel
theorem d_M_strips_16 : decode b_M_strips 16 = .ok (.ireturn, 1) := by decide +kernel
def wp_M_strips (post : Int32 → Prop) (I_p0 : Nat → Int32) : Prop :=
  ¬ (I_p0 27) = 0 ∧
  post ((((I_p0 24) + (I_p0 27)) - 1) / (I_p0 27))
set_option maxRecDepth 100000 in
set_option maxHeartbeats 4000000 in
theorem c_M_strips (l : Launch) (dC : Nat → ClassId) (dI : Nat → Nat → Nat) (cI : ClassId) (a_p0 : Nat) (A_p0 : Nat → Nat) (I_p0 : Nat → Int32) {post : Int32 → Prop} (hw : wp_M_strips post I_p0) : gm_i l y_M_strips ws_M_strips ({ frames := 0, cells := 0, slots := 0, locals := 0 } : Room) (dC, dI) vwCl [(cI, .int)] [.ref a_p0] [oM a_p0 A_p0 I_p0] (fun (_ : Unit) => [oM a_p0 A_p0 I_p0]) (fun (r : Int32) (_ : Unit) => post r) := by
  refine gm_iof (cc := b_M_strips) (maxL := 1) (ty := .int) (by decide) rfl (Nat.le_of_ble_eq_true rfl) ?_
  intro p e s m args below meth c A Q hx hb hml hown hg hK hN hA hret
  have hown : s.vm.findClass R_M = some m.cls := hown
  intro ls hl hP hD hS
  have hl : lv_has ls 1 [(0, .ref a_p0)] := hl
  unfold wp_M_strips at hw
  refine lv_aload_n hx hb d_M_strips_0 rfl (lv_at hl 0 rfl) ?_
  refine va_get (D := (dC, dI)) (ci := 10) (v := .int (I_p0 24)) (C := R_M) (T := T_M) (N := 30) hx hb hg in_M hown hK hP 0 rfl rfl 24 (by decide) (hg _ t_782) (fun _ h9 => h9) rfl d_M_strips_1 ?_
  refine lv_aload_n hx hb d_M_strips_4 rfl (lv_at hl 0 rfl) ?_
  refine va_get (D := (dC, dI)) (ci := 10) (v := .int (I_p0 27)) (C := R_M) (T := T_M) (N := 30) hx hb hg in_M hown hK hP 0 rfl rfl 27 (by decide) (hg _ t_785) (fun _ h9 => h9) rfl d_M_strips_5 ?_
  refine lv_iadd hx hb d_M_strips_8 ?_
  refine lv_iconst (v := 1) hx hb d_M_strips_9 (by decide) ?_
  refine lv_isub hx hb d_M_strips_10 ?_
  refine lv_aload_n hx hb d_M_strips_11 rfl (lv_at hl 0 rfl) ?_
  refine va_get (D := (dC, dI)) (ci := 10) (v := .int (I_p0 27)) (C := R_M) (T := T_M) (N := 30) hx hb hg in_M hown hK hP 0 rfl rfl 27 (by decide) (hg _ t_785) (fun _ h9 => h9) rfl d_M_strips_12 ?_
  obtain ⟨hne, hw⟩ := hw
  refine lv_idiv hx hb d_M_strips_15 hne ?_
  exact hret _ _ _ _ _ () d_M_strips_16 rfl hP hD hS hw
