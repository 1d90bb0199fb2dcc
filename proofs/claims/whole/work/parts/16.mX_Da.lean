theorem d_X_byteAt_0 : decode b_X_byteAt 0 = .ok (.aload_n 0, 1) := by decide +kernel
theorem d_X_byteAt_1 : decode b_X_byteAt 1 = .ok (.getfield 10, 3) := by decide +kernel
theorem d_X_byteAt_4 : decode b_X_byteAt 4 = .ok (.iload_n 1, 1) := by decide +kernel
theorem d_X_byteAt_5 : decode b_X_byteAt 5 = .ok (.i2l, 1) := by decide +kernel
theorem d_X_byteAt_6 : decode b_X_byteAt 6 = .ok (.lconst 1, 1) := by decide +kernel
theorem d_X_byteAt_7 : decode b_X_byteAt 7 = .ok (.invokevirtual 100, 3) := by decide +kernel
theorem d_X_byteAt_10 : decode b_X_byteAt 10 = .ok (.ifCond .eq 15, 3) := by decide +kernel
theorem d_X_byteAt_13 : decode b_X_byteAt 13 = .ok (.aload_n 0, 1) := by decide +kernel
theorem d_X_byteAt_14 : decode b_X_byteAt 14 = .ok (.getfield 10, 3) := by decide +kernel
theorem d_X_byteAt_17 : decode b_X_byteAt 17 = .ok (.getfield 104, 3) := by decide +kernel
theorem d_X_byteAt_20 : decode b_X_byteAt 20 = .ok (.iload_n 1, 1) := by decide +kernel
theorem d_X_byteAt_21 : decode b_X_byteAt 21 = .ok (.iaload, 1) := by decide +kernel
theorem d_X_byteAt_22 : decode b_X_byteAt 22 = .ok (.goto 4, 3) := by decide +kernel
theorem d_X_byteAt_25 : decode b_X_byteAt 25 = .ok (.iconst (-1), 1) := by decide +kernel
theorem d_X_byteAt_26 : decode b_X_byteAt 26 = .ok (.ireturn, 1) := by decide +kernel
def wp_X_byteAt (post : Int32 → Prop) (I_p0_file : Nat → Int32) (f_p0_file_bytes : Nat → Int32) (x1 : Int32) : Prop :=
  wp_St_holds (fun (r7 : Int32) =>
    ((r7 = 0 →
      post (-1)) ∧
     (¬ r7 = 0 →
      vp_in x1 900 ∧
      post (f_p0_file_bytes (x1).toNatClampNeg)))) I_p0_file x1.toInt64 1
set_option maxRecDepth 100000 in
set_option maxHeartbeats 4000000 in
theorem c_X_byteAt (l : Launch) (dC : Nat → ClassId) (dI : Nat → Nat → Nat) (cI : ClassId) (a_p0 : Nat) (A_p0 : Nat → Nat) (A_p0_file : Nat → Nat) (I_p0_file : Nat → Int32) (f_p0_file_bytes : Nat → Int32) (x1 : Int32) {post : Int32 → Prop} (hw : wp_X_byteAt post I_p0_file f_p0_file_bytes x1) : gm_i l y_X_byteAt ws_X_byteAt ({ frames := 1, cells := 0, slots := 0, locals := 24 } : Room) (dC, dI) vwCl [(cI, .int)] [.ref a_p0, .int x1] [oX a_p0 A_p0, oSt (A_p0 0) A_p0_file I_p0_file, gz cI (A_p0_file 0) 900 f_p0_file_bytes] (fun (_ : Unit) => [oX a_p0 A_p0, oSt (A_p0 0) A_p0_file I_p0_file, gz cI (A_p0_file 0) 900 f_p0_file_bytes]) (fun (r : Int32) (_ : Unit) => post r) := by
  refine gm_iof (cc := b_X_byteAt) (maxL := 2) (ty := .int) (by decide) rfl (Nat.le_of_ble_eq_true rfl) ?_
  intro p e s m args below meth c A Q hx hb hml hown hg hK hN hA hret
  have hown : s.vm.findClass R_X = some m.cls := hown
  intro ls hl hP hD hS
  have hl : lv_has ls 2 [(0, .ref a_p0), (1, .int x1)] := hl
  unfold wp_X_byteAt at hw
  refine lv_aload_n hx hb d_X_byteAt_0 rfl (lv_at hl 0 rfl) ?_
  refine va_get (D := (dC, dI)) (ci := 9) (v := .ref (A_p0 0)) (C := R_X) (T := T_X) (N := 14) hx hb hg in_X hown hK hP 0 rfl rfl 0 (by decide) (hg _ t_307) (fun _ h9 => h9) rfl d_X_byteAt_1 ?_
  refine lv_iload_n hx hb d_X_byteAt_4 rfl (lv_at hl 1 rfl) ?_
  refine lv_i2l hx hb d_X_byteAt_5 rfl ?_
  refine lv_lconst (v := 1) hx hb d_X_byteAt_6 (by decide) ?_
  refine gc_i (wn := fun (_ : Unit) => [oX a_p0 A_p0, oSt (A_p0 0) A_p0_file I_p0_file, gz cI (A_p0_file 0) 900 f_p0_file_bytes]) (wr := [oX a_p0 A_p0, gz cI (A_p0_file 0) 900 f_p0_file_bytes]) (gr_V (As := [.long x1.toInt64, .long 1]) (rest := []) ⟨hx, hb, hml, hown, hg⟩ (c_St_holds l dC dI cI (A_p0 0) A_p0_file I_p0_file x1.toInt64 1 hw _) (cwV 2 hg (gg_V t_362 t_363 t_364 t_61 t_365) rfl rfl rfl (by decide +kernel) ⟨Nat.le_of_ble_eq_true rfl, Nat.le_of_ble_eq_true rfl⟩) hK hN hP hD [1] (by decide) rfl 1 7 rfl rfl rfl rfl hl.1 rfl (Nat.le_of_ble_eq_true rfl) d_X_byteAt_7 ⟨Nat.le_of_ble_eq_true rfl, Nat.le_of_ble_eq_true rfl⟩) rfl rfl hP hD hS hA [1] [0, 2] [0, 2, 1] rfl rfl (by decide) (by decide) (by decide) (fun _ => rfl) ?_
  intro r7 _ H locs hw hP hD hS
  try dsimp only at hw
  have hP : va_P (dC, dI) vwCl [oX a_p0 A_p0, oSt (A_p0 0) A_p0_file I_p0_file, gz cI (A_p0_file 0) 900 f_p0_file_bytes] H := hP
  have hD : va_D A [oX a_p0 A_p0, oSt (A_p0 0) A_p0_file I_p0_file, gz cI (A_p0_file 0) 900 f_p0_file_bytes] := hD
  refine lv_if_eq hx hb d_X_byteAt_10 rfl (fun hc => ?_) (fun hc => ?_)
  · have hw := hw.1 hc
    refine lv_iconst (v := (-1)) hx hb d_X_byteAt_25 (by decide) ?_
    exact hret _ _ _ _ _ () d_X_byteAt_26 rfl hP hD hS hw
  · have hw := hw.2 hc
    refine lv_aload_n hx hb d_X_byteAt_13 rfl (lv_at hl 0 rfl) ?_
    refine va_get (D := (dC, dI)) (ci := 9) (v := .ref (A_p0 0)) (C := R_X) (T := T_X) (N := 14) hx hb hg in_X hown hK hP 0 rfl rfl 0 (by decide) (hg _ t_307) (fun _ h9 => h9) rfl d_X_byteAt_14 ?_
    refine va_get (D := (dC, dI)) (ci := 7) (v := .ref (A_p0_file 0)) (C := R_St) (T := T_St) (N := 3) hx hb hg in_St hown hK hP 1 rfl rfl 0 (by decide) (hg _ t_90) (fun _ h9 => h9) rfl d_X_byteAt_17 ?_
    refine lv_iload_n hx hb d_X_byteAt_20 rfl (lv_at hl 1 rfl) ?_
    obtain ⟨hin, hw⟩ := hw
    refine va_iald hx hb hK hP 2 0 rfl rfl hin d_X_byteAt_21 ?_
    refine lv_goto hx hb d_X_byteAt_22 rfl ?_
    exact hret _ _ _ _ _ () d_X_byteAt_26 rfl hP hD hS hw
theorem d_X_clear_0 : decode b_X_clear 0 = .ok (.aload_n 0, 1) := by decide +kernel
theorem d_X_clear_1 : decode b_X_clear 1 = .ok (.getfield 10, 3) := by decide +kernel
theorem d_X_clear_4 : decode b_X_clear 4 = .ok (.iload_n 1, 1) := by decide +kernel
theorem d_X_clear_5 : decode b_X_clear 5 = .ok (.invokevirtual 88, 3) := by decide +kernel
theorem d_X_clear_8 : decode b_X_clear 8 = .ok (.return_, 1) := by decide +kernel
def wp_X_clear (post : (Nat → Int32) → (Nat → Int32) → Prop) (I_p0_file : Nat → Int32) (f_p0_file_bytes : Nat → Int32) (x1 : Int32) : Prop :=
  wp_St_restart (fun (I_p0_file_5 : Nat → Int32) (f_p0_file_bytes_5 : Nat → Int32) =>
    post I_p0_file_5 f_p0_file_bytes_5) I_p0_file f_p0_file_bytes x1
set_option maxRecDepth 100000 in
set_option maxHeartbeats 4000000 in
theorem c_X_clear (l : Launch) (dC : Nat → ClassId) (dI : Nat → Nat → Nat) (cI : ClassId) (a_p0 : Nat) (A_p0 : Nat → Nat) (A_p0_file : Nat → Nat) (I_p0_file : Nat → Int32) (f_p0_file_bytes : Nat → Int32) (x1 : Int32) {post : (Nat → Int32) → (Nat → Int32) → Prop} (hw : wp_X_clear post I_p0_file f_p0_file_bytes x1) : gm_v l y_X_clear ws_X_clear ({ frames := 3, cells := 0, slots := 0, locals := 67 } : Room) (dC, dI) vwCl [(cI, .int)] [.ref a_p0, .int x1] [oX a_p0 A_p0, oSt (A_p0 0) A_p0_file I_p0_file, gz cI (A_p0_file 0) 900 f_p0_file_bytes] (fun (u : (Nat → Int32) × (Nat → Int32)) => [oX a_p0 A_p0, oSt (A_p0 0) A_p0_file u.1, gz cI (A_p0_file 0) 900 u.2]) (fun (u : (Nat → Int32) × (Nat → Int32)) => post  u.1 u.2) := by
  refine gm_vof (cc := b_X_clear) (maxL := 2) (by decide) rfl (Nat.le_of_ble_eq_true rfl) ?_
  intro p e s m args below meth c A Q hx hb hml hown hg hK hN hA hnm hret
  have hown : s.vm.findClass R_X = some m.cls := hown
  intro ls hl hP hD hS
  have hl : lv_has ls 2 [(0, .ref a_p0), (1, .int x1)] := hl
  unfold wp_X_clear at hw
  refine lv_aload_n hx hb d_X_clear_0 rfl (lv_at hl 0 rfl) ?_
  refine va_get (D := (dC, dI)) (ci := 9) (v := .ref (A_p0 0)) (C := R_X) (T := T_X) (N := 14) hx hb hg in_X hown hK hP 0 rfl rfl 0 (by decide) (hg _ t_307) (fun _ h9 => h9) rfl d_X_clear_1 ?_
  refine lv_iload_n hx hb d_X_clear_4 rfl (lv_at hl 1 rfl) ?_
  refine gc_v (wn := fun u => [oX a_p0 A_p0, oSt (A_p0 0) A_p0_file u.1, gz cI (A_p0_file 0) 900 u.2]) (wr := [oX a_p0 A_p0]) (gr_V (As := [.int x1]) (rest := []) ⟨hx, hb, hml, hown, hg⟩ (c_St_restart l dC dI cI (A_p0 0) A_p0_file I_p0_file f_p0_file_bytes x1 hw _) (cwV 1 hg (gg_V t_280 t_281 t_282 t_61 t_283) rfl rfl rfl (by decide +kernel) ⟨Nat.le_of_ble_eq_true rfl, Nat.le_of_ble_eq_true rfl⟩) hK hN hP hD [1, 2] (by decide) rfl 1 7 rfl rfl rfl rfl hl.1 rfl (Nat.le_of_ble_eq_true rfl) d_X_clear_5 ⟨Nat.le_of_ble_eq_true rfl, Nat.le_of_ble_eq_true rfl⟩) rfl rfl hP hD hS hA [1, 2] [0] [0, 1, 2] rfl rfl (by decide) (by decide) (by decide) (fun _ => rfl) ?_
  intro u9 H locs hw hP hD hS
  obtain ⟨I_p0_file_5, f_p0_file_bytes_5⟩ := u9
  try dsimp only at hw
  have hP : va_P (dC, dI) vwCl [oX a_p0 A_p0, oSt (A_p0 0) A_p0_file I_p0_file_5, gz cI (A_p0_file 0) 900 f_p0_file_bytes_5] H := hP
  have hD : va_D A [oX a_p0 A_p0, oSt (A_p0 0) A_p0_file I_p0_file_5, gz cI (A_p0_file 0) 900 f_p0_file_bytes_5] := hD
  exact hret _ _ _ _ (I_p0_file_5, f_p0_file_bytes_5) d_X_clear_8 hP hD hS hw
theorem d_En_valueBytes_0 : decode b_En_valueBytes 0 = .ok (.aload_n 0, 1) := by decide +kernel
theorem d_En_valueBytes_1 : decode b_En_valueBytes 1 = .ok (.getfield 21, 3) := by decide +kernel
theorem d_En_valueBytes_4 : decode b_En_valueBytes 4 = .ok (.iconst 1, 1) := by decide +kernel
theorem d_En_valueBytes_5 : decode b_En_valueBytes 5 = .ok (.if_icmp .eq 11, 3) := by decide +kernel
theorem d_En_valueBytes_8 : decode b_En_valueBytes 8 = .ok (.aload_n 0, 1) := by decide +kernel
theorem d_En_valueBytes_9 : decode b_En_valueBytes 9 = .ok (.getfield 21, 3) := by decide +kernel
theorem d_En_valueBytes_12 : decode b_En_valueBytes 12 = .ok (.iconst 2, 1) := by decide +kernel
theorem d_En_valueBytes_13 : decode b_En_valueBytes 13 = .ok (.if_icmp .ne 5, 3) := by decide +kernel
theorem d_En_valueBytes_16 : decode b_En_valueBytes 16 = .ok (.iconst 1, 1) := by decide +kernel
theorem d_En_valueBytes_17 : decode b_En_valueBytes 17 = .ok (.ireturn, 1) := by decide +kernel
theorem d_En_valueBytes_18 : decode b_En_valueBytes 18 = .ok (.aload_n 0, 1) := by decide +kernel
theorem d_En_valueBytes_19 : decode b_En_valueBytes 19 = .ok (.getfield 21, 3) := by decide +kernel
theorem d_En_valueBytes_22 : decode b_En_valueBytes 22 = .ok (.iconst 3, 1) := by decide +kernel
theorem d_En_valueBytes_23 : decode b_En_valueBytes 23 = .ok (.if_icmp .ne 5, 3) := by decide +kernel
theorem d_En_valueBytes_26 : decode b_En_valueBytes 26 = .ok (.iconst 2, 1) := by decide +kernel
theorem d_En_valueBytes_27 : decode b_En_valueBytes 27 = .ok (.ireturn, 1) := by decide +kernel
theorem d_En_valueBytes_28 : decode b_En_valueBytes 28 = .ok (.aload_n 0, 1) := by decide +kernel
theorem d_En_valueBytes_29 : decode b_En_valueBytes 29 = .ok (.getfield 21, 3) := by decide +kernel
theorem d_En_valueBytes_32 : decode b_En_valueBytes 32 = .ok (.iconst 4, 1) := by decide +kernel
theorem d_En_valueBytes_33 : decode b_En_valueBytes 33 = .ok (.if_icmp .ne 7, 3) := by decide +kernel
theorem d_En_valueBytes_36 : decode b_En_valueBytes 36 = .ok (.iconst 4, 1) := by decide +kernel
theorem d_En_valueBytes_37 : decode b_En_valueBytes 37 = .ok (.goto 4, 3) := by decide +kernel
theorem d_En_valueBytes_40 : decode b_En_valueBytes 40 = .ok (.iconst 0, 1) := by decide +kernel
theorem d_En_valueBytes_41 : decode b_En_valueBytes 41 = .ok (.ireturn, 1) := by decide +kernel
def wp_En_valueBytes (post : Int32 → Prop) (I_p0 : Nat → Int32) (L_p0 : Nat → Int64) : Prop :=
  (((I_p0 0) = 1 →
    post 1) ∧
   (¬ (I_p0 0) = 1 →
    (((I_p0 0) = 2 →
      post 1) ∧
     (¬ (I_p0 0) = 2 →
      (((I_p0 0) = 3 →
        post 2) ∧
       (¬ (I_p0 0) = 3 →
        (((I_p0 0) = 4 →
          post 4) ∧
         (¬ (I_p0 0) = 4 →
          post 0))))))))
set_option maxRecDepth 100000 in
set_option maxHeartbeats 4000000 in
theorem c_En_valueBytes (l : Launch) (dC : Nat → ClassId) (dI : Nat → Nat → Nat) (cI : ClassId) (a_p0 : Nat) (I_p0 : Nat → Int32) (L_p0 : Nat → Int64) {post : Int32 → Prop} (hw : wp_En_valueBytes post I_p0 L_p0) : gm_i l y_En_valueBytes ws_En_valueBytes ({ frames := 0, cells := 0, slots := 0, locals := 0 } : Room) (dC, dI) vwCl [(cI, .int)] [.ref a_p0] [oEn a_p0 I_p0 L_p0] (fun (_ : Unit) => [oEn a_p0 I_p0 L_p0]) (fun (r : Int32) (_ : Unit) => post r) := by
  refine gm_iof (cc := b_En_valueBytes) (maxL := 1) (ty := .int) (by decide) rfl (Nat.le_of_ble_eq_true rfl) ?_
  intro p e s m args below meth c A Q hx hb hml hown hg hK hN hA hret
  have hown : s.vm.findClass R_En = some m.cls := hown
  intro ls hl hP hD hS
  have hl : lv_has ls 1 [(0, .ref a_p0)] := hl
  unfold wp_En_valueBytes at hw
  refine lv_aload_n hx hb d_En_valueBytes_0 rfl (lv_at hl 0 rfl) ?_
  refine va_get (D := (dC, dI)) (ci := 1) (v := .int (I_p0 0)) (C := R_En) (T := T_En) (N := 4) hx hb hg in_En hown hK hP 0 rfl rfl 0 (by decide) (hg _ t_265) (fun _ h9 => h9) rfl d_En_valueBytes_1 ?_
  refine lv_iconst (v := 1) hx hb d_En_valueBytes_4 (by decide) ?_
  refine lv_icmp_eq hx hb d_En_valueBytes_5 rfl (fun hc => ?_) (fun hc => ?_)
  · have hw := hw.1 hc
    refine lv_iconst (v := 1) hx hb d_En_valueBytes_16 (by decide) ?_
    exact hret _ _ _ _ _ () d_En_valueBytes_17 rfl hP hD hS hw
  · have hw := hw.2 hc
    refine lv_aload_n hx hb d_En_valueBytes_8 rfl (lv_at hl 0 rfl) ?_
    refine va_get (D := (dC, dI)) (ci := 1) (v := .int (I_p0 0)) (C := R_En) (T := T_En) (N := 4) hx hb hg in_En hown hK hP 0 rfl rfl 0 (by decide) (hg _ t_265) (fun _ h9 => h9) rfl d_En_valueBytes_9 ?_
    refine lv_iconst (v := 2) hx hb d_En_valueBytes_12 (by decide) ?_
    refine lv_icmp_ne hx hb d_En_valueBytes_13 rfl (fun hc => ?_) (fun hc => ?_)
    · have hw := hw.2 hc
      refine lv_aload_n hx hb d_En_valueBytes_18 rfl (lv_at hl 0 rfl) ?_
      refine va_get (D := (dC, dI)) (ci := 1) (v := .int (I_p0 0)) (C := R_En) (T := T_En) (N := 4) hx hb hg in_En hown hK hP 0 rfl rfl 0 (by decide) (hg _ t_265) (fun _ h9 => h9) rfl d_En_valueBytes_19 ?_
      refine lv_iconst (v := 3) hx hb d_En_valueBytes_22 (by decide) ?_
      refine lv_icmp_ne hx hb d_En_valueBytes_23 rfl (fun hc => ?_) (fun hc => ?_)
      · have hw := hw.2 hc
        refine lv_aload_n hx hb d_En_valueBytes_28 rfl (lv_at hl 0 rfl) ?_
        refine va_get (D := (dC, dI)) (ci := 1) (v := .int (I_p0 0)) (C := R_En) (T := T_En) (N := 4) hx hb hg in_En hown hK hP 0 rfl rfl 0 (by decide) (hg _ t_265) (fun _ h9 => h9) rfl d_En_valueBytes_29 ?_
        refine lv_iconst (v := 4) hx hb d_En_valueBytes_32 (by decide) ?_
        refine lv_icmp_ne hx hb d_En_valueBytes_33 rfl (fun hc => ?_) (fun hc => ?_)
        · have hw := hw.2 hc
          refine lv_iconst (v := 0) hx hb d_En_valueBytes_40 (by decide) ?_
          exact hret _ _ _ _ _ () d_En_valueBytes_41 rfl hP hD hS hw
        · have hw := hw.1 hc
          refine lv_iconst (v := 4) hx hb d_En_valueBytes_36 (by decide) ?_
          refine lv_goto hx hb d_En_valueBytes_37 rfl ?_
          exact hret _ _ _ _ _ () d_En_valueBytes_41 rfl hP hD hS hw
      · have hw := hw.1 hc
        refine lv_iconst (v := 2) hx hb d_En_valueBytes_26 (by decide) ?_
        exact hret _ _ _ _ _ () d_En_valueBytes_27 rfl hP hD hS hw
    · have hw := hw.1 hc
      refine lv_iconst (v := 1) hx hb d_En_valueBytes_16 (by decide) ?_
      exact hret _ _ _ _ _ () d_En_valueBytes_17 rfl hP hD hS hw
theorem d_St_shortAt_0 : decode b_St_shortAt 0 = .ok (.iload_n 1, 1) := by decide +kernel
theorem d_St_shortAt_1 : decode b_St_shortAt 1 = .ok (.ifCond .lt 13, 3) := by decide +kernel
theorem d_St_shortAt_4 : decode b_St_shortAt 4 = .ok (.iload_n 1, 1) := by decide +kernel
theorem d_St_shortAt_5 : decode b_St_shortAt 5 = .ok (.aload_n 0, 1) := by decide +kernel
theorem d_St_shortAt_6 : decode b_St_shortAt 6 = .ok (.getfield 29, 3) := by decide +kernel
theorem d_St_shortAt_9 : decode b_St_shortAt 9 = .ok (.iconst 2, 1) := by decide +kernel
theorem d_St_shortAt_10 : decode b_St_shortAt 10 = .ok (.isub, 1) := by decide +kernel
theorem d_St_shortAt_11 : decode b_St_shortAt 11 = .ok (.if_icmp .le 5, 3) := by decide +kernel
theorem d_St_shortAt_14 : decode b_St_shortAt 14 = .ok (.iconst 0, 1) := by decide +kernel
theorem d_St_shortAt_15 : decode b_St_shortAt 15 = .ok (.ireturn, 1) := by decide +kernel
theorem d_St_shortAt_16 : decode b_St_shortAt 16 = .ok (.aload_n 0, 1) := by decide +kernel
theorem d_St_shortAt_17 : decode b_St_shortAt 17 = .ok (.getfield 9, 3) := by decide +kernel
theorem d_St_shortAt_20 : decode b_St_shortAt 20 = .ok (.iconst 0, 1) := by decide +kernel
theorem d_St_shortAt_21 : decode b_St_shortAt 21 = .ok (.iaload, 1) := by decide +kernel
theorem d_St_shortAt_22 : decode b_St_shortAt 22 = .ok (.bipush 77, 2) := by decide +kernel
theorem d_St_shortAt_24 : decode b_St_shortAt 24 = .ok (.if_icmp .ne 23, 3) := by decide +kernel
theorem d_St_shortAt_27 : decode b_St_shortAt 27 = .ok (.aload_n 0, 1) := by decide +kernel
theorem d_St_shortAt_28 : decode b_St_shortAt 28 = .ok (.getfield 9, 3) := by decide +kernel
theorem d_St_shortAt_31 : decode b_St_shortAt 31 = .ok (.iload_n 1, 1) := by decide +kernel
theorem d_St_shortAt_32 : decode b_St_shortAt 32 = .ok (.iaload, 1) := by decide +kernel
theorem d_St_shortAt_33 : decode b_St_shortAt 33 = .ok (.sipush 256, 3) := by decide +kernel
theorem d_St_shortAt_36 : decode b_St_shortAt 36 = .ok (.imul, 1) := by decide +kernel
theorem d_St_shortAt_37 : decode b_St_shortAt 37 = .ok (.aload_n 0, 1) := by decide +kernel
theorem d_St_shortAt_38 : decode b_St_shortAt 38 = .ok (.getfield 9, 3) := by decide +kernel
theorem d_St_shortAt_41 : decode b_St_shortAt 41 = .ok (.iload_n 1, 1) := by decide +kernel
theorem d_St_shortAt_42 : decode b_St_shortAt 42 = .ok (.iconst 1, 1) := by decide +kernel
theorem d_St_shortAt_43 : decode b_St_shortAt 43 = .ok (.iadd, 1) := by decide +kernel
theorem d_St_shortAt_44 : decode b_St_shortAt 44 = .ok (.iaload, 1) := by decide +kernel
theorem d_St_shortAt_45 : decode b_St_shortAt 45 = .ok (.iadd, 1) := by decide +kernel
theorem d_St_shortAt_46 : decode b_St_shortAt 46 = .ok (.ireturn, 1) := by decide +kernel
theorem d_St_shortAt_47 : decode b_St_shortAt 47 = .ok (.aload_n 0, 1) := by decide +kernel
theorem d_St_shortAt_48 : decode b_St_shortAt 48 = .ok (.getfield 9, 3) := by decide +kernel
theorem d_St_shortAt_51 : decode b_St_shortAt 51 = .ok (.iload_n 1, 1) := by decide +kernel
theorem d_St_shortAt_52 : decode b_St_shortAt 52 = .ok (.iconst 1, 1) := by decide +kernel
theorem d_St_shortAt_53 : decode b_St_shortAt 53 = .ok (.iadd, 1) := by decide +kernel
theorem d_St_shortAt_54 : decode b_St_shortAt 54 = .ok (.iaload, 1) := by decide +kernel
theorem d_St_shortAt_55 : decode b_St_shortAt 55 = .ok (.sipush 256, 3) := by decide +kernel
theorem d_St_shortAt_58 : decode b_St_shortAt 58 = .ok (.imul, 1) := by decide +kernel
theorem d_St_shortAt_59 : decode b_St_shortAt 59 = .ok (.aload_n 0, 1) := by decide +kernel
theorem d_St_shortAt_60 : decode b_St_shortAt 60 = .ok (.getfield 9, 3) := by decide +kernel
theorem d_St_shortAt_63 : decode b_St_shortAt 63 = .ok (.iload_n 1, 1) := by decide +kernel
theorem d_St_shortAt_64 : decode b_St_shortAt 64 = .ok (.iaload, 1) := by decide +kernel
theorem d_St_shortAt_65 : decode b_St_shortAt 65 = .ok (.iadd, 1) := by decide +kernel
theorem d_St_shortAt_66 : decode b_St_shortAt 66 = .ok (.ireturn, 1) := by decide +kernel
def wp_St_shortAt (post : Int32 → Prop) (I_p0 : Nat → Int32) (f_p0_bytes : Nat → Int32) (x1 : Int32) : Prop :=
  ((x1 < 0 →
    post 0) ∧
   (¬ x1 < 0 →
    ((x1 ≤ ((I_p0 1) - 2) →
      vp_in 0 900 ∧
      (((f_p0_bytes 0) = 77 →
        vp_in x1 900 ∧
        vp_in (x1 + 1) 900 ∧
        post (((f_p0_bytes (x1).toNatClampNeg) * 256) + (f_p0_bytes (x1 + 1).toNatClampNeg))) ∧
       (¬ (f_p0_bytes 0) = 77 →
        vp_in (x1 + 1) 900 ∧
        vp_in x1 900 ∧
        post (((f_p0_bytes (x1 + 1).toNatClampNeg) * 256) + (f_p0_bytes (x1).toNatClampNeg))))) ∧
     (¬ x1 ≤ ((I_p0 1) - 2) →
      post 0))))
set_option maxRecDepth 100000 in
set_option maxHeartbeats 4000000 in
theorem c_St_shortAt (l : Launch) (dC : Nat → ClassId) (dI : Nat → Nat → Nat) (cI : ClassId) (a_p0 : Nat) (A_p0 : Nat → Nat) (I_p0 : Nat → Int32) (f_p0_bytes : Nat → Int32) (x1 : Int32) {post : Int32 → Prop} (hw : wp_St_shortAt post I_p0 f_p0_bytes x1) : gm_i l y_St_shortAt ws_St_shortAt ({ frames := 0, cells := 0, slots := 0, locals := 0 } : Room) (dC, dI) vwCl [(cI, .int)] [.ref a_p0, .int x1] [oSt a_p0 A_p0 I_p0, gz cI (A_p0 0) 900 f_p0_bytes] (fun (_ : Unit) => [oSt a_p0 A_p0 I_p0, gz cI (A_p0 0) 900 f_p0_bytes]) (fun (r : Int32) (_ : Unit) => post r) := by
  refine gm_iof (cc := b_St_shortAt) (maxL := 2) (ty := .int) (by decide) rfl (Nat.le_of_ble_eq_true rfl) ?_
  intro p e s m args below meth c A Q hx hb hml hown hg hK hN hA hret
  have hown : s.vm.findClass R_St = some m.cls := hown
  intro ls hl hP hD hS
  have hl : lv_has ls 2 [(0, .ref a_p0), (1, .int x1)] := hl
  unfold wp_St_shortAt at hw
  refine lv_iload_n hx hb d_St_shortAt_0 rfl (lv_at hl 1 rfl) ?_
  refine lv_if_lt hx hb d_St_shortAt_1 rfl (fun hc => ?_) (fun hc => ?_)
  · have hw := hw.1 hc
    refine lv_iconst (v := 0) hx hb d_St_shortAt_14 (by decide) ?_
    exact hret _ _ _ _ _ () d_St_shortAt_15 rfl hP hD hS hw
  · have hw := hw.2 hc
    refine lv_iload_n hx hb d_St_shortAt_4 rfl (lv_at hl 1 rfl) ?_
    refine lv_aload_n hx hb d_St_shortAt_5 rfl (lv_at hl 0 rfl) ?_
    refine va_get (D := (dC, dI)) (ci := 7) (v := .int (I_p0 1)) (C := R_St) (T := T_St) (N := 3) hx hb hg in_St hown hK hP 0 rfl rfl 1 (by decide) (hg _ t_94) (fun _ h9 => h9) rfl d_St_shortAt_6 ?_
    refine lv_iconst (v := 2) hx hb d_St_shortAt_9 (by decide) ?_
    refine lv_isub hx hb d_St_shortAt_10 ?_
    refine lv_icmp_le hx hb d_St_shortAt_11 rfl (fun hc => ?_) (fun hc => ?_)
    · have hw := hw.1 hc
      refine lv_aload_n hx hb d_St_shortAt_16 rfl (lv_at hl 0 rfl) ?_
      refine va_get (D := (dC, dI)) (ci := 7) (v := .ref (A_p0 0)) (C := R_St) (T := T_St) (N := 3) hx hb hg in_St hown hK hP 0 rfl rfl 0 (by decide) (hg _ t_88) (fun _ h9 => h9) rfl d_St_shortAt_17 ?_
      refine lv_iconst (v := 0) hx hb d_St_shortAt_20 (by decide) ?_
      obtain ⟨hin, hw⟩ := hw
      refine va_iald hx hb hK hP 1 0 rfl rfl hin d_St_shortAt_21 ?_
      refine lv_bipush (v := 77) hx hb d_St_shortAt_22 (by decide) ?_
      refine lv_icmp_ne hx hb d_St_shortAt_24 rfl (fun hc => ?_) (fun hc => ?_)
      · have hw := hw.2 hc
        refine lv_aload_n hx hb d_St_shortAt_47 rfl (lv_at hl 0 rfl) ?_
        refine va_get (D := (dC, dI)) (ci := 7) (v := .ref (A_p0 0)) (C := R_St) (T := T_St) (N := 3) hx hb hg in_St hown hK hP 0 rfl rfl 0 (by decide) (hg _ t_88) (fun _ h9 => h9) rfl d_St_shortAt_48 ?_
        refine lv_iload_n hx hb d_St_shortAt_51 rfl (lv_at hl 1 rfl) ?_
        refine lv_iconst (v := 1) hx hb d_St_shortAt_52 (by decide) ?_
        refine lv_iadd hx hb d_St_shortAt_53 ?_
        obtain ⟨hin, hw⟩ := hw
        refine va_iald hx hb hK hP 1 0 rfl rfl hin d_St_shortAt_54 ?_
        refine lv_sipush (v := 256) hx hb d_St_shortAt_55 (by decide) ?_
        refine lv_imul hx hb d_St_shortAt_58 ?_
        refine lv_aload_n hx hb d_St_shortAt_59 rfl (lv_at hl 0 rfl) ?_
        refine va_get (D := (dC, dI)) (ci := 7) (v := .ref (A_p0 0)) (C := R_St) (T := T_St) (N := 3) hx hb hg in_St hown hK hP 0 rfl rfl 0 (by decide) (hg _ t_88) (fun _ h9 => h9) rfl d_St_shortAt_60 ?_
        refine lv_iload_n hx hb d_St_shortAt_63 rfl (lv_at hl 1 rfl) ?_
        obtain ⟨hin, hw⟩ := hw
        refine va_iald hx hb hK hP 1 0 rfl rfl hin d_St_shortAt_64 ?_
        refine lv_iadd hx hb d_St_shortAt_65 ?_
        exact hret _ _ _ _ _ () d_St_shortAt_66 rfl hP hD hS hw
      · have hw := hw.1 hc
        refine lv_aload_n hx hb d_St_shortAt_27 rfl (lv_at hl 0 rfl) ?_
        refine va_get (D := (dC, dI)) (ci := 7) (v := .ref (A_p0 0)) (C := R_St) (T := T_St) (N := 3) hx hb hg in_St hown hK hP 0 rfl rfl 0 (by decide) (hg _ t_88) (fun _ h9 => h9) rfl d_St_shortAt_28 ?_
        refine lv_iload_n hx hb d_St_shortAt_31 rfl (lv_at hl 1 rfl) ?_
        obtain ⟨hin, hw⟩ := hw
        refine va_iald hx hb hK hP 1 0 rfl rfl hin d_St_shortAt_32 ?_
        refine lv_sipush (v := 256) hx hb d_St_shortAt_33 (by decide) ?_
        refine lv_imul hx hb d_St_shortAt_36 ?_
        refine lv_aload_n hx hb d_St_shortAt_37 rfl (lv_at hl 0 rfl) ?_
        refine va_get (D := (dC, dI)) (ci := 7) (v := .ref (A_p0 0)) (C := R_St) (T := T_St) (N := 3) hx hb hg in_St hown hK hP 0 rfl rfl 0 (by decide) (hg _ t_88) (fun _ h9 => h9) rfl d_St_shortAt_38 ?_
        refine lv_iload_n hx hb d_St_shortAt_41 rfl (lv_at hl 1 rfl) ?_
        refine lv_iconst (v := 1) hx hb d_St_shortAt_42 (by decide) ?_
        refine lv_iadd hx hb d_St_shortAt_43 ?_
        obtain ⟨hin, hw⟩ := hw
        refine va_iald hx hb hK hP 1 0 rfl rfl hin d_St_shortAt_44 ?_
        refine lv_iadd hx hb d_St_shortAt_45 ?_
        exact hret _ _ _ _ _ () d_St_shortAt_46 rfl hP hD hS hw
    · have hw := hw.2 hc
      refine lv_iconst (v := 0) hx hb d_St_shortAt_14 (by decide) ?_
      exact hret _ _ _ _ _ () d_St_shortAt_15 rfl hP hD hS hw
theorem d_St_longAt_0 : decode b_St_longAt 0 = .ok (.aload_n 0, 1) := by decide +kernel
theorem d_St_longAt_1 : decode b_St_longAt 1 = .ok (.iload_n 1, 1) := by decide +kernel
theorem d_St_longAt_2 : decode b_St_longAt 2 = .ok (.invokevirtual 32, 3) := by decide +kernel
theorem d_St_longAt_5 : decode b_St_longAt 5 = .ok (.istore_n 2, 1) := by decide +kernel
theorem d_St_longAt_6 : decode b_St_longAt 6 = .ok (.aload_n 0, 1) := by decide +kernel
theorem d_St_longAt_7 : decode b_St_longAt 7 = .ok (.iload_n 1, 1) := by decide +kernel
theorem d_St_longAt_8 : decode b_St_longAt 8 = .ok (.iconst 2, 1) := by decide +kernel
theorem d_St_longAt_9 : decode b_St_longAt 9 = .ok (.iadd, 1) := by decide +kernel
theorem d_St_longAt_10 : decode b_St_longAt 10 = .ok (.invokevirtual 32, 3) := by decide +kernel
theorem d_St_longAt_13 : decode b_St_longAt 13 = .ok (.istore_n 3, 1) := by decide +kernel
theorem d_St_longAt_14 : decode b_St_longAt 14 = .ok (.aload_n 0, 1) := by decide +kernel
theorem d_St_longAt_15 : decode b_St_longAt 15 = .ok (.getfield 9, 3) := by decide +kernel
theorem d_St_longAt_18 : decode b_St_longAt 18 = .ok (.iconst 0, 1) := by decide +kernel
theorem d_St_longAt_19 : decode b_St_longAt 19 = .ok (.iaload, 1) := by decide +kernel
theorem d_St_longAt_20 : decode b_St_longAt 20 = .ok (.bipush 77, 2) := by decide +kernel
theorem d_St_longAt_22 : decode b_St_longAt 22 = .ok (.if_icmp .ne 13, 3) := by decide +kernel
theorem d_St_longAt_25 : decode b_St_longAt 25 = .ok (.iload_n 2, 1) := by decide +kernel
theorem d_St_longAt_26 : decode b_St_longAt 26 = .ok (.i2l, 1) := by decide +kernel
theorem d_St_longAt_27 : decode b_St_longAt 27 = .ok (.ldc2_w 36, 3) := by decide +kernel
theorem d_St_longAt_30 : decode b_St_longAt 30 = .ok (.lmul, 1) := by decide +kernel
theorem d_St_longAt_31 : decode b_St_longAt 31 = .ok (.iload_n 3, 1) := by decide +kernel
theorem d_St_longAt_32 : decode b_St_longAt 32 = .ok (.i2l, 1) := by decide +kernel
theorem d_St_longAt_33 : decode b_St_longAt 33 = .ok (.ladd, 1) := by decide +kernel
theorem d_St_longAt_34 : decode b_St_longAt 34 = .ok (.lreturn, 1) := by decide +kernel
theorem d_St_longAt_35 : decode b_St_longAt 35 = .ok (.iload_n 3, 1) := by decide +kernel
theorem d_St_longAt_36 : decode b_St_longAt 36 = .ok (.i2l, 1) := by decide +kernel
theorem d_St_longAt_37 : decode b_St_longAt 37 = .ok (.ldc2_w 36, 3) := by decide +kernel
theorem d_St_longAt_40 : decode b_St_longAt 40 = .ok (.lmul, 1) := by decide +kernel
theorem d_St_longAt_41 : decode b_St_longAt 41 = .ok (.iload_n 2, 1) := by decide +kernel
theorem d_St_longAt_42 : decode b_St_longAt 42 = .ok (.i2l, 1) := by decide +kernel
theorem d_St_longAt_43 : decode b_St_longAt 43 = .ok (.ladd, 1) := by decide +kernel
theorem d_St_longAt_44 : decode b_St_longAt 44 = .ok (.lreturn, 1) := by decide +kernel
def wp_St_longAt (post : Int64 → Prop) (I_p0 : Nat → Int32) (f_p0_bytes : Nat → Int32) (x1 : Int32) : Prop :=
  wp_St_shortAt (fun (r2 : Int32) =>
    wp_St_shortAt (fun (r10 : Int32) =>
      vp_in 0 900 ∧
      (((f_p0_bytes 0) = 77 →
        post ((r2.toInt64 * 65536) + r10.toInt64)) ∧
       (¬ (f_p0_bytes 0) = 77 →
        post ((r10.toInt64 * 65536) + r2.toInt64)))) I_p0 f_p0_bytes (x1 + 2)) I_p0 f_p0_bytes x1
set_option maxRecDepth 100000 in
set_option maxHeartbeats 4000000 in
theorem c_St_longAt (l : Launch) (dC : Nat → ClassId) (dI : Nat → Nat → Nat) (cI : ClassId) (a_p0 : Nat) (A_p0 : Nat → Nat) (I_p0 : Nat → Int32) (f_p0_bytes : Nat → Int32) (x1 : Int32) {post : Int64 → Prop} (hw : wp_St_longAt post I_p0 f_p0_bytes x1) : gm_l l y_St_longAt ws_St_longAt ({ frames := 1, cells := 0, slots := 0, locals := 21 } : Room) (dC, dI) vwCl [(cI, .int)] [.ref a_p0, .int x1] [oSt a_p0 A_p0 I_p0, gz cI (A_p0 0) 900 f_p0_bytes] (fun (_ : Unit) => [oSt a_p0 A_p0 I_p0, gz cI (A_p0 0) 900 f_p0_bytes]) (fun (r : Int64) (_ : Unit) => post r) := by
  refine gm_lof (cc := b_St_longAt) (maxL := 4) (by decide) rfl (Nat.le_of_ble_eq_true rfl) ?_
  intro p e s m args below meth c A Q hx hb hml hown hg hK hN hA hret
  have hown : s.vm.findClass R_St = some m.cls := hown
  intro ls hl hP hD hS
  have hl : lv_has ls 4 [(0, .ref a_p0), (1, .int x1)] := hl
  unfold wp_St_longAt at hw
  refine lv_aload_n hx hb d_St_longAt_0 rfl (lv_at hl 0 rfl) ?_
  refine lv_iload_n hx hb d_St_longAt_1 rfl (lv_at hl 1 rfl) ?_
  refine gc_i (wn := fun (_ : Unit) => [oSt a_p0 A_p0 I_p0, gz cI (A_p0 0) 900 f_p0_bytes]) (wr := []) (gr_V (As := [.int x1]) (rest := []) ⟨hx, hb, hml, hown, hg⟩ (c_St_shortAt l dC dI cI a_p0 A_p0 I_p0 f_p0_bytes x1 hw _) (cwV 1 hg (gg_V t_457 t_458 t_459 t_61 t_460) rfl rfl rfl (by decide +kernel) ⟨Nat.le_of_ble_eq_true rfl, Nat.le_of_ble_eq_true rfl⟩) hK hN hP hD [0, 1] (by decide) rfl 0 7 rfl rfl rfl rfl hl.1 rfl (Nat.le_of_ble_eq_true rfl) d_St_longAt_2 ⟨Nat.le_of_ble_eq_true rfl, Nat.le_of_ble_eq_true rfl⟩) rfl rfl hP hD hS hA [0, 1] [] [0, 1] rfl rfl (by decide) (by decide) (by decide) (fun _ => rfl) ?_
  intro r2 _ H locs hw hP hD hS
  try dsimp only at hw
  have hP : va_P (dC, dI) vwCl [oSt a_p0 A_p0 I_p0, gz cI (A_p0 0) 900 f_p0_bytes] H := hP
  have hD : va_D A [oSt a_p0 A_p0 I_p0, gz cI (A_p0 0) 900 f_p0_bytes] := hD
  refine lv_istore_n (lv' := [(2, .int r2), (0, .ref a_p0), (1, .int x1)]) hx hb d_St_longAt_5 rfl hl (by decide) rfl (fun ls hl => ?_)
  refine lv_aload_n hx hb d_St_longAt_6 rfl (lv_at hl 1 rfl) ?_
  refine lv_iload_n hx hb d_St_longAt_7 rfl (lv_at hl 2 rfl) ?_
  refine lv_iconst (v := 2) hx hb d_St_longAt_8 (by decide) ?_
  refine lv_iadd hx hb d_St_longAt_9 ?_
  refine gc_i (wn := fun (_ : Unit) => [oSt a_p0 A_p0 I_p0, gz cI (A_p0 0) 900 f_p0_bytes]) (wr := []) (gr_V (As := [.int (x1 + 2)]) (rest := []) ⟨hx, hb, hml, hown, hg⟩ (c_St_shortAt l dC dI cI a_p0 A_p0 I_p0 f_p0_bytes (x1 + 2) hw _) (cwV 1 hg (gg_V t_457 t_458 t_459 t_61 t_460) rfl rfl rfl (by decide +kernel) ⟨Nat.le_of_ble_eq_true rfl, Nat.le_of_ble_eq_true rfl⟩) hK hN hP hD [0, 1] (by decide) rfl 0 7 rfl rfl rfl rfl hl.1 rfl (Nat.le_of_ble_eq_true rfl) d_St_longAt_10 ⟨Nat.le_of_ble_eq_true rfl, Nat.le_of_ble_eq_true rfl⟩) rfl rfl hP hD hS hA [0, 1] [] [0, 1] rfl rfl (by decide) (by decide) (by decide) (fun _ => rfl) ?_
  intro r10 _ H locs hw hP hD hS
  try dsimp only at hw
  have hP : va_P (dC, dI) vwCl [oSt a_p0 A_p0 I_p0, gz cI (A_p0 0) 900 f_p0_bytes] H := hP
  have hD : va_D A [oSt a_p0 A_p0 I_p0, gz cI (A_p0 0) 900 f_p0_bytes] := hD
  refine lv_istore_n (lv' := [(3, .int r10), (2, .int r2), (0, .ref a_p0), (1, .int x1)]) hx hb d_St_longAt_13 rfl hl (by decide) rfl (fun ls hl => ?_)
  refine lv_aload_n hx hb d_St_longAt_14 rfl (lv_at hl 2 rfl) ?_
  refine va_get (D := (dC, dI)) (ci := 7) (v := .ref (A_p0 0)) (C := R_St) (T := T_St) (N := 3) hx hb hg in_St hown hK hP 0 rfl rfl 0 (by decide) (hg _ t_88) (fun _ h9 => h9) rfl d_St_longAt_15 ?_
  refine lv_iconst (v := 0) hx hb d_St_longAt_18 (by decide) ?_
  obtain ⟨hin, hw⟩ := hw
  refine va_iald hx hb hK hP 1 0 rfl rfl hin d_St_longAt_19 ?_
  refine lv_bipush (v := 77) hx hb d_St_longAt_20 (by decide) ?_
  refine lv_icmp_ne hx hb d_St_longAt_22 rfl (fun hc => ?_) (fun hc => ?_)
  · have hw := hw.2 hc
    refine lv_iload_n hx hb d_St_longAt_35 rfl (lv_at hl 0 rfl) ?_
    refine lv_i2l hx hb d_St_longAt_36 rfl ?_
    refine lv_ldc2 (v := 65536) hx hb hown (hg _ t_465) d_St_longAt_37 ?_
    refine lv_lmul hx hb d_St_longAt_40 ?_
    refine lv_iload_n hx hb d_St_longAt_41 rfl (lv_at hl 1 rfl) ?_
    refine lv_i2l hx hb d_St_longAt_42 rfl ?_
    refine lv_ladd hx hb d_St_longAt_43 ?_
    exact hret _ _ _ _ _ () d_St_longAt_44 hP hD hS hw
  · have hw := hw.1 hc
    refine lv_iload_n hx hb d_St_longAt_25 rfl (lv_at hl 1 rfl) ?_
    refine lv_i2l hx hb d_St_longAt_26 rfl ?_
    refine lv_ldc2 (v := 65536) hx hb hown (hg _ t_465) d_St_longAt_27 ?_
    refine lv_lmul hx hb d_St_longAt_30 ?_
    refine lv_iload_n hx hb d_St_longAt_31 rfl (lv_at hl 0 rfl) ?_
    refine lv_i2l hx hb d_St_longAt_32 rfl ?_
    refine lv_ladd hx hb d_St_longAt_33 ?_
    exact hret _ _ _ _ _ () d_St_longAt_34 hP hD hS hw
theorem d_En_value_0 : decode b_En_value 0 = .ok (.aload_n 0, 1) := by decide +kernel
theorem d_En_value_1 : decode b_En_value 1 = .ok (.getfield 39, 3) := by decide +kernel
theorem d_En_value_4 : decode b_En_value 4 = .ok (.l2i, 1) := by decide +kernel
theorem d_En_value_5 : decode b_En_value 5 = .ok (.iload_n 2, 1) := by decide +kernel
theorem d_En_value_6 : decode b_En_value 6 = .ok (.aload_n 0, 1) := by decide +kernel
theorem d_En_value_7 : decode b_En_value 7 = .ok (.invokevirtual 33, 3) := by decide +kernel
theorem d_En_value_10 : decode b_En_value 10 = .ok (.imul, 1) := by decide +kernel
theorem d_En_value_11 : decode b_En_value 11 = .ok (.iadd, 1) := by decide +kernel
theorem d_En_value_12 : decode b_En_value 12 = .ok (.istore_n 3, 1) := by decide +kernel
theorem d_En_value_13 : decode b_En_value 13 = .ok (.aload_n 0, 1) := by decide +kernel
theorem d_En_value_14 : decode b_En_value 14 = .ok (.getfield 21, 3) := by decide +kernel
theorem d_En_value_17 : decode b_En_value 17 = .ok (.iconst 4, 1) := by decide +kernel
theorem d_En_value_18 : decode b_En_value 18 = .ok (.if_icmp .ne 9, 3) := by decide +kernel
theorem d_En_value_21 : decode b_En_value 21 = .ok (.aload_n 1, 1) := by decide +kernel
theorem d_En_value_22 : decode b_En_value 22 = .ok (.iload_n 3, 1) := by decide +kernel
theorem d_En_value_23 : decode b_En_value 23 = .ok (.invokevirtual 25, 3) := by decide +kernel
theorem d_En_value_26 : decode b_En_value 26 = .ok (.lreturn, 1) := by decide +kernel
theorem d_En_value_27 : decode b_En_value 27 = .ok (.aload_n 0, 1) := by decide +kernel
theorem d_En_value_28 : decode b_En_value 28 = .ok (.getfield 21, 3) := by decide +kernel
theorem d_En_value_31 : decode b_En_value 31 = .ok (.iconst 3, 1) := by decide +kernel
theorem d_En_value_32 : decode b_En_value 32 = .ok (.if_icmp .ne 10, 3) := by decide +kernel
theorem d_En_value_35 : decode b_En_value 35 = .ok (.aload_n 1, 1) := by decide +kernel
theorem d_En_value_36 : decode b_En_value 36 = .ok (.iload_n 3, 1) := by decide +kernel
theorem d_En_value_37 : decode b_En_value 37 = .ok (.invokevirtual 9, 3) := by decide +kernel
theorem d_En_value_40 : decode b_En_value 40 = .ok (.i2l, 1) := by decide +kernel
theorem d_En_value_41 : decode b_En_value 41 = .ok (.lreturn, 1) := by decide +kernel
theorem d_En_value_42 : decode b_En_value 42 = .ok (.aload_n 1, 1) := by decide +kernel
theorem d_En_value_43 : decode b_En_value 43 = .ok (.iload_n 3, 1) := by decide +kernel
theorem d_En_value_44 : decode b_En_value 44 = .ok (.i2l, 1) := by decide +kernel
theorem d_En_value_45 : decode b_En_value 45 = .ok (.lconst 1, 1) := by decide +kernel
theorem d_En_value_46 : decode b_En_value 46 = .ok (.invokevirtual 42, 3) := by decide +kernel
theorem d_En_value_49 : decode b_En_value 49 = .ok (.ifCond .eq 13, 3) := by decide +kernel
theorem d_En_value_52 : decode b_En_value 52 = .ok (.aload_n 1, 1) := by decide +kernel
theorem d_En_value_53 : decode b_En_value 53 = .ok (.getfield 50, 3) := by decide +kernel
theorem d_En_value_56 : decode b_En_value 56 = .ok (.iload_n 3, 1) := by decide +kernel
theorem d_En_value_57 : decode b_En_value 57 = .ok (.iaload, 1) := by decide +kernel
theorem d_En_value_58 : decode b_En_value 58 = .ok (.i2l, 1) := by decide +kernel
theorem d_En_value_59 : decode b_En_value 59 = .ok (.goto 6, 3) := by decide +kernel
theorem d_En_value_62 : decode b_En_value 62 = .ok (.ldc2_w 54, 3) := by decide +kernel
theorem d_En_value_65 : decode b_En_value 65 = .ok (.lreturn, 1) := by decide +kernel
def wp_En_value (post : Int64 → Prop) (I_p0 : Nat → Int32) (L_p0 : Nat → Int64) (I_p1 : Nat → Int32) (f_p1_bytes : Nat → Int32) (x2 : Int32) : Prop :=
  wp_En_valueBytes (fun (r7 : Int32) =>
    (((I_p0 0) = 4 →
      wp_St_longAt (fun (r23 : Int64) =>
        post r23) I_p1 f_p1_bytes ((L_p0 2).toInt32 + (x2 * r7))) ∧
     (¬ (I_p0 0) = 4 →
      (((I_p0 0) = 3 →
        wp_St_shortAt (fun (r37 : Int32) =>
          post r37.toInt64) I_p1 f_p1_bytes ((L_p0 2).toInt32 + (x2 * r7))) ∧
       (¬ (I_p0 0) = 3 →
        wp_St_holds (fun (r46 : Int32) =>
          ((r46 = 0 →
            post (-1)) ∧
           (¬ r46 = 0 →
            vp_in ((L_p0 2).toInt32 + (x2 * r7)) 900 ∧
            post ((f_p1_bytes ((L_p0 2).toInt32 + (x2 * r7)).toNatClampNeg).toInt64)))) I_p1 (((L_p0 2).toInt32 + (x2 * r7)).toInt64) 1))))) I_p0 L_p0
set_option maxRecDepth 100000 in
set_option maxHeartbeats 4000000 in
theorem c_En_value (l : Launch) (dC : Nat → ClassId) (dI : Nat → Nat → Nat) (cI : ClassId) (a_p0 : Nat) (a_p1 : Nat) (A_p1 : Nat → Nat) (I_p0 : Nat → Int32) (L_p0 : Nat → Int64) (I_p1 : Nat → Int32) (f_p1_bytes : Nat → Int32) (x2 : Int32) {post : Int64 → Prop} (hw : wp_En_value post I_p0 L_p0 I_p1 f_p1_bytes x2) : gm_l l y_En_value ws_En_value ({ frames := 2, cells := 0, slots := 0, locals := 44 } : Room) (dC, dI) vwCl [(cI, .int)] [.ref a_p0, .ref a_p1, .int x2] [oEn a_p0 I_p0 L_p0, oSt a_p1 A_p1 I_p1, gz cI (A_p1 0) 900 f_p1_bytes] (fun (_ : Unit) => [oEn a_p0 I_p0 L_p0, oSt a_p1 A_p1 I_p1, gz cI (A_p1 0) 900 f_p1_bytes]) (fun (r : Int64) (_ : Unit) => post r) := by
  refine gm_lof (cc := b_En_value) (maxL := 4) (by decide) rfl (Nat.le_of_ble_eq_true rfl) ?_
  intro p e s m args below meth c A Q hx hb hml hown hg hK hN hA hret
  have hown : s.vm.findClass R_En = some m.cls := hown
  intro ls hl hP hD hS
  have hl : lv_has ls 4 [(0, .ref a_p0), (1, .ref a_p1), (2, .int x2)] := hl
  unfold wp_En_value at hw
  refine lv_aload_n hx hb d_En_value_0 rfl (lv_at hl 0 rfl) ?_
  refine va_get (D := (dC, dI)) (ci := 1) (v := .long (L_p0 2)) (C := R_En) (T := T_En) (N := 4) hx hb hg in_En hown hK hP 0 rfl rfl 2 (by decide) (hg _ t_268) (fun _ h9 => h9) rfl d_En_value_1 ?_
  refine lv_l2i hx hb d_En_value_4 rfl ?_
  refine lv_iload_n hx hb d_En_value_5 rfl (lv_at hl 2 rfl) ?_
  refine lv_aload_n hx hb d_En_value_6 rfl (lv_at hl 0 rfl) ?_
  refine gc_i (wn := fun (_ : Unit) => [oEn a_p0 I_p0 L_p0, oSt a_p1 A_p1 I_p1, gz cI (A_p1 0) 900 f_p1_bytes]) (wr := [oSt a_p1 A_p1 I_p1, gz cI (A_p1 0) 900 f_p1_bytes]) (gr_V (As := []) (rest := [.int x2, .int (L_p0 2).toInt32]) ⟨hx, hb, hml, hown, hg⟩ (c_En_valueBytes l dC dI cI a_p0 I_p0 L_p0 hw _) (cwV 0 hg (gg_V t_672 t_674 t_20 t_69 t_675) rfl rfl rfl (by decide +kernel) ⟨Nat.le_of_ble_eq_true rfl, Nat.le_of_ble_eq_true rfl⟩) hK hN hP hD [0] (by decide) rfl 0 1 rfl rfl rfl rfl hl.1 rfl (Nat.le_of_ble_eq_true rfl) d_En_value_7 ⟨Nat.le_of_ble_eq_true rfl, Nat.le_of_ble_eq_true rfl⟩) rfl rfl hP hD hS hA [0] [1, 2] [2, 0, 1] rfl rfl (by decide) (by decide) (by decide) (fun _ => rfl) ?_
  intro r7 _ H locs hw hP hD hS
  try dsimp only at hw
  have hP : va_P (dC, dI) vwCl [oEn a_p0 I_p0 L_p0, oSt a_p1 A_p1 I_p1, gz cI (A_p1 0) 900 f_p1_bytes] H := hP
  have hD : va_D A [oEn a_p0 I_p0 L_p0, oSt a_p1 A_p1 I_p1, gz cI (A_p1 0) 900 f_p1_bytes] := hD
  refine lv_imul hx hb d_En_value_10 ?_
  refine lv_iadd hx hb d_En_value_11 ?_
  refine lv_istore_n (lv' := [(3, .int ((L_p0 2).toInt32 + (x2 * r7))), (0, .ref a_p0), (1, .ref a_p1), (2, .int x2)]) hx hb d_En_value_12 rfl hl (by decide) rfl (fun ls hl => ?_)
  refine lv_aload_n hx hb d_En_value_13 rfl (lv_at hl 1 rfl) ?_
  refine va_get (D := (dC, dI)) (ci := 1) (v := .int (I_p0 0)) (C := R_En) (T := T_En) (N := 4) hx hb hg in_En hown hK hP 0 rfl rfl 0 (by decide) (hg _ t_265) (fun _ h9 => h9) rfl d_En_value_14 ?_
  refine lv_iconst (v := 4) hx hb d_En_value_17 (by decide) ?_
  refine lv_icmp_ne hx hb d_En_value_18 rfl (fun hc => ?_) (fun hc => ?_)
  · have hw := hw.2 hc
    refine lv_aload_n hx hb d_En_value_27 rfl (lv_at hl 1 rfl) ?_
    refine va_get (D := (dC, dI)) (ci := 1) (v := .int (I_p0 0)) (C := R_En) (T := T_En) (N := 4) hx hb hg in_En hown hK hP 0 rfl rfl 0 (by decide) (hg _ t_265) (fun _ h9 => h9) rfl d_En_value_28 ?_
    refine lv_iconst (v := 3) hx hb d_En_value_31 (by decide) ?_
    refine lv_icmp_ne hx hb d_En_value_32 rfl (fun hc => ?_) (fun hc => ?_)
    · have hw := hw.2 hc
      refine lv_aload_n hx hb d_En_value_42 rfl (lv_at hl 2 rfl) ?_
      refine lv_iload_n hx hb d_En_value_43 rfl (lv_at hl 0 rfl) ?_
      refine lv_i2l hx hb d_En_value_44 rfl ?_
      refine lv_lconst (v := 1) hx hb d_En_value_45 (by decide) ?_
      refine gc_i (wn := fun (_ : Unit) => [oEn a_p0 I_p0 L_p0, oSt a_p1 A_p1 I_p1, gz cI (A_p1 0) 900 f_p1_bytes]) (wr := [oEn a_p0 I_p0 L_p0, gz cI (A_p1 0) 900 f_p1_bytes]) (gr_V (As := [.long ((L_p0 2).toInt32 + (x2 * r7)).toInt64, .long 1]) (rest := []) ⟨hx, hb, hml, hown, hg⟩ (c_St_holds l dC dI cI a_p1 A_p1 I_p1 (((L_p0 2).toInt32 + (x2 * r7)).toInt64) 1 hw _) (cwV 2 hg (gg_V t_677 t_363 t_364 t_61 t_365) rfl rfl rfl (by decide +kernel) ⟨Nat.le_of_ble_eq_true rfl, Nat.le_of_ble_eq_true rfl⟩) hK hN hP hD [1] (by decide) rfl 1 7 rfl rfl rfl rfl hl.1 rfl (Nat.le_of_ble_eq_true rfl) d_En_value_46 ⟨Nat.le_of_ble_eq_true rfl, Nat.le_of_ble_eq_true rfl⟩) rfl rfl hP hD hS hA [1] [0, 2] [0, 2, 1] rfl rfl (by decide) (by decide) (by decide) (fun _ => rfl) ?_
      intro r46 _ H locs hw hP hD hS
      try dsimp only at hw
      have hP : va_P (dC, dI) vwCl [oEn a_p0 I_p0 L_p0, oSt a_p1 A_p1 I_p1, gz cI (A_p1 0) 900 f_p1_bytes] H := hP
      have hD : va_D A [oEn a_p0 I_p0 L_p0, oSt a_p1 A_p1 I_p1, gz cI (A_p1 0) 900 f_p1_bytes] := hD
      refine lv_if_eq hx hb d_En_value_49 rfl (fun hc => ?_) (fun hc => ?_)
      · have hw := hw.1 hc
        refine lv_ldc2 (v := (-1)) hx hb hown (hg _ t_687) d_En_value_62 ?_
        exact hret _ _ _ _ _ () d_En_value_65 hP hD hS hw
      · have hw := hw.2 hc
        refine lv_aload_n hx hb d_En_value_52 rfl (lv_at hl 2 rfl) ?_
        refine va_get (D := (dC, dI)) (ci := 7) (v := .ref (A_p1 0)) (C := R_St) (T := T_St) (N := 3) hx hb hg in_St hown hK hP 1 rfl rfl 0 (by decide) (hg _ t_93) (fun _ h9 => h9) rfl d_En_value_53 ?_
        refine lv_iload_n hx hb d_En_value_56 rfl (lv_at hl 0 rfl) ?_
        obtain ⟨hin, hw⟩ := hw
        refine va_iald hx hb hK hP 2 0 rfl rfl hin d_En_value_57 ?_
        refine lv_i2l hx hb d_En_value_58 rfl ?_
        refine lv_goto hx hb d_En_value_59 rfl ?_
        exact hret _ _ _ _ _ () d_En_value_65 hP hD hS hw
    · have hw := hw.1 hc
      refine lv_aload_n hx hb d_En_value_35 rfl (lv_at hl 2 rfl) ?_
      refine lv_iload_n hx hb d_En_value_36 rfl (lv_at hl 0 rfl) ?_
      refine gc_i (wn := fun (_ : Unit) => [oEn a_p0 I_p0 L_p0, oSt a_p1 A_p1 I_p1, gz cI (A_p1 0) 900 f_p1_bytes]) (wr := [oEn a_p0 I_p0 L_p0]) (gr_V (As := [.int ((L_p0 2).toInt32 + (x2 * r7))]) (rest := []) ⟨hx, hb, hml, hown, hg⟩ (c_St_shortAt l dC dI cI a_p1 A_p1 I_p1 f_p1_bytes ((L_p0 2).toInt32 + (x2 * r7)) hw _) (cwV 1 hg (gg_V t_666 t_458 t_459 t_61 t_460) rfl rfl rfl (by decide +kernel) ⟨Nat.le_of_ble_eq_true rfl, Nat.le_of_ble_eq_true rfl⟩) hK hN hP hD [1, 2] (by decide) rfl 1 7 rfl rfl rfl rfl hl.1 rfl (Nat.le_of_ble_eq_true rfl) d_En_value_37 ⟨Nat.le_of_ble_eq_true rfl, Nat.le_of_ble_eq_true rfl⟩) rfl rfl hP hD hS hA [1, 2] [0] [0, 1, 2] rfl rfl (by decide) (by decide) (by decide) (fun _ => rfl) ?_
      intro r37 _ H locs hw hP hD hS
      try dsimp only at hw
      have hP : va_P (dC, dI) vwCl [oEn a_p0 I_p0 L_p0, oSt a_p1 A_p1 I_p1, gz cI (A_p1 0) 900 f_p1_bytes] H := hP
      have hD : va_D A [oEn a_p0 I_p0 L_p0, oSt a_p1 A_p1 I_p1, gz cI (A_p1 0) 900 f_p1_bytes] := hD
      refine lv_i2l hx hb d_En_value_40 rfl ?_
      exact hret _ _ _ _ _ () d_En_value_41 hP hD hS hw
  · have hw := hw.1 hc
    refine lv_aload_n hx hb d_En_value_21 rfl (lv_at hl 2 rfl) ?_
    refine lv_iload_n hx hb d_En_value_22 rfl (lv_at hl 0 rfl) ?_
    refine gc_l (wn := fun (_ : Unit) => [oEn a_p0 I_p0 L_p0, oSt a_p1 A_p1 I_p1, gz cI (A_p1 0) 900 f_p1_bytes]) (wr := [oEn a_p0 I_p0 L_p0]) (gr_V (As := [.int ((L_p0 2).toInt32 + (x2 * r7))]) (rest := []) ⟨hx, hb, hml, hown, hg⟩ (c_St_longAt l dC dI cI a_p1 A_p1 I_p1 f_p1_bytes ((L_p0 2).toInt32 + (x2 * r7)) hw _) (cwV 1 hg (gg_V t_671 t_462 t_463 t_61 t_464) rfl rfl rfl (by decide +kernel) ⟨Nat.le_of_ble_eq_true rfl, Nat.le_of_ble_eq_true rfl⟩) hK hN hP hD [1, 2] (by decide) rfl 1 7 rfl rfl rfl rfl hl.1 rfl (Nat.le_of_ble_eq_true rfl) d_En_value_23 ⟨Nat.le_of_ble_eq_true rfl, Nat.le_of_ble_eq_true rfl⟩) rfl rfl hP hD hS hA [1, 2] [0] [0, 1, 2] rfl rfl (by decide) (by decide) (by decide) (fun _ => rfl) ?_
    intro r23 _ H locs hw hP hD hS
    try dsimp only at hw
    have hP : va_P (dC, dI) vwCl [oEn a_p0 I_p0 L_p0, oSt a_p1 A_p1 I_p1, gz cI (A_p1 0) 900 f_p1_bytes] H := hP
    have hD : va_D A [oEn a_p0 I_p0 L_p0, oSt a_p1 A_p1 I_p1, gz cI (A_p1 0) 900 f_p1_bytes] := hD
    exact hret _ _ _ _ _ () d_En_value_26 hP hD hS hw
theorem d_Nd_readBits_0 : decode b_Nd_readBits 0 = .ok (.iconst 0, 1) := by decide +kernel
theorem d_Nd_readBits_1 : decode b_Nd_readBits 1 = .ok (.istore_n 3, 1) := by decide +kernel
theorem d_Nd_readBits_2 : decode b_Nd_readBits 2 = .ok (.iload_n 1, 1) := by decide +kernel
theorem d_Nd_readBits_3 : decode b_Nd_readBits 3 = .ok (.istore 4, 2) := by decide +kernel
theorem d_Nd_readBits_5 : decode b_Nd_readBits 5 = .ok (.iload 4, 2) := by decide +kernel
theorem d_Nd_readBits_7 : decode b_Nd_readBits 7 = .ok (.iload_n 1, 1) := by decide +kernel
theorem d_Nd_readBits_8 : decode b_Nd_readBits 8 = .ok (.iload_n 2, 1) := by decide +kernel
theorem d_Nd_readBits_9 : decode b_Nd_readBits 9 = .ok (.iadd, 1) := by decide +kernel
theorem d_Nd_readBits_10 : decode b_Nd_readBits 10 = .ok (.if_icmp .ge 35, 3) := by decide +kernel
theorem d_Nd_readBits_13 : decode b_Nd_readBits 13 = .ok (.iload_n 3, 1) := by decide +kernel
theorem d_Nd_readBits_14 : decode b_Nd_readBits 14 = .ok (.iconst 2, 1) := by decide +kernel
theorem d_Nd_readBits_15 : decode b_Nd_readBits 15 = .ok (.imul, 1) := by decide +kernel
theorem d_Nd_readBits_16 : decode b_Nd_readBits 16 = .ok (.aload_n 0, 1) := by decide +kernel
theorem d_Nd_readBits_17 : decode b_Nd_readBits 17 = .ok (.getfield 41, 3) := by decide +kernel
theorem d_Nd_readBits_20 : decode b_Nd_readBits 20 = .ok (.iload 4, 2) := by decide +kernel
theorem d_Nd_readBits_22 : decode b_Nd_readBits 22 = .ok (.bipush 8, 2) := by decide +kernel
theorem d_Nd_readBits_24 : decode b_Nd_readBits 24 = .ok (.idiv, 1) := by decide +kernel
theorem d_Nd_readBits_25 : decode b_Nd_readBits 25 = .ok (.iaload, 1) := by decide +kernel
theorem d_Nd_readBits_26 : decode b_Nd_readBits 26 = .ok (.bipush 7, 2) := by decide +kernel
theorem d_Nd_readBits_28 : decode b_Nd_readBits 28 = .ok (.iload 4, 2) := by decide +kernel
theorem d_Nd_readBits_30 : decode b_Nd_readBits 30 = .ok (.bipush 8, 2) := by decide +kernel
theorem d_Nd_readBits_32 : decode b_Nd_readBits 32 = .ok (.irem, 1) := by decide +kernel
theorem d_Nd_readBits_33 : decode b_Nd_readBits 33 = .ok (.isub, 1) := by decide +kernel
theorem d_Nd_readBits_34 : decode b_Nd_readBits 34 = .ok (.ishr, 1) := by decide +kernel
theorem d_Nd_readBits_35 : decode b_Nd_readBits 35 = .ok (.iconst 1, 1) := by decide +kernel
theorem d_Nd_readBits_36 : decode b_Nd_readBits 36 = .ok (.iand, 1) := by decide +kernel
theorem d_Nd_readBits_37 : decode b_Nd_readBits 37 = .ok (.iadd, 1) := by decide +kernel
theorem d_Nd_readBits_38 : decode b_Nd_readBits 38 = .ok (.istore_n 3, 1) := by decide +kernel
theorem d_Nd_readBits_39 : decode b_Nd_readBits 39 = .ok (.iinc 4 1, 3) := by decide +kernel
theorem d_Nd_readBits_42 : decode b_Nd_readBits 42 = .ok (.goto (-37), 3) := by decide +kernel
theorem d_Nd_readBits_45 : decode b_Nd_readBits 45 = .ok (.iload_n 3, 1) := by decide +kernel
theorem d_Nd_readBits_46 : decode b_Nd_readBits 46 = .ok (.ireturn, 1) := by decide +kernel
def wp_Nd_readBits_l5 (post : Int32 → Prop) (I_p0 : Nat → Int32) (f_p0_bytes : Nat → Int32) : Nat → Int32 → Int32 → Int32 → Int32 → Prop
  | 0, _, _, _, _ => False
  | n + 1, x1, x2, x3, x4 =>
    (((x1 + x2) ≤ x4 →
      post x3) ∧
     (¬ (x1 + x2) ≤ x4 →
      vp_in (x4 / 8) 900 ∧
      ∀ v : Int32, v = ((x3 * 2) + (((f_p0_bytes (x4 / 8).toNatClampNeg) >>> ((7 - (x4 - x4 / 8 * 8)) &&& 31)) &&& 1)) →
      wp_Nd_readBits_l5 post I_p0 f_p0_bytes n x1 x2 v (x4 + 1)))
def wp_Nd_readBits (post : Int32 → Prop) (I_p0 : Nat → Int32) (f_p0_bytes : Nat → Int32) (x1 : Int32) (x2 : Int32) : Prop :=
  (∃ n1 : Nat, wp_Nd_readBits_l5 post I_p0 f_p0_bytes n1 x1 x2 0 x1)
set_option maxRecDepth 100000 in
set_option maxHeartbeats 4000000 in
theorem c_Nd_readBits (l : Launch) (dC : Nat → ClassId) (dI : Nat → Nat → Nat) (cI : ClassId) (a_p0 : Nat) (A_p0 : Nat → Nat) (I_p0 : Nat → Int32) (f_p0_bytes : Nat → Int32) (x1 : Int32) (x2 : Int32) {post : Int32 → Prop} (hw : wp_Nd_readBits post I_p0 f_p0_bytes x1 x2) : gm_i l y_Nd_readBits ws_Nd_readBits ({ frames := 0, cells := 0, slots := 0, locals := 0 } : Room) (dC, dI) vwCl [(cI, .int)] [.ref a_p0, .int x1, .int x2] [oSt a_p0 A_p0 I_p0, gz cI (A_p0 0) 900 f_p0_bytes] (fun (_ : Unit) => [oSt a_p0 A_p0 I_p0, gz cI (A_p0 0) 900 f_p0_bytes]) (fun (r : Int32) (_ : Unit) => post r) := by
  refine gm_iof (cc := b_Nd_readBits) (maxL := 5) (ty := .int) (by decide) rfl (Nat.le_of_ble_eq_true rfl) ?_
  intro p e s m args below meth c A Q hx hb hml hown hg hK hN hA hret
  have hown : s.vm.findClass R_Nd = some m.cls := hown
  have l5 : ∀ n : Nat, ∀ (H : Heap) (locs : List Loc) (ls : Array Slot) (x1 : Int32) (x2 : Int32) (x3 : Int32) (x4 : Int32), va_P (dC, dI) vwCl [oSt a_p0 A_p0 I_p0, gz cI (A_p0 0) 900 f_p0_bytes] H → va_D A [oSt a_p0 A_p0 I_p0, gz cI (A_p0 0) 900 f_p0_bytes] → va_S A s.heap H locs → lv_has ls 5 [(0, .ref a_p0), (1, .int x1), (2, .int x2), (3, .int x3), (4, .int x4)] → wp_Nd_readBits_l5 post I_p0 f_p0_bytes n x1 x2 x3 x4 → W p l e ({ frames := 0, cells := 0, slots := 0, locals := 0 } : Room) s m args below meth c H locs 0 0 Q (F0 m 5 ls []) := by
    intro n
    induction n with
    | zero => intro H locs ls x1 x2 x3 x4 hP hD hS hl hw; exact hw.elim
    | succ n ih =>
      intro H locs ls x1 x2 x3 x4 hP hD hS hl hw
      unfold wp_Nd_readBits_l5 at hw
      refine lv_iload hx hb d_Nd_readBits_5 (lv_at hl 4 rfl) ?_
      refine lv_iload_n hx hb d_Nd_readBits_7 rfl (lv_at hl 1 rfl) ?_
      refine lv_iload_n hx hb d_Nd_readBits_8 rfl (lv_at hl 2 rfl) ?_
      refine lv_iadd hx hb d_Nd_readBits_9 ?_
      refine lv_icmp_ge hx hb d_Nd_readBits_10 rfl (fun hc => ?_) (fun hc => ?_)
      · have hw := hw.1 hc
        refine lv_iload_n hx hb d_Nd_readBits_45 rfl (lv_at hl 3 rfl) ?_
        exact hret _ _ _ _ _ () d_Nd_readBits_46 rfl hP hD hS hw
      · have hw := hw.2 hc
        refine lv_iload_n hx hb d_Nd_readBits_13 rfl (lv_at hl 3 rfl) ?_
        refine lv_iconst (v := 2) hx hb d_Nd_readBits_14 (by decide) ?_
        refine lv_imul hx hb d_Nd_readBits_15 ?_
        refine lv_aload_n hx hb d_Nd_readBits_16 rfl (lv_at hl 0 rfl) ?_
        refine va_get (D := (dC, dI)) (ci := 7) (v := .ref (A_p0 0)) (C := R_St) (T := T_St) (N := 3) hx hb hg in_St hown hK hP 0 rfl rfl 0 (by decide) (hg _ t_89) (fun _ h9 => h9) rfl d_Nd_readBits_17 ?_
        refine lv_iload hx hb d_Nd_readBits_20 (lv_at hl 4 rfl) ?_
        refine lv_bipush (v := 8) hx hb d_Nd_readBits_22 (by decide) ?_
        refine lv_idiv hx hb d_Nd_readBits_24 (by decide) ?_
        obtain ⟨hin, hw⟩ := hw
        refine va_iald hx hb hK hP 1 0 rfl rfl hin d_Nd_readBits_25 ?_
        refine lv_bipush (v := 7) hx hb d_Nd_readBits_26 (by decide) ?_
        refine lv_iload hx hb d_Nd_readBits_28 (lv_at hl 4 rfl) ?_
        refine lv_bipush (v := 8) hx hb d_Nd_readBits_30 (by decide) ?_
        refine lv_irem hx hb d_Nd_readBits_32 (by decide) ?_
        refine lv_isub hx hb d_Nd_readBits_33 ?_
        refine lv_ishr hx hb d_Nd_readBits_34 ?_
        refine lv_iconst (v := 1) hx hb d_Nd_readBits_35 (by decide) ?_
        refine lv_iand hx hb d_Nd_readBits_36 ?_
        refine lv_iadd hx hb d_Nd_readBits_37 ?_
        refine lv_topi (fun v e_v => ?_)
        have hw := hw v e_v
        refine lv_istore_n (lv' := [(3, .int v), (0, .ref a_p0), (1, .int x1), (2, .int x2), (4, .int x4)]) hx hb d_Nd_readBits_38 rfl hl (by decide) rfl (fun ls hl => ?_)
        refine lv_iinc (k := 4) (v := (x4 + 1)) (lv' := [(4, .int (x4 + 1)), (3, .int v), (0, .ref a_p0), (1, .int x1), (2, .int x2)]) hx hb d_Nd_readBits_39 hl rfl (congrArg (fun z => x4 + z) (by decide : Int32.ofInt 1 = 1)) (by decide) rfl (fun ls hl => ?_)
        refine lv_goto hx hb d_Nd_readBits_42 rfl ?_
        exact ih _ _ _ x1 x2 v (x4 + 1) hP hD hS (lv_sub hl [2, 3, 4, 1, 0] rfl) hw
  intro ls hl hP hD hS
  have hl : lv_has ls 5 [(0, .ref a_p0), (1, .int x1), (2, .int x2)] := hl
  unfold wp_Nd_readBits at hw
  refine lv_iconst (v := 0) hx hb d_Nd_readBits_0 (by decide) ?_
  refine lv_istore_n (lv' := [(3, .int 0), (0, .ref a_p0), (1, .int x1), (2, .int x2)]) hx hb d_Nd_readBits_1 rfl hl (by decide) rfl (fun ls hl => ?_)
  refine lv_iload_n hx hb d_Nd_readBits_2 rfl (lv_at hl 2 rfl) ?_
  refine lv_istore (lv' := [(4, .int x1), (3, .int 0), (0, .ref a_p0), (1, .int x1), (2, .int x2)]) hx hb d_Nd_readBits_3 hl (by decide) rfl (fun ls hl => ?_)
  obtain ⟨n1, hw⟩ := hw
  exact l5 n1 _ _ _ x1 x2 0 x1 hP hD hS (lv_sub hl [2, 3, 4, 1, 0] rfl) hw
theorem d_Nd_rowSize_0 : decode b_Nd_rowSize 0 = .ok (.iload_n 1, 1) := by decide +kernel
theorem d_Nd_rowSize_1 : decode b_Nd_rowSize 1 = .ok (.bipush 16, 2) := by decide +kernel
theorem d_Nd_rowSize_3 : decode b_Nd_rowSize 3 = .ok (.if_icmp .ge 5, 3) := by decide +kernel
theorem d_Nd_rowSize_6 : decode b_Nd_rowSize 6 = .ok (.iconst 1, 1) := by decide +kernel
theorem d_Nd_rowSize_7 : decode b_Nd_rowSize 7 = .ok (.ireturn, 1) := by decide +kernel
theorem d_Nd_rowSize_8 : decode b_Nd_rowSize 8 = .ok (.iload_n 1, 1) := by decide +kernel
theorem d_Nd_rowSize_9 : decode b_Nd_rowSize 9 = .ok (.bipush 18, 2) := by decide +kernel
theorem d_Nd_rowSize_11 : decode b_Nd_rowSize 11 = .ok (.if_icmp .lt 13, 3) := by decide +kernel
theorem d_Nd_rowSize_14 : decode b_Nd_rowSize 14 = .ok (.iload_n 1, 1) := by decide +kernel
theorem d_Nd_rowSize_15 : decode b_Nd_rowSize 15 = .ok (.bipush 126, 2) := by decide +kernel
theorem d_Nd_rowSize_17 : decode b_Nd_rowSize 17 = .ok (.if_icmp .gt 7, 3) := by decide +kernel
theorem d_Nd_rowSize_20 : decode b_Nd_rowSize 20 = .ok (.iconst 1, 1) := by decide +kernel
theorem d_Nd_rowSize_21 : decode b_Nd_rowSize 21 = .ok (.goto 4, 3) := by decide +kernel
theorem d_Nd_rowSize_24 : decode b_Nd_rowSize 24 = .ok (.iconst 0, 1) := by decide +kernel
theorem d_Nd_rowSize_25 : decode b_Nd_rowSize 25 = .ok (.istore_n 2, 1) := by decide +kernel
theorem d_Nd_rowSize_26 : decode b_Nd_rowSize 26 = .ok (.iload_n 1, 1) := by decide +kernel
theorem d_Nd_rowSize_27 : decode b_Nd_rowSize 27 = .ok (.bipush 17, 2) := by decide +kernel
theorem d_Nd_rowSize_29 : decode b_Nd_rowSize 29 = .ok (.isub, 1) := by decide +kernel
theorem d_Nd_rowSize_30 : decode b_Nd_rowSize 30 = .ok (.istore_n 3, 1) := by decide +kernel
theorem d_Nd_rowSize_31 : decode b_Nd_rowSize 31 = .ok (.iload_n 2, 1) := by decide +kernel
theorem d_Nd_rowSize_32 : decode b_Nd_rowSize 32 = .ok (.ifCond .eq 22, 3) := by decide +kernel
theorem d_Nd_rowSize_35 : decode b_Nd_rowSize 35 = .ok (.iload_n 3, 1) := by decide +kernel
theorem d_Nd_rowSize_36 : decode b_Nd_rowSize 36 = .ok (.aload_n 0, 1) := by decide +kernel
theorem d_Nd_rowSize_37 : decode b_Nd_rowSize 37 = .ok (.getfield 22, 3) := by decide +kernel
theorem d_Nd_rowSize_40 : decode b_Nd_rowSize 40 = .ok (.if_icmp .gt 14, 3) := by decide +kernel
theorem d_Nd_rowSize_43 : decode b_Nd_rowSize 43 = .ok (.aload_n 0, 1) := by decide +kernel
theorem d_Nd_rowSize_44 : decode b_Nd_rowSize 44 = .ok (.getfield 15, 3) := by decide +kernel
theorem d_Nd_rowSize_47 : decode b_Nd_rowSize 47 = .ok (.iload_n 3, 1) := by decide +kernel
theorem d_Nd_rowSize_48 : decode b_Nd_rowSize 48 = .ok (.iaload, 1) := by decide +kernel
theorem d_Nd_rowSize_49 : decode b_Nd_rowSize 49 = .ok (.iconst 1, 1) := by decide +kernel
theorem d_Nd_rowSize_50 : decode b_Nd_rowSize 50 = .ok (.iadd, 1) := by decide +kernel
theorem d_Nd_rowSize_51 : decode b_Nd_rowSize 51 = .ok (.goto 4, 3) := by decide +kernel
theorem d_Nd_rowSize_54 : decode b_Nd_rowSize 54 = .ok (.iconst 0, 1) := by decide +kernel
theorem d_Nd_rowSize_55 : decode b_Nd_rowSize 55 = .ok (.ireturn, 1) := by decide +kernel
def wp_Nd_rowSize_b54 (post : Int32 → Prop) (I_p0 : Nat → Int32) (f_p0_sizes : Nat → Int32) : Prop :=
  post 0
def wp_Nd_rowSize_b25 (post : Int32 → Prop) (I_p0 : Nat → Int32) (f_p0_sizes : Nat → Int32) (x1 : Int32) (s0 : Int32) : Prop :=
  ((s0 = 0 →
    wp_Nd_rowSize_b54 post I_p0 f_p0_sizes) ∧
   (¬ s0 = 0 →
    (((I_p0 2) < (x1 - 17) →
      wp_Nd_rowSize_b54 post I_p0 f_p0_sizes) ∧
     (¬ (I_p0 2) < (x1 - 17) →
      vp_in (x1 - 17) 110 ∧
      post ((f_p0_sizes (x1 - 17).toNatClampNeg) + 1)))))
def wp_Nd_rowSize_b24 (post : Int32 → Prop) (I_p0 : Nat → Int32) (f_p0_sizes : Nat → Int32) (x1 : Int32) : Prop :=
  wp_Nd_rowSize_b25 post I_p0 f_p0_sizes x1 0
def wp_Nd_rowSize (post : Int32 → Prop) (I_p0 : Nat → Int32) (f_p0_sizes : Nat → Int32) (x1 : Int32) : Prop :=
  ((16 ≤ x1 →
    ((x1 < 18 →
      wp_Nd_rowSize_b24 post I_p0 f_p0_sizes x1) ∧
     (¬ x1 < 18 →
      ((126 < x1 →
        wp_Nd_rowSize_b24 post I_p0 f_p0_sizes x1) ∧
       (¬ 126 < x1 →
        wp_Nd_rowSize_b25 post I_p0 f_p0_sizes x1 1))))) ∧
   (¬ 16 ≤ x1 →
    post 1))
set_option maxRecDepth 100000 in
set_option maxHeartbeats 4000000 in
theorem c_Nd_rowSize (l : Launch) (dC : Nat → ClassId) (dI : Nat → Nat → Nat) (cI : ClassId) (a_p0 : Nat) (A_p0 : Nat → Nat) (I_p0 : Nat → Int32) (f_p0_sizes : Nat → Int32) (x1 : Int32) {post : Int32 → Prop} (hw : wp_Nd_rowSize post I_p0 f_p0_sizes x1) : gm_i l y_Nd_rowSize ws_Nd_rowSize ({ frames := 0, cells := 0, slots := 0, locals := 0 } : Room) (dC, dI) vwCl [(cI, .int)] [.ref a_p0, .int x1] [oNd a_p0 A_p0 I_p0, gz cI (A_p0 1) 110 f_p0_sizes] (fun (_ : Unit) => [oNd a_p0 A_p0 I_p0, gz cI (A_p0 1) 110 f_p0_sizes]) (fun (r : Int32) (_ : Unit) => post r) := by
  refine gm_iof (cc := b_Nd_rowSize) (maxL := 4) (ty := .int) (by decide) rfl (Nat.le_of_ble_eq_true rfl) ?_
  intro p e s m args below meth c A Q hx hb hml hown hg hK hN hA hret
  have hown : s.vm.findClass R_Nd = some m.cls := hown
  have b54 : ∀ (H : Heap) (locs : List Loc) (ls : Array Slot), va_P (dC, dI) vwCl [oNd a_p0 A_p0 I_p0, gz cI (A_p0 1) 110 f_p0_sizes] H → va_D A [oNd a_p0 A_p0 I_p0, gz cI (A_p0 1) 110 f_p0_sizes] → va_S A s.heap H locs → lv_has ls 4 [] → wp_Nd_rowSize_b54 post I_p0 f_p0_sizes → W p l e ({ frames := 0, cells := 0, slots := 0, locals := 0 } : Room) s m args below meth c H locs 0 0 Q (F0 m 54 ls []) := by
    intro H locs ls hP hD hS hl hw
    unfold wp_Nd_rowSize_b54 at hw
    refine lv_iconst (v := 0) hx hb d_Nd_rowSize_54 (by decide) ?_
    exact hret _ _ _ _ _ () d_Nd_rowSize_55 rfl hP hD hS hw
  have b25 : ∀ (H : Heap) (locs : List Loc) (ls : Array Slot) (x1 : Int32) (s0 : Int32), va_P (dC, dI) vwCl [oNd a_p0 A_p0 I_p0, gz cI (A_p0 1) 110 f_p0_sizes] H → va_D A [oNd a_p0 A_p0 I_p0, gz cI (A_p0 1) 110 f_p0_sizes] → va_S A s.heap H locs → lv_has ls 4 [(0, .ref a_p0), (1, .int x1)] → wp_Nd_rowSize_b25 post I_p0 f_p0_sizes x1 s0 → W p l e ({ frames := 0, cells := 0, slots := 0, locals := 0 } : Room) s m args below meth c H locs 0 0 Q (F0 m 25 ls [.int s0]) := by
    intro H locs ls x1 s0 hP hD hS hl hw
    unfold wp_Nd_rowSize_b25 at hw
    refine lv_istore_n (lv' := [(2, .int s0), (0, .ref a_p0), (1, .int x1)]) hx hb d_Nd_rowSize_25 rfl hl (by decide) rfl (fun ls hl => ?_)
    refine lv_iload_n hx hb d_Nd_rowSize_26 rfl (lv_at hl 2 rfl) ?_
    refine lv_bipush (v := 17) hx hb d_Nd_rowSize_27 (by decide) ?_
    refine lv_isub hx hb d_Nd_rowSize_29 ?_
    refine lv_istore_n (lv' := [(3, .int (x1 - 17)), (2, .int s0), (0, .ref a_p0), (1, .int x1)]) hx hb d_Nd_rowSize_30 rfl hl (by decide) rfl (fun ls hl => ?_)
    refine lv_iload_n hx hb d_Nd_rowSize_31 rfl (lv_at hl 1 rfl) ?_
    refine lv_if_eq hx hb d_Nd_rowSize_32 rfl (fun hc => ?_) (fun hc => ?_)
    · have hw := hw.1 hc
      exact b54 _ _ _ hP hD hS (lv_sub hl [] rfl) hw
    · have hw := hw.2 hc
      refine lv_iload_n hx hb d_Nd_rowSize_35 rfl (lv_at hl 0 rfl) ?_
      refine lv_aload_n hx hb d_Nd_rowSize_36 rfl (lv_at hl 2 rfl) ?_
      refine va_get (D := (dC, dI)) (ci := 4) (v := .int (I_p0 2)) (C := R_Nd) (T := T_Nd) (N := 3) hx hb hg in_Nd hown hK hP 0 rfl rfl 2 (by decide) (hg _ t_251) (fun _ h9 => h9) rfl d_Nd_rowSize_37 ?_
      refine lv_icmp_gt hx hb d_Nd_rowSize_40 rfl (fun hc => ?_) (fun hc => ?_)
      · have hw := hw.1 hc
        exact b54 _ _ _ hP hD hS (lv_sub hl [] rfl) hw
      · have hw := hw.2 hc
        refine lv_aload_n hx hb d_Nd_rowSize_43 rfl (lv_at hl 2 rfl) ?_
        refine va_get (D := (dC, dI)) (ci := 4) (v := .ref (A_p0 1)) (C := R_Nd) (T := T_Nd) (N := 3) hx hb hg in_Nd hown hK hP 0 rfl rfl 1 (by decide) (hg _ t_250) (fun _ h9 => h9) rfl d_Nd_rowSize_44 ?_
        refine lv_iload_n hx hb d_Nd_rowSize_47 rfl (lv_at hl 0 rfl) ?_
        obtain ⟨hin, hw⟩ := hw
        refine va_iald hx hb hK hP 1 0 rfl rfl hin d_Nd_rowSize_48 ?_
        refine lv_iconst (v := 1) hx hb d_Nd_rowSize_49 (by decide) ?_
        refine lv_iadd hx hb d_Nd_rowSize_50 ?_
        refine lv_goto hx hb d_Nd_rowSize_51 rfl ?_
        exact hret _ _ _ _ _ () d_Nd_rowSize_55 rfl hP hD hS hw
  have b24 : ∀ (H : Heap) (locs : List Loc) (ls : Array Slot) (x1 : Int32), va_P (dC, dI) vwCl [oNd a_p0 A_p0 I_p0, gz cI (A_p0 1) 110 f_p0_sizes] H → va_D A [oNd a_p0 A_p0 I_p0, gz cI (A_p0 1) 110 f_p0_sizes] → va_S A s.heap H locs → lv_has ls 4 [(0, .ref a_p0), (1, .int x1)] → wp_Nd_rowSize_b24 post I_p0 f_p0_sizes x1 → W p l e ({ frames := 0, cells := 0, slots := 0, locals := 0 } : Room) s m args below meth c H locs 0 0 Q (F0 m 24 ls []) := by
    intro H locs ls x1 hP hD hS hl hw
    unfold wp_Nd_rowSize_b24 at hw
    refine lv_iconst (v := 0) hx hb d_Nd_rowSize_24 (by decide) ?_
    exact b25 _ _ _ x1 0 hP hD hS (lv_sub hl [0, 1] rfl) hw
  intro ls hl hP hD hS
  have hl : lv_has ls 4 [(0, .ref a_p0), (1, .int x1)] := hl
  unfold wp_Nd_rowSize at hw
  refine lv_iload_n hx hb d_Nd_rowSize_0 rfl (lv_at hl 1 rfl) ?_
  refine lv_bipush (v := 16) hx hb d_Nd_rowSize_1 (by decide) ?_
  refine lv_icmp_ge hx hb d_Nd_rowSize_3 rfl (fun hc => ?_) (fun hc => ?_)
  · have hw := hw.1 hc
    refine lv_iload_n hx hb d_Nd_rowSize_8 rfl (lv_at hl 1 rfl) ?_
    refine lv_bipush (v := 18) hx hb d_Nd_rowSize_9 (by decide) ?_
    refine lv_icmp_lt hx hb d_Nd_rowSize_11 rfl (fun hc => ?_) (fun hc => ?_)
    · have hw := hw.1 hc
      exact b24 _ _ _ x1 hP hD hS (lv_sub hl [0, 1] rfl) hw
    · have hw := hw.2 hc
      refine lv_iload_n hx hb d_Nd_rowSize_14 rfl (lv_at hl 1 rfl) ?_
      refine lv_bipush (v := 126) hx hb d_Nd_rowSize_15 (by decide) ?_
      refine lv_icmp_gt hx hb d_Nd_rowSize_17 rfl (fun hc => ?_) (fun hc => ?_)
      · have hw := hw.1 hc
        exact b24 _ _ _ x1 hP hD hS (lv_sub hl [0, 1] rfl) hw
      · have hw := hw.2 hc
        refine lv_iconst (v := 1) hx hb d_Nd_rowSize_20 (by decide) ?_
        refine lv_goto hx hb d_Nd_rowSize_21 rfl ?_
        exact b25 _ _ _ x1 1 hP hD hS (lv_sub hl [0, 1] rfl) hw
  · have hw := hw.2 hc
    refine lv_iconst (v := 1) hx hb d_Nd_rowSize_6 (by decide) ?_
    exact hret _ _ _ _ _ () d_Nd_rowSize_7 rfl hP hD hS hw
theorem d_Da_putNibble_0 : decode b_Da_putNibble 0 = .ok (.aload_n 0, 1) := by decide +kernel
theorem d_Da_putNibble_1 : decode b_Da_putNibble 1 = .ok (.getfield 9, 3) := by decide +kernel
theorem d_Da_putNibble_4 : decode b_Da_putNibble 4 = .ok (.iload_n 1, 1) := by decide +kernel
theorem d_Da_putNibble_5 : decode b_Da_putNibble 5 = .ok (.iconst 2, 1) := by decide +kernel
theorem d_Da_putNibble_6 : decode b_Da_putNibble 6 = .ok (.idiv, 1) := by decide +kernel
theorem d_Da_putNibble_7 : decode b_Da_putNibble 7 = .ok (.iaload, 1) := by decide +kernel
theorem d_Da_putNibble_8 : decode b_Da_putNibble 8 = .ok (.istore_n 3, 1) := by decide +kernel
theorem d_Da_putNibble_9 : decode b_Da_putNibble 9 = .ok (.aload_n 0, 1) := by decide +kernel
theorem d_Da_putNibble_10 : decode b_Da_putNibble 10 = .ok (.getfield 9, 3) := by decide +kernel
theorem d_Da_putNibble_13 : decode b_Da_putNibble 13 = .ok (.iload_n 1, 1) := by decide +kernel
theorem d_Da_putNibble_14 : decode b_Da_putNibble 14 = .ok (.iconst 2, 1) := by decide +kernel
theorem d_Da_putNibble_15 : decode b_Da_putNibble 15 = .ok (.idiv, 1) := by decide +kernel
theorem d_Da_putNibble_16 : decode b_Da_putNibble 16 = .ok (.iload_n 1, 1) := by decide +kernel
theorem d_Da_putNibble_17 : decode b_Da_putNibble 17 = .ok (.iconst 2, 1) := by decide +kernel
theorem d_Da_putNibble_18 : decode b_Da_putNibble 18 = .ok (.irem, 1) := by decide +kernel
theorem d_Da_putNibble_19 : decode b_Da_putNibble 19 = .ok (.ifCond .ne 14, 3) := by decide +kernel
theorem d_Da_putNibble_22 : decode b_Da_putNibble 22 = .ok (.iload_n 2, 1) := by decide +kernel
theorem d_Da_putNibble_23 : decode b_Da_putNibble 23 = .ok (.iconst 4, 1) := by decide +kernel
theorem d_Da_putNibble_24 : decode b_Da_putNibble 24 = .ok (.ishl, 1) := by decide +kernel
theorem d_Da_putNibble_25 : decode b_Da_putNibble 25 = .ok (.iload_n 3, 1) := by decide +kernel
theorem d_Da_putNibble_26 : decode b_Da_putNibble 26 = .ok (.bipush 15, 2) := by decide +kernel
theorem d_Da_putNibble_28 : decode b_Da_putNibble 28 = .ok (.iand, 1) := by decide +kernel
theorem d_Da_putNibble_29 : decode b_Da_putNibble 29 = .ok (.ior, 1) := by decide +kernel
theorem d_Da_putNibble_30 : decode b_Da_putNibble 30 = .ok (.goto 10, 3) := by decide +kernel
theorem d_Da_putNibble_33 : decode b_Da_putNibble 33 = .ok (.iload_n 3, 1) := by decide +kernel
theorem d_Da_putNibble_34 : decode b_Da_putNibble 34 = .ok (.sipush 240, 3) := by decide +kernel
theorem d_Da_putNibble_37 : decode b_Da_putNibble 37 = .ok (.iand, 1) := by decide +kernel
theorem d_Da_putNibble_38 : decode b_Da_putNibble 38 = .ok (.iload_n 2, 1) := by decide +kernel
theorem d_Da_putNibble_39 : decode b_Da_putNibble 39 = .ok (.ior, 1) := by decide +kernel
theorem d_Da_putNibble_40 : decode b_Da_putNibble 40 = .ok (.iastore, 1) := by decide +kernel
theorem d_Da_putNibble_41 : decode b_Da_putNibble 41 = .ok (.return_, 1) := by decide +kernel
def wp_Da_putNibble (post : (Nat → Int32) → Prop) (f_p0_bytes : Nat → Int32) (x1 : Int32) (x2 : Int32) : Prop :=
  vp_in (x1 / 2) 256 ∧
  (((x1 - x1 / 2 * 2) = 0 →
    vp_in (x1 / 2) 256 ∧
    post (upd f_p0_bytes (x1 / 2).toNatClampNeg ((x2 <<< (4 &&& 31)) ||| ((f_p0_bytes (x1 / 2).toNatClampNeg) &&& 15)))) ∧
   (¬ (x1 - x1 / 2 * 2) = 0 →
    vp_in (x1 / 2) 256 ∧
    post (upd f_p0_bytes (x1 / 2).toNatClampNeg (((f_p0_bytes (x1 / 2).toNatClampNeg) &&& 240) ||| x2))))
set_option maxRecDepth 100000 in
set_option maxHeartbeats 4000000 in
theorem c_Da_putNibble (l : Launch) (dC : Nat → ClassId) (dI : Nat → Nat → Nat) (cI : ClassId) (a_p0 : Nat) (A_p0 : Nat → Nat) (f_p0_bytes : Nat → Int32) (x1 : Int32) (x2 : Int32) {post : (Nat → Int32) → Prop} (hw : wp_Da_putNibble post f_p0_bytes x1 x2) : gm_v l y_Da_putNibble ws_Da_putNibble ({ frames := 0, cells := 0, slots := 0, locals := 0 } : Room) (dC, dI) vwCl [(cI, .int)] [.ref a_p0, .int x1, .int x2] [oDa a_p0 A_p0, gz cI (A_p0 0) 256 f_p0_bytes] (fun (u : (Nat → Int32)) => [oDa a_p0 A_p0, gz cI (A_p0 0) 256 u]) (fun (u : (Nat → Int32)) => post  u) := by
  refine gm_vof (cc := b_Da_putNibble) (maxL := 4) (by decide) rfl (Nat.le_of_ble_eq_true rfl) ?_
  intro p e s m args below meth c A Q hx hb hml hown hg hK hN hA hnm hret
  have hown : s.vm.findClass R_Da = some m.cls := hown
  intro ls hl hP hD hS
  have hl : lv_has ls 4 [(0, .ref a_p0), (1, .int x1), (2, .int x2)] := hl
  unfold wp_Da_putNibble at hw
  refine lv_aload_n hx hb d_Da_putNibble_0 rfl (lv_at hl 0 rfl) ?_
  refine va_get (D := (dC, dI)) (ci := 0) (v := .ref (A_p0 0)) (C := R_Da) (T := T_Da) (N := 1) hx hb hg in_Da hown hK hP 0 rfl rfl 0 (by decide) (hg _ t_213) (fun _ h9 => h9) rfl d_Da_putNibble_1 ?_
  refine lv_iload_n hx hb d_Da_putNibble_4 rfl (lv_at hl 1 rfl) ?_
  refine lv_iconst (v := 2) hx hb d_Da_putNibble_5 (by decide) ?_
  refine lv_idiv hx hb d_Da_putNibble_6 (by decide) ?_
  obtain ⟨hin, hw⟩ := hw
  refine va_iald hx hb hK hP 1 0 rfl rfl hin d_Da_putNibble_7 ?_
  refine lv_istore_n (lv' := [(3, .int (f_p0_bytes (x1 / 2).toNatClampNeg)), (0, .ref a_p0), (1, .int x1), (2, .int x2)]) hx hb d_Da_putNibble_8 rfl hl (by decide) rfl (fun ls hl => ?_)
  refine lv_aload_n hx hb d_Da_putNibble_9 rfl (lv_at hl 1 rfl) ?_
  refine va_get (D := (dC, dI)) (ci := 0) (v := .ref (A_p0 0)) (C := R_Da) (T := T_Da) (N := 1) hx hb hg in_Da hown hK hP 0 rfl rfl 0 (by decide) (hg _ t_213) (fun _ h9 => h9) rfl d_Da_putNibble_10 ?_
  refine lv_iload_n hx hb d_Da_putNibble_13 rfl (lv_at hl 2 rfl) ?_
  refine lv_iconst (v := 2) hx hb d_Da_putNibble_14 (by decide) ?_
  refine lv_idiv hx hb d_Da_putNibble_15 (by decide) ?_
  refine lv_iload_n hx hb d_Da_putNibble_16 rfl (lv_at hl 2 rfl) ?_
  refine lv_iconst (v := 2) hx hb d_Da_putNibble_17 (by decide) ?_
  refine lv_irem hx hb d_Da_putNibble_18 (by decide) ?_
  refine lv_if_ne hx hb d_Da_putNibble_19 rfl (fun hc => ?_) (fun hc => ?_)
  · have hw := hw.2 hc
    refine lv_iload_n hx hb d_Da_putNibble_33 rfl (lv_at hl 0 rfl) ?_
    refine lv_sipush (v := 240) hx hb d_Da_putNibble_34 (by decide) ?_
    refine lv_iand hx hb d_Da_putNibble_37 ?_
    refine lv_iload_n hx hb d_Da_putNibble_38 rfl (lv_at hl 3 rfl) ?_
    refine lv_ior hx hb d_Da_putNibble_39 ?_
    obtain ⟨hin, hw⟩ := hw
    refine va_iast hx hb hK hP hD hS 1 0 rfl rfl hin d_Da_putNibble_40 (fun H locs hP hD hS => ?_)
    have hP : va_P (dC, dI) vwCl [oDa a_p0 A_p0, gz cI (A_p0 0) 256 (upd f_p0_bytes (x1 / 2).toNatClampNeg (((f_p0_bytes (x1 / 2).toNatClampNeg) &&& 240) ||| x2))] H := hP
    have hD : va_D A [oDa a_p0 A_p0, gz cI (A_p0 0) 256 (upd f_p0_bytes (x1 / 2).toNatClampNeg (((f_p0_bytes (x1 / 2).toNatClampNeg) &&& 240) ||| x2))] := hD
    exact hret _ _ _ _ (upd f_p0_bytes (x1 / 2).toNatClampNeg (((f_p0_bytes (x1 / 2).toNatClampNeg) &&& 240) ||| x2)) d_Da_putNibble_41 hP hD hS hw
  · have hw := hw.1 hc
    refine lv_iload_n hx hb d_Da_putNibble_22 rfl (lv_at hl 3 rfl) ?_
    refine lv_iconst (v := 4) hx hb d_Da_putNibble_23 (by decide) ?_
    refine lv_ishl hx hb d_Da_putNibble_24 ?_
    refine lv_iload_n hx hb d_Da_putNibble_25 rfl (lv_at hl 0 rfl) ?_
    refine lv_bipush (v := 15) hx hb d_Da_putNibble_26 (by decide) ?_
    refine lv_iand hx hb d_Da_putNibble_28 ?_
    refine lv_ior hx hb d_Da_putNibble_29 ?_
    refine lv_goto hx hb d_Da_putNibble_30 rfl ?_
    obtain ⟨hin, hw⟩ := hw
    refine va_iast hx hb hK hP hD hS 1 0 rfl rfl hin d_Da_putNibble_40 (fun H locs hP hD hS => ?_)
    have hP : va_P (dC, dI) vwCl [oDa a_p0 A_p0, gz cI (A_p0 0) 256 (upd f_p0_bytes (x1 / 2).toNatClampNeg ((x2 <<< (4 &&& 31)) ||| ((f_p0_bytes (x1 / 2).toNatClampNeg) &&& 15)))] H := hP
    have hD : va_D A [oDa a_p0 A_p0, gz cI (A_p0 0) 256 (upd f_p0_bytes (x1 / 2).toNatClampNeg ((x2 <<< (4 &&& 31)) ||| ((f_p0_bytes (x1 / 2).toNatClampNeg) &&& 15)))] := hD
    exact hret _ _ _ _ (upd f_p0_bytes (x1 / 2).toNatClampNeg ((x2 <<< (4 &&& 31)) ||| ((f_p0_bytes (x1 / 2).toNatClampNeg) &&& 15))) d_Da_putNibble_41 hP hD hS hw
