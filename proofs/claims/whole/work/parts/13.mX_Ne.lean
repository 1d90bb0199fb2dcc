theorem d_X_codeWidth_0 : decode b_X_codeWidth 0 = .ok (.iload_n 0, 1) := by decide +kernel
theorem d_X_codeWidth_1 : decode b_X_codeWidth 1 = .ok (.bipush 13, 2) := by decide +kernel
theorem d_X_codeWidth_3 : decode b_X_codeWidth 3 = .ok (.if_icmp .gt 5, 3) := by decide +kernel
theorem d_X_codeWidth_6 : decode b_X_codeWidth 6 = .ok (.iconst 5, 1) := by decide +kernel
theorem d_X_codeWidth_7 : decode b_X_codeWidth 7 = .ok (.ireturn, 1) := by decide +kernel
theorem d_X_codeWidth_8 : decode b_X_codeWidth 8 = .ok (.iload_n 0, 1) := by decide +kernel
theorem d_X_codeWidth_9 : decode b_X_codeWidth 9 = .ok (.bipush 45, 2) := by decide +kernel
theorem d_X_codeWidth_11 : decode b_X_codeWidth 11 = .ok (.if_icmp .gt 8, 3) := by decide +kernel
theorem d_X_codeWidth_14 : decode b_X_codeWidth 14 = .ok (.bipush 6, 2) := by decide +kernel
theorem d_X_codeWidth_16 : decode b_X_codeWidth 16 = .ok (.goto 5, 3) := by decide +kernel
theorem d_X_codeWidth_19 : decode b_X_codeWidth 19 = .ok (.bipush 7, 2) := by decide +kernel
theorem d_X_codeWidth_21 : decode b_X_codeWidth 21 = .ok (.ireturn, 1) := by decide +kernel
def wp_X_codeWidth (post : Int32 → Prop) (x0 : Int32) : Prop :=
  ((13 < x0 →
    ((45 < x0 →
      post 7) ∧
     (¬ 45 < x0 →
      post 6))) ∧
   (¬ 13 < x0 →
    post 5))
set_option maxRecDepth 100000 in
set_option maxHeartbeats 4000000 in
theorem c_X_codeWidth (l : Launch) (dC : Nat → ClassId) (dI : Nat → Nat → Nat) (cI : ClassId) (x0 : Int32) {post : Int32 → Prop} (hw : wp_X_codeWidth post x0) : gm_i l y_X_codeWidth ws_X_codeWidth ({ frames := 0, cells := 0, slots := 0, locals := 0 } : Room) (dC, dI) vwCl [(cI, .int)] [.int x0] [] (fun (_ : Unit) => []) (fun (r : Int32) (_ : Unit) => post r) := by
  refine gm_iof (cc := b_X_codeWidth) (maxL := 1) (ty := .int) (by decide) rfl (Nat.le_of_ble_eq_true rfl) ?_
  intro p e s m args below meth c A Q hx hb hml hown hg hK hN hA hret
  have hown : s.vm.findClass R_X = some m.cls := hown
  intro ls hl hP hD hS
  have hl : lv_has ls 1 [(0, .int x0)] := hl
  unfold wp_X_codeWidth at hw
  refine lv_iload_n hx hb d_X_codeWidth_0 rfl (lv_at hl 0 rfl) ?_
  refine lv_bipush (v := 13) hx hb d_X_codeWidth_1 (by decide) ?_
  refine lv_icmp_gt hx hb d_X_codeWidth_3 rfl (fun hc => ?_) (fun hc => ?_)
  · have hw := hw.1 hc
    refine lv_iload_n hx hb d_X_codeWidth_8 rfl (lv_at hl 0 rfl) ?_
    refine lv_bipush (v := 45) hx hb d_X_codeWidth_9 (by decide) ?_
    refine lv_icmp_gt hx hb d_X_codeWidth_11 rfl (fun hc => ?_) (fun hc => ?_)
    · have hw := hw.1 hc
      refine lv_bipush (v := 7) hx hb d_X_codeWidth_19 (by decide) ?_
      exact hret _ _ _ _ _ () d_X_codeWidth_21 rfl hP hD hS hw
    · have hw := hw.2 hc
      refine lv_bipush (v := 6) hx hb d_X_codeWidth_14 (by decide) ?_
      refine lv_goto hx hb d_X_codeWidth_16 rfl ?_
      exact hret _ _ _ _ _ () d_X_codeWidth_21 rfl hP hD hS hw
  · have hw := hw.2 hc
    refine lv_iconst (v := 5) hx hb d_X_codeWidth_6 (by decide) ?_
    exact hret _ _ _ _ _ () d_X_codeWidth_7 rfl hP hD hS hw
theorem d_Ne_emit_0 : decode b_Ne_emit 0 = .ok (.aload_n 0, 1) := by decide +kernel
theorem d_Ne_emit_1 : decode b_Ne_emit 1 = .ok (.getfield 28, 3) := by decide +kernel
theorem d_Ne_emit_4 : decode b_Ne_emit 4 = .ok (.iconst 1, 1) := by decide +kernel
theorem d_Ne_emit_5 : decode b_Ne_emit 5 = .ok (.iadd, 1) := by decide +kernel
theorem d_Ne_emit_6 : decode b_Ne_emit 6 = .ok (.invokestatic 59, 3) := by decide +kernel
theorem d_Ne_emit_9 : decode b_Ne_emit 9 = .ok (.istore_n 3, 1) := by decide +kernel
theorem d_Ne_emit_10 : decode b_Ne_emit 10 = .ok (.aload_n 0, 1) := by decide +kernel
theorem d_Ne_emit_11 : decode b_Ne_emit 11 = .ok (.aload_n 0, 1) := by decide +kernel
theorem d_Ne_emit_12 : decode b_Ne_emit 12 = .ok (.getfield 21, 3) := by decide +kernel
theorem d_Ne_emit_15 : decode b_Ne_emit 15 = .ok (.iload_n 3, 1) := by decide +kernel
theorem d_Ne_emit_16 : decode b_Ne_emit 16 = .ok (.ishl, 1) := by decide +kernel
theorem d_Ne_emit_17 : decode b_Ne_emit 17 = .ok (.iload_n 1, 1) := by decide +kernel
theorem d_Ne_emit_18 : decode b_Ne_emit 18 = .ok (.ior, 1) := by decide +kernel
theorem d_Ne_emit_19 : decode b_Ne_emit 19 = .ok (.putfield 21, 3) := by decide +kernel
theorem d_Ne_emit_22 : decode b_Ne_emit 22 = .ok (.aload_n 0, 1) := by decide +kernel
theorem d_Ne_emit_23 : decode b_Ne_emit 23 = .ok (.dup, 1) := by decide +kernel
theorem d_Ne_emit_24 : decode b_Ne_emit 24 = .ok (.getfield 25, 3) := by decide +kernel
theorem d_Ne_emit_27 : decode b_Ne_emit 27 = .ok (.iload_n 3, 1) := by decide +kernel
theorem d_Ne_emit_28 : decode b_Ne_emit 28 = .ok (.iadd, 1) := by decide +kernel
theorem d_Ne_emit_29 : decode b_Ne_emit 29 = .ok (.putfield 25, 3) := by decide +kernel
theorem d_Ne_emit_32 : decode b_Ne_emit 32 = .ok (.aload_n 0, 1) := by decide +kernel
theorem d_Ne_emit_33 : decode b_Ne_emit 33 = .ok (.getfield 25, 3) := by decide +kernel
theorem d_Ne_emit_36 : decode b_Ne_emit 36 = .ok (.bipush 8, 2) := by decide +kernel
theorem d_Ne_emit_38 : decode b_Ne_emit 38 = .ok (.if_icmp .lt 48, 3) := by decide +kernel
theorem d_Ne_emit_41 : decode b_Ne_emit 41 = .ok (.aload_n 0, 1) := by decide +kernel
theorem d_Ne_emit_42 : decode b_Ne_emit 42 = .ok (.dup, 1) := by decide +kernel
theorem d_Ne_emit_43 : decode b_Ne_emit 43 = .ok (.getfield 25, 3) := by decide +kernel
theorem d_Ne_emit_46 : decode b_Ne_emit 46 = .ok (.bipush 8, 2) := by decide +kernel
theorem d_Ne_emit_48 : decode b_Ne_emit 48 = .ok (.isub, 1) := by decide +kernel
theorem d_Ne_emit_49 : decode b_Ne_emit 49 = .ok (.putfield 25, 3) := by decide +kernel
theorem d_Ne_emit_52 : decode b_Ne_emit 52 = .ok (.aload_n 2, 1) := by decide +kernel
theorem d_Ne_emit_53 : decode b_Ne_emit 53 = .ok (.aload_n 0, 1) := by decide +kernel
theorem d_Ne_emit_54 : decode b_Ne_emit 54 = .ok (.getfield 21, 3) := by decide +kernel
theorem d_Ne_emit_57 : decode b_Ne_emit 57 = .ok (.aload_n 0, 1) := by decide +kernel
theorem d_Ne_emit_58 : decode b_Ne_emit 58 = .ok (.getfield 25, 3) := by decide +kernel
theorem d_Ne_emit_61 : decode b_Ne_emit 61 = .ok (.ishr, 1) := by decide +kernel
theorem d_Ne_emit_62 : decode b_Ne_emit 62 = .ok (.sipush 255, 3) := by decide +kernel
theorem d_Ne_emit_65 : decode b_Ne_emit 65 = .ok (.iand, 1) := by decide +kernel
theorem d_Ne_emit_66 : decode b_Ne_emit 66 = .ok (.invokevirtual 53, 3) := by decide +kernel
theorem d_Ne_emit_69 : decode b_Ne_emit 69 = .ok (.aload_n 0, 1) := by decide +kernel
theorem d_Ne_emit_70 : decode b_Ne_emit 70 = .ok (.dup, 1) := by decide +kernel
theorem d_Ne_emit_71 : decode b_Ne_emit 71 = .ok (.getfield 21, 3) := by decide +kernel
theorem d_Ne_emit_74 : decode b_Ne_emit 74 = .ok (.iconst 1, 1) := by decide +kernel
theorem d_Ne_emit_75 : decode b_Ne_emit 75 = .ok (.aload_n 0, 1) := by decide +kernel
theorem d_Ne_emit_76 : decode b_Ne_emit 76 = .ok (.getfield 25, 3) := by decide +kernel
theorem d_Ne_emit_79 : decode b_Ne_emit 79 = .ok (.ishl, 1) := by decide +kernel
theorem d_Ne_emit_80 : decode b_Ne_emit 80 = .ok (.iconst 1, 1) := by decide +kernel
theorem d_Ne_emit_81 : decode b_Ne_emit 81 = .ok (.isub, 1) := by decide +kernel
theorem d_Ne_emit_82 : decode b_Ne_emit 82 = .ok (.iand, 1) := by decide +kernel
theorem d_Ne_emit_83 : decode b_Ne_emit 83 = .ok (.putfield 21, 3) := by decide +kernel
theorem d_Ne_emit_86 : decode b_Ne_emit 86 = .ok (.return_, 1) := by decide +kernel
def wp_Ne_emit (post : (Nat → Int32) → (Nat → Int32) → (Nat → Int32) → Prop) (I_p0 : Nat → Int32) (I_p2 : Nat → Int32) (f_p2_bytes : Nat → Int32) (x1 : Int32) : Prop :=
  wp_X_codeWidth (fun (r6 : Int32) =>
    ((((I_p0 5) + r6) < 8 →
      post (upd (upd I_p0 4 (((I_p0 4) <<< (r6 &&& 31)) ||| x1)) 5 ((I_p0 5) + r6)) I_p2 f_p2_bytes) ∧
     (¬ ((I_p0 5) + r6) < 8 →
      wp_St_append (fun (I_p2_66 : Nat → Int32) (f_p2_bytes_66 : Nat → Int32) =>
        post (upd (upd (upd (upd I_p0 4 (((I_p0 4) <<< (r6 &&& 31)) ||| x1)) 5 ((I_p0 5) + r6)) 5 (((I_p0 5) + r6) - 8)) 4 ((((I_p0 4) <<< (r6 &&& 31)) ||| x1) &&& ((1 <<< ((((I_p0 5) + r6) - 8) &&& 31)) - 1))) I_p2_66 f_p2_bytes_66) I_p2 f_p2_bytes (((((I_p0 4) <<< (r6 &&& 31)) ||| x1) >>> ((((I_p0 5) + r6) - 8) &&& 31)) &&& 255)))) ((I_p0 3) + 1)
set_option maxRecDepth 100000 in
set_option maxHeartbeats 4000000 in
theorem c_Ne_emit (l : Launch) (dC : Nat → ClassId) (dI : Nat → Nat → Nat) (cI : ClassId) (a_p0 : Nat) (a_p2 : Nat) (A_p0 : Nat → Nat) (A_p2 : Nat → Nat) (I_p0 : Nat → Int32) (I_p2 : Nat → Int32) (f_p2_bytes : Nat → Int32) (x1 : Int32) {post : (Nat → Int32) → (Nat → Int32) → (Nat → Int32) → Prop} (hw : wp_Ne_emit post I_p0 I_p2 f_p2_bytes x1) : gm_v l y_Ne_emit ws_Ne_emit ({ frames := 1, cells := 0, slots := 0, locals := 21 } : Room) (dC, dI) vwCl [(cI, .int)] [.ref a_p0, .int x1, .ref a_p2] [oNe a_p0 A_p0 I_p0, oSt a_p2 A_p2 I_p2, gz cI (A_p2 0) 900 f_p2_bytes] (fun (u : (Nat → Int32) × (Nat → Int32) × (Nat → Int32)) => [oNe a_p0 A_p0 u.1, oSt a_p2 A_p2 u.2.1, gz cI (A_p2 0) 900 u.2.2]) (fun (u : (Nat → Int32) × (Nat → Int32) × (Nat → Int32)) => post  u.1 u.2.1 u.2.2) := by
  refine gm_vof (cc := b_Ne_emit) (maxL := 4) (by decide) rfl (Nat.le_of_ble_eq_true rfl) ?_
  intro p e s m args below meth c A Q hx hb hml hown hg hK hN hA hnm hret
  have hown : s.vm.findClass R_Ne = some m.cls := hown
  intro ls hl hP hD hS
  have hl : lv_has ls 4 [(0, .ref a_p0), (1, .int x1), (2, .ref a_p2)] := hl
  unfold wp_Ne_emit at hw
  refine lv_aload_n hx hb d_Ne_emit_0 rfl (lv_at hl 0 rfl) ?_
  refine va_get (D := (dC, dI)) (ci := 5) (v := .int (I_p0 3)) (C := R_Ne) (T := T_Ne) (N := 6) hx hb hg in_Ne hown hK hP 0 rfl rfl 3 (by decide) (hg _ t_227) (fun _ h9 => h9) rfl d_Ne_emit_1 ?_
  refine lv_iconst (v := 1) hx hb d_Ne_emit_4 (by decide) ?_
  refine lv_iadd hx hb d_Ne_emit_5 ?_
  refine gc_i (wn := fun (_ : Unit) => [oNe a_p0 A_p0 I_p0, oSt a_p2 A_p2 I_p2, gz cI (A_p2 0) 900 f_p2_bytes]) (wr := [oNe a_p0 A_p0 I_p0, oSt a_p2 A_p2 I_p2, gz cI (A_p2 0) 900 f_p2_bytes]) (gr_SN (As := [.int ((I_p0 3) + 1)]) (rest := []) ⟨hx, hb, hml, hown, hg⟩ (c_X_codeWidth l dC dI cI ((I_p0 3) + 1) hw _) ⟨va_cnB (host := "TaggedRaster") 1 hg (gg_B t_570) rfl rfl rfl (hN _ nw_9) (hg _ t_60) (by decide +kernel) ⟨Nat.le_of_ble_eq_true rfl, Nat.le_of_ble_eq_true rfl⟩, hg _ t_569, trivial⟩ hK hN hP hD [] (by decide) rfl rfl hl.1 rfl (Nat.le_of_ble_eq_true rfl) d_Ne_emit_6 ⟨Nat.le_of_ble_eq_true rfl, Nat.le_of_ble_eq_true rfl⟩) rfl rfl hP hD hS hA [] [0, 1, 2] [0, 1, 2] rfl rfl (by decide) (by decide) (by decide) (fun _ => rfl) ?_
  intro r6 _ H locs hw hP hD hS
  try dsimp only at hw
  have hP : va_P (dC, dI) vwCl [oNe a_p0 A_p0 I_p0, oSt a_p2 A_p2 I_p2, gz cI (A_p2 0) 900 f_p2_bytes] H := hP
  have hD : va_D A [oNe a_p0 A_p0 I_p0, oSt a_p2 A_p2 I_p2, gz cI (A_p2 0) 900 f_p2_bytes] := hD
  refine lv_istore_n (lv' := [(3, .int r6), (0, .ref a_p0), (1, .int x1), (2, .ref a_p2)]) hx hb d_Ne_emit_9 rfl hl (by decide) rfl (fun ls hl => ?_)
  refine lv_aload_n hx hb d_Ne_emit_10 rfl (lv_at hl 1 rfl) ?_
  refine lv_aload_n hx hb d_Ne_emit_11 rfl (lv_at hl 1 rfl) ?_
  refine va_get (D := (dC, dI)) (ci := 5) (v := .int (I_p0 4)) (C := R_Ne) (T := T_Ne) (N := 6) hx hb hg in_Ne hown hK hP 0 rfl rfl 4 (by decide) (hg _ t_228) (fun _ h9 => h9) rfl d_Ne_emit_12 ?_
  refine lv_iload_n hx hb d_Ne_emit_15 rfl (lv_at hl 0 rfl) ?_
  refine lv_ishl hx hb d_Ne_emit_16 ?_
  refine lv_iload_n hx hb d_Ne_emit_17 rfl (lv_at hl 2 rfl) ?_
  refine lv_ior hx hb d_Ne_emit_18 ?_
  refine va_put (D := (dC, dI)) (ci := 5) (v := .int (((I_p0 4) <<< (r6 &&& 31)) ||| x1)) (ty := .int) (C := R_Ne) (T := T_Ne) (N := 6) hx hb hg in_Ne t_Ne tok_Ne nok_Ne hown hK hP hD hS 0 rfl rfl 4 (by decide) (hg _ t_228) (fun _ h9 => h9) rfl (by decide +kernel) rfl rfl (Nat.le_of_ble_eq_true rfl) d_Ne_emit_19 (fun H locs hP hD hS => ?_)
  have hP : va_P (dC, dI) vwCl [oNe a_p0 A_p0 (upd I_p0 4 (((I_p0 4) <<< (r6 &&& 31)) ||| x1)), oSt a_p2 A_p2 I_p2, gz cI (A_p2 0) 900 f_p2_bytes] H := hP
  have hD : va_D A [oNe a_p0 A_p0 (upd I_p0 4 (((I_p0 4) <<< (r6 &&& 31)) ||| x1)), oSt a_p2 A_p2 I_p2, gz cI (A_p2 0) 900 f_p2_bytes] := hD
  refine lv_aload_n hx hb d_Ne_emit_22 rfl (lv_at hl 1 rfl) ?_
  refine lv_dup hx hb d_Ne_emit_23 rfl ?_
  refine va_get (D := (dC, dI)) (ci := 5) (v := .int (I_p0 5)) (C := R_Ne) (T := T_Ne) (N := 6) hx hb hg in_Ne hown hK hP 0 rfl rfl 5 (by decide) (hg _ t_229) (fun _ h9 => h9) rfl d_Ne_emit_24 ?_
  refine lv_iload_n hx hb d_Ne_emit_27 rfl (lv_at hl 0 rfl) ?_
  refine lv_iadd hx hb d_Ne_emit_28 ?_
  refine va_put (D := (dC, dI)) (ci := 5) (v := .int ((I_p0 5) + r6)) (ty := .int) (C := R_Ne) (T := T_Ne) (N := 6) hx hb hg in_Ne t_Ne tok_Ne nok_Ne hown hK hP hD hS 0 rfl rfl 5 (by decide) (hg _ t_229) (fun _ h9 => h9) rfl (by decide +kernel) rfl rfl (Nat.le_of_ble_eq_true rfl) d_Ne_emit_29 (fun H locs hP hD hS => ?_)
  have hP : va_P (dC, dI) vwCl [oNe a_p0 A_p0 (upd (upd I_p0 4 (((I_p0 4) <<< (r6 &&& 31)) ||| x1)) 5 ((I_p0 5) + r6)), oSt a_p2 A_p2 I_p2, gz cI (A_p2 0) 900 f_p2_bytes] H := hP
  have hD : va_D A [oNe a_p0 A_p0 (upd (upd I_p0 4 (((I_p0 4) <<< (r6 &&& 31)) ||| x1)) 5 ((I_p0 5) + r6)), oSt a_p2 A_p2 I_p2, gz cI (A_p2 0) 900 f_p2_bytes] := hD
  refine lv_aload_n hx hb d_Ne_emit_32 rfl (lv_at hl 1 rfl) ?_
  refine va_get (D := (dC, dI)) (ci := 5) (v := .int ((I_p0 5) + r6)) (C := R_Ne) (T := T_Ne) (N := 6) hx hb hg in_Ne hown hK hP 0 rfl rfl 5 (by decide) (hg _ t_229) (fun _ h9 => h9) rfl d_Ne_emit_33 ?_
  refine lv_bipush (v := 8) hx hb d_Ne_emit_36 (by decide) ?_
  refine lv_icmp_lt hx hb d_Ne_emit_38 rfl (fun hc => ?_) (fun hc => ?_)
  · have hw := hw.1 hc
    exact hret _ _ _ _ ((upd (upd I_p0 4 (((I_p0 4) <<< (r6 &&& 31)) ||| x1)) 5 ((I_p0 5) + r6)), I_p2, f_p2_bytes) d_Ne_emit_86 hP hD hS hw
  · have hw := hw.2 hc
    refine lv_aload_n hx hb d_Ne_emit_41 rfl (lv_at hl 1 rfl) ?_
    refine lv_dup hx hb d_Ne_emit_42 rfl ?_
    refine va_get (D := (dC, dI)) (ci := 5) (v := .int ((I_p0 5) + r6)) (C := R_Ne) (T := T_Ne) (N := 6) hx hb hg in_Ne hown hK hP 0 rfl rfl 5 (by decide) (hg _ t_229) (fun _ h9 => h9) rfl d_Ne_emit_43 ?_
    refine lv_bipush (v := 8) hx hb d_Ne_emit_46 (by decide) ?_
    refine lv_isub hx hb d_Ne_emit_48 ?_
    refine va_put (D := (dC, dI)) (ci := 5) (v := .int (((I_p0 5) + r6) - 8)) (ty := .int) (C := R_Ne) (T := T_Ne) (N := 6) hx hb hg in_Ne t_Ne tok_Ne nok_Ne hown hK hP hD hS 0 rfl rfl 5 (by decide) (hg _ t_229) (fun _ h9 => h9) rfl (by decide +kernel) rfl rfl (Nat.le_of_ble_eq_true rfl) d_Ne_emit_49 (fun H locs hP hD hS => ?_)
    have hP : va_P (dC, dI) vwCl [oNe a_p0 A_p0 (upd (upd (upd I_p0 4 (((I_p0 4) <<< (r6 &&& 31)) ||| x1)) 5 ((I_p0 5) + r6)) 5 (((I_p0 5) + r6) - 8)), oSt a_p2 A_p2 I_p2, gz cI (A_p2 0) 900 f_p2_bytes] H := hP
    have hD : va_D A [oNe a_p0 A_p0 (upd (upd (upd I_p0 4 (((I_p0 4) <<< (r6 &&& 31)) ||| x1)) 5 ((I_p0 5) + r6)) 5 (((I_p0 5) + r6) - 8)), oSt a_p2 A_p2 I_p2, gz cI (A_p2 0) 900 f_p2_bytes] := hD
    refine lv_aload_n hx hb d_Ne_emit_52 rfl (lv_at hl 3 rfl) ?_
    refine lv_aload_n hx hb d_Ne_emit_53 rfl (lv_at hl 1 rfl) ?_
    refine va_get (D := (dC, dI)) (ci := 5) (v := .int (((I_p0 4) <<< (r6 &&& 31)) ||| x1)) (C := R_Ne) (T := T_Ne) (N := 6) hx hb hg in_Ne hown hK hP 0 rfl rfl 4 (by decide) (hg _ t_228) (fun _ h9 => h9) rfl d_Ne_emit_54 ?_
    refine lv_aload_n hx hb d_Ne_emit_57 rfl (lv_at hl 1 rfl) ?_
    refine va_get (D := (dC, dI)) (ci := 5) (v := .int (((I_p0 5) + r6) - 8)) (C := R_Ne) (T := T_Ne) (N := 6) hx hb hg in_Ne hown hK hP 0 rfl rfl 5 (by decide) (hg _ t_229) (fun _ h9 => h9) rfl d_Ne_emit_58 ?_
    refine lv_ishr hx hb d_Ne_emit_61 ?_
    refine lv_sipush (v := 255) hx hb d_Ne_emit_62 (by decide) ?_
    refine lv_iand hx hb d_Ne_emit_65 ?_
    refine gc_v (wn := fun u => [oNe a_p0 A_p0 (upd (upd (upd I_p0 4 (((I_p0 4) <<< (r6 &&& 31)) ||| x1)) 5 ((I_p0 5) + r6)) 5 (((I_p0 5) + r6) - 8)), oSt a_p2 A_p2 u.1, gz cI (A_p2 0) 900 u.2]) (wr := [oNe a_p0 A_p0 (upd (upd (upd I_p0 4 (((I_p0 4) <<< (r6 &&& 31)) ||| x1)) 5 ((I_p0 5) + r6)) 5 (((I_p0 5) + r6) - 8))]) (gr_V (As := [.int (((((I_p0 4) <<< (r6 &&& 31)) ||| x1) >>> ((((I_p0 5) + r6) - 8) &&& 31)) &&& 255)]) (rest := []) ⟨hx, hb, hml, hown, hg⟩ (c_St_append l dC dI cI a_p2 A_p2 I_p2 f_p2_bytes (((((I_p0 4) <<< (r6 &&& 31)) ||| x1) >>> ((((I_p0 5) + r6) - 8) &&& 31)) &&& 255) hw _) (cwV 1 hg (gg_V t_571 t_285 t_286 t_61 t_287) rfl rfl rfl (by decide +kernel) ⟨Nat.le_of_ble_eq_true rfl, Nat.le_of_ble_eq_true rfl⟩) hK hN hP hD [1, 2] (by decide) rfl 1 7 rfl rfl rfl rfl hl.1 rfl (Nat.le_of_ble_eq_true rfl) d_Ne_emit_66 ⟨Nat.le_of_ble_eq_true rfl, Nat.le_of_ble_eq_true rfl⟩) rfl rfl hP hD hS hA [1, 2] [0] [0, 1, 2] rfl rfl (by decide) (by decide) (by decide) (fun _ => rfl) ?_
    intro u9 H locs hw hP hD hS
    obtain ⟨I_p2_66, f_p2_bytes_66⟩ := u9
    try dsimp only at hw
    have hP : va_P (dC, dI) vwCl [oNe a_p0 A_p0 (upd (upd (upd I_p0 4 (((I_p0 4) <<< (r6 &&& 31)) ||| x1)) 5 ((I_p0 5) + r6)) 5 (((I_p0 5) + r6) - 8)), oSt a_p2 A_p2 I_p2_66, gz cI (A_p2 0) 900 f_p2_bytes_66] H := hP
    have hD : va_D A [oNe a_p0 A_p0 (upd (upd (upd I_p0 4 (((I_p0 4) <<< (r6 &&& 31)) ||| x1)) 5 ((I_p0 5) + r6)) 5 (((I_p0 5) + r6) - 8)), oSt a_p2 A_p2 I_p2_66, gz cI (A_p2 0) 900 f_p2_bytes_66] := hD
    refine lv_aload_n hx hb d_Ne_emit_69 rfl (lv_at hl 1 rfl) ?_
    refine lv_dup hx hb d_Ne_emit_70 rfl ?_
    refine va_get (D := (dC, dI)) (ci := 5) (v := .int (((I_p0 4) <<< (r6 &&& 31)) ||| x1)) (C := R_Ne) (T := T_Ne) (N := 6) hx hb hg in_Ne hown hK hP 0 rfl rfl 4 (by decide) (hg _ t_228) (fun _ h9 => h9) rfl d_Ne_emit_71 ?_
    refine lv_iconst (v := 1) hx hb d_Ne_emit_74 (by decide) ?_
    refine lv_aload_n hx hb d_Ne_emit_75 rfl (lv_at hl 1 rfl) ?_
    refine va_get (D := (dC, dI)) (ci := 5) (v := .int (((I_p0 5) + r6) - 8)) (C := R_Ne) (T := T_Ne) (N := 6) hx hb hg in_Ne hown hK hP 0 rfl rfl 5 (by decide) (hg _ t_229) (fun _ h9 => h9) rfl d_Ne_emit_76 ?_
    refine lv_ishl hx hb d_Ne_emit_79 ?_
    refine lv_iconst (v := 1) hx hb d_Ne_emit_80 (by decide) ?_
    refine lv_isub hx hb d_Ne_emit_81 ?_
    refine lv_iand hx hb d_Ne_emit_82 ?_
    refine va_put (D := (dC, dI)) (ci := 5) (v := .int ((((I_p0 4) <<< (r6 &&& 31)) ||| x1) &&& ((1 <<< ((((I_p0 5) + r6) - 8) &&& 31)) - 1))) (ty := .int) (C := R_Ne) (T := T_Ne) (N := 6) hx hb hg in_Ne t_Ne tok_Ne nok_Ne hown hK hP hD hS 0 rfl rfl 4 (by decide) (hg _ t_228) (fun _ h9 => h9) rfl (by decide +kernel) rfl rfl (Nat.le_of_ble_eq_true rfl) d_Ne_emit_83 (fun H locs hP hD hS => ?_)
    have hP : va_P (dC, dI) vwCl [oNe a_p0 A_p0 (upd (upd (upd (upd I_p0 4 (((I_p0 4) <<< (r6 &&& 31)) ||| x1)) 5 ((I_p0 5) + r6)) 5 (((I_p0 5) + r6) - 8)) 4 ((((I_p0 4) <<< (r6 &&& 31)) ||| x1) &&& ((1 <<< ((((I_p0 5) + r6) - 8) &&& 31)) - 1))), oSt a_p2 A_p2 I_p2_66, gz cI (A_p2 0) 900 f_p2_bytes_66] H := hP
    have hD : va_D A [oNe a_p0 A_p0 (upd (upd (upd (upd I_p0 4 (((I_p0 4) <<< (r6 &&& 31)) ||| x1)) 5 ((I_p0 5) + r6)) 5 (((I_p0 5) + r6) - 8)) 4 ((((I_p0 4) <<< (r6 &&& 31)) ||| x1) &&& ((1 <<< ((((I_p0 5) + r6) - 8) &&& 31)) - 1))), oSt a_p2 A_p2 I_p2_66, gz cI (A_p2 0) 900 f_p2_bytes_66] := hD
    exact hret _ _ _ _ ((upd (upd (upd (upd I_p0 4 (((I_p0 4) <<< (r6 &&& 31)) ||| x1)) 5 ((I_p0 5) + r6)) 5 (((I_p0 5) + r6) - 8)) 4 ((((I_p0 4) <<< (r6 &&& 31)) ||| x1) &&& ((1 <<< ((((I_p0 5) + r6) - 8) &&& 31)) - 1))), I_p2_66, f_p2_bytes_66) d_Ne_emit_86 hP hD hS hw
theorem d_Ne_restartTable_0 : decode b_Ne_restartTable 0 = .ok (.aload_n 0, 1) := by decide +kernel
theorem d_Ne_restartTable_1 : decode b_Ne_restartTable 1 = .ok (.bipush 16, 2) := by decide +kernel
theorem d_Ne_restartTable_3 : decode b_Ne_restartTable 3 = .ok (.aload_n 1, 1) := by decide +kernel
theorem d_Ne_restartTable_4 : decode b_Ne_restartTable 4 = .ok (.invokevirtual 45, 3) := by decide +kernel
theorem d_Ne_restartTable_7 : decode b_Ne_restartTable 7 = .ok (.iconst 0, 1) := by decide +kernel
theorem d_Ne_restartTable_8 : decode b_Ne_restartTable 8 = .ok (.istore_n 2, 1) := by decide +kernel
theorem d_Ne_restartTable_9 : decode b_Ne_restartTable 9 = .ok (.iload_n 2, 1) := by decide +kernel
theorem d_Ne_restartTable_10 : decode b_Ne_restartTable 10 = .ok (.bipush 16, 2) := by decide +kernel
theorem d_Ne_restartTable_12 : decode b_Ne_restartTable 12 = .ok (.if_icmp .ge 16, 3) := by decide +kernel
theorem d_Ne_restartTable_15 : decode b_Ne_restartTable 15 = .ok (.aload_n 0, 1) := by decide +kernel
theorem d_Ne_restartTable_16 : decode b_Ne_restartTable 16 = .ok (.getfield 9, 3) := by decide +kernel
theorem d_Ne_restartTable_19 : decode b_Ne_restartTable 19 = .ok (.iload_n 2, 1) := by decide +kernel
theorem d_Ne_restartTable_20 : decode b_Ne_restartTable 20 = .ok (.iconst 0, 1) := by decide +kernel
theorem d_Ne_restartTable_21 : decode b_Ne_restartTable 21 = .ok (.iastore, 1) := by decide +kernel
theorem d_Ne_restartTable_22 : decode b_Ne_restartTable 22 = .ok (.iinc 2 1, 3) := by decide +kernel
theorem d_Ne_restartTable_25 : decode b_Ne_restartTable 25 = .ok (.goto (-16), 3) := by decide +kernel
theorem d_Ne_restartTable_28 : decode b_Ne_restartTable 28 = .ok (.aload_n 0, 1) := by decide +kernel
theorem d_Ne_restartTable_29 : decode b_Ne_restartTable 29 = .ok (.iconst 0, 1) := by decide +kernel
theorem d_Ne_restartTable_30 : decode b_Ne_restartTable 30 = .ok (.putfield 28, 3) := by decide +kernel
theorem d_Ne_restartTable_33 : decode b_Ne_restartTable 33 = .ok (.return_, 1) := by decide +kernel
def wp_Ne_restartTable_l9 (post : (Nat → Int32) → (Nat → Int32) → (Nat → Int32) → (Nat → Int32) → Prop) : Nat → (Nat → Int32) → (Nat → Int32) → (Nat → Int32) → (Nat → Int32) → Int32 → Prop
  | 0, _, _, _, _, _ => False
  | n + 1, I_p0, f_p0_firstChild, I_p1, f_p1_bytes, x2 =>
    ((16 ≤ x2 →
      post (upd I_p0 3 0) f_p0_firstChild I_p1 f_p1_bytes) ∧
     (¬ 16 ≤ x2 →
      vp_in x2 127 ∧
      wp_Ne_restartTable_l9 post n I_p0 (upd f_p0_firstChild (x2).toNatClampNeg 0) I_p1 f_p1_bytes (x2 + 1)))
def wp_Ne_restartTable (post : (Nat → Int32) → (Nat → Int32) → (Nat → Int32) → (Nat → Int32) → Prop) (I_p0 : Nat → Int32) (f_p0_firstChild : Nat → Int32) (I_p1 : Nat → Int32) (f_p1_bytes : Nat → Int32) : Prop :=
  wp_Ne_emit (fun (I_p0_4 : Nat → Int32) (I_p1_4 : Nat → Int32) (f_p1_bytes_4 : Nat → Int32) =>
    (∃ n1 : Nat, wp_Ne_restartTable_l9 post n1 I_p0_4 f_p0_firstChild I_p1_4 f_p1_bytes_4 0)) I_p0 I_p1 f_p1_bytes 16
set_option maxRecDepth 100000 in
set_option maxHeartbeats 4000000 in
theorem c_Ne_restartTable (l : Launch) (dC : Nat → ClassId) (dI : Nat → Nat → Nat) (cI : ClassId) (a_p0 : Nat) (a_p1 : Nat) (A_p0 : Nat → Nat) (A_p1 : Nat → Nat) (I_p0 : Nat → Int32) (f_p0_firstChild : Nat → Int32) (I_p1 : Nat → Int32) (f_p1_bytes : Nat → Int32) {post : (Nat → Int32) → (Nat → Int32) → (Nat → Int32) → (Nat → Int32) → Prop} (hw : wp_Ne_restartTable post I_p0 f_p0_firstChild I_p1 f_p1_bytes) : gm_v l y_Ne_restartTable ws_Ne_restartTable ({ frames := 2, cells := 0, slots := 0, locals := 44 } : Room) (dC, dI) vwCl [(cI, .int)] [.ref a_p0, .ref a_p1] [oNe a_p0 A_p0 I_p0, gz cI (A_p0 0) 127 f_p0_firstChild, oSt a_p1 A_p1 I_p1, gz cI (A_p1 0) 900 f_p1_bytes] (fun (u : (Nat → Int32) × (Nat → Int32) × (Nat → Int32) × (Nat → Int32)) => [oNe a_p0 A_p0 u.1, gz cI (A_p0 0) 127 u.2.1, oSt a_p1 A_p1 u.2.2.1, gz cI (A_p1 0) 900 u.2.2.2]) (fun (u : (Nat → Int32) × (Nat → Int32) × (Nat → Int32) × (Nat → Int32)) => post  u.1 u.2.1 u.2.2.1 u.2.2.2) := by
  refine gm_vof (cc := b_Ne_restartTable) (maxL := 3) (by decide) rfl (Nat.le_of_ble_eq_true rfl) ?_
  intro p e s m args below meth c A Q hx hb hml hown hg hK hN hA hnm hret
  have hown : s.vm.findClass R_Ne = some m.cls := hown
  have l9 : ∀ n : Nat, ∀ (H : Heap) (locs : List Loc) (ls : Array Slot) (I_p0 : Nat → Int32) (f_p0_firstChild : Nat → Int32) (I_p1 : Nat → Int32) (f_p1_bytes : Nat → Int32) (x2 : Int32), va_P (dC, dI) vwCl [oNe a_p0 A_p0 I_p0, gz cI (A_p0 0) 127 f_p0_firstChild, oSt a_p1 A_p1 I_p1, gz cI (A_p1 0) 900 f_p1_bytes] H → va_D A [oNe a_p0 A_p0 I_p0, gz cI (A_p0 0) 127 f_p0_firstChild, oSt a_p1 A_p1 I_p1, gz cI (A_p1 0) 900 f_p1_bytes] → va_S A s.heap H locs → lv_has ls 3 [(0, .ref a_p0), (2, .int x2)] → wp_Ne_restartTable_l9 post n I_p0 f_p0_firstChild I_p1 f_p1_bytes x2 → W p l e ({ frames := 2, cells := 0, slots := 0, locals := 44 } : Room) s m args below meth c H locs 0 0 Q (F0 m 9 ls []) := by
    intro n
    induction n with
    | zero => intro H locs ls I_p0 f_p0_firstChild I_p1 f_p1_bytes x2 hP hD hS hl hw; exact hw.elim
    | succ n ih =>
      intro H locs ls I_p0 f_p0_firstChild I_p1 f_p1_bytes x2 hP hD hS hl hw
      unfold wp_Ne_restartTable_l9 at hw
      refine lv_iload_n hx hb d_Ne_restartTable_9 rfl (lv_at hl 1 rfl) ?_
      refine lv_bipush (v := 16) hx hb d_Ne_restartTable_10 (by decide) ?_
      refine lv_icmp_ge hx hb d_Ne_restartTable_12 rfl (fun hc => ?_) (fun hc => ?_)
      · have hw := hw.1 hc
        refine lv_aload_n hx hb d_Ne_restartTable_28 rfl (lv_at hl 0 rfl) ?_
        refine lv_iconst (v := 0) hx hb d_Ne_restartTable_29 (by decide) ?_
        refine va_put (D := (dC, dI)) (ci := 5) (v := .int 0) (ty := .int) (C := R_Ne) (T := T_Ne) (N := 6) hx hb hg in_Ne t_Ne tok_Ne nok_Ne hown hK hP hD hS 0 rfl rfl 3 (by decide) (hg _ t_227) (fun _ h9 => h9) rfl (by decide +kernel) rfl rfl (Nat.le_of_ble_eq_true rfl) d_Ne_restartTable_30 (fun H locs hP hD hS => ?_)
        have hP : va_P (dC, dI) vwCl [oNe a_p0 A_p0 (upd I_p0 3 0), gz cI (A_p0 0) 127 f_p0_firstChild, oSt a_p1 A_p1 I_p1, gz cI (A_p1 0) 900 f_p1_bytes] H := hP
        have hD : va_D A [oNe a_p0 A_p0 (upd I_p0 3 0), gz cI (A_p0 0) 127 f_p0_firstChild, oSt a_p1 A_p1 I_p1, gz cI (A_p1 0) 900 f_p1_bytes] := hD
        exact hret _ _ _ _ ((upd I_p0 3 0), f_p0_firstChild, I_p1, f_p1_bytes) d_Ne_restartTable_33 hP hD hS hw
      · have hw := hw.2 hc
        refine lv_aload_n hx hb d_Ne_restartTable_15 rfl (lv_at hl 0 rfl) ?_
        refine va_get (D := (dC, dI)) (ci := 5) (v := .ref (A_p0 0)) (C := R_Ne) (T := T_Ne) (N := 6) hx hb hg in_Ne hown hK hP 0 rfl rfl 0 (by decide) (hg _ t_224) (fun _ h9 => h9) rfl d_Ne_restartTable_16 ?_
        refine lv_iload_n hx hb d_Ne_restartTable_19 rfl (lv_at hl 1 rfl) ?_
        refine lv_iconst (v := 0) hx hb d_Ne_restartTable_20 (by decide) ?_
        obtain ⟨hin, hw⟩ := hw
        refine va_iast hx hb hK hP hD hS 1 0 rfl rfl hin d_Ne_restartTable_21 (fun H locs hP hD hS => ?_)
        have hP : va_P (dC, dI) vwCl [oNe a_p0 A_p0 I_p0, gz cI (A_p0 0) 127 (upd f_p0_firstChild (x2).toNatClampNeg 0), oSt a_p1 A_p1 I_p1, gz cI (A_p1 0) 900 f_p1_bytes] H := hP
        have hD : va_D A [oNe a_p0 A_p0 I_p0, gz cI (A_p0 0) 127 (upd f_p0_firstChild (x2).toNatClampNeg 0), oSt a_p1 A_p1 I_p1, gz cI (A_p1 0) 900 f_p1_bytes] := hD
        refine lv_iinc (k := 1) (v := (x2 + 1)) (lv' := [(2, .int (x2 + 1)), (0, .ref a_p0)]) hx hb d_Ne_restartTable_22 hl rfl (congrArg (fun z => x2 + z) (by decide : Int32.ofInt 1 = 1)) (by decide) rfl (fun ls hl => ?_)
        refine lv_goto hx hb d_Ne_restartTable_25 rfl ?_
        exact ih _ _ _ I_p0 (upd f_p0_firstChild (x2).toNatClampNeg 0) I_p1 f_p1_bytes (x2 + 1) hP hD hS (lv_sub hl [1, 0] rfl) hw
  intro ls hl hP hD hS
  have hl : lv_has ls 3 [(0, .ref a_p0), (1, .ref a_p1)] := hl
  unfold wp_Ne_restartTable at hw
  refine lv_aload_n hx hb d_Ne_restartTable_0 rfl (lv_at hl 0 rfl) ?_
  refine lv_bipush (v := 16) hx hb d_Ne_restartTable_1 (by decide) ?_
  refine lv_aload_n hx hb d_Ne_restartTable_3 rfl (lv_at hl 1 rfl) ?_
  refine gc_v (wn := fun u => [oNe a_p0 A_p0 u.1, gz cI (A_p0 0) 127 f_p0_firstChild, oSt a_p1 A_p1 u.2.1, gz cI (A_p1 0) 900 u.2.2]) (wr := [gz cI (A_p0 0) 127 f_p0_firstChild]) (gr_V (As := [.int 16, .ref a_p1]) (rest := []) ⟨hx, hb, hml, hown, hg⟩ (c_Ne_emit l dC dI cI a_p0 a_p1 A_p0 A_p1 I_p0 I_p1 f_p1_bytes 16 hw _) (cwV 2 hg (gg_V t_564 t_566 t_7 t_67 t_567) rfl rfl rfl (by decide +kernel) ⟨Nat.le_of_ble_eq_true rfl, Nat.le_of_ble_eq_true rfl⟩) hK hN hP hD [0, 2, 3] (by decide) rfl 0 5 rfl rfl rfl rfl hl.1 rfl (Nat.le_of_ble_eq_true rfl) d_Ne_restartTable_4 ⟨Nat.le_of_ble_eq_true rfl, Nat.le_of_ble_eq_true rfl⟩) rfl rfl hP hD hS hA [0, 2, 3] [1] [1, 0, 2, 3] rfl rfl (by decide) (by decide) (by decide) (fun _ => rfl) ?_
  intro u9 H locs hw hP hD hS
  obtain ⟨I_p0_4, I_p1_4, f_p1_bytes_4⟩ := u9
  try dsimp only at hw
  have hP : va_P (dC, dI) vwCl [oNe a_p0 A_p0 I_p0_4, gz cI (A_p0 0) 127 f_p0_firstChild, oSt a_p1 A_p1 I_p1_4, gz cI (A_p1 0) 900 f_p1_bytes_4] H := hP
  have hD : va_D A [oNe a_p0 A_p0 I_p0_4, gz cI (A_p0 0) 127 f_p0_firstChild, oSt a_p1 A_p1 I_p1_4, gz cI (A_p1 0) 900 f_p1_bytes_4] := hD
  refine lv_iconst (v := 0) hx hb d_Ne_restartTable_7 (by decide) ?_
  refine lv_istore_n (lv' := [(2, .int 0), (0, .ref a_p0), (1, .ref a_p1)]) hx hb d_Ne_restartTable_8 rfl hl (by decide) rfl (fun ls hl => ?_)
  obtain ⟨n1, hw⟩ := hw
  exact l9 n1 _ _ _ I_p0_4 f_p0_firstChild I_p1_4 f_p1_bytes_4 0 hP hD hS (lv_sub hl [1, 0] rfl) hw
theorem d_Da_nibble_0 : decode b_Da_nibble 0 = .ok (.aload_n 0, 1) := by decide +kernel
theorem d_Da_nibble_1 : decode b_Da_nibble 1 = .ok (.getfield 9, 3) := by decide +kernel
theorem d_Da_nibble_4 : decode b_Da_nibble 4 = .ok (.iload_n 1, 1) := by decide +kernel
theorem d_Da_nibble_5 : decode b_Da_nibble 5 = .ok (.iconst 2, 1) := by decide +kernel
theorem d_Da_nibble_6 : decode b_Da_nibble 6 = .ok (.idiv, 1) := by decide +kernel
theorem d_Da_nibble_7 : decode b_Da_nibble 7 = .ok (.iaload, 1) := by decide +kernel
theorem d_Da_nibble_8 : decode b_Da_nibble 8 = .ok (.istore_n 2, 1) := by decide +kernel
theorem d_Da_nibble_9 : decode b_Da_nibble 9 = .ok (.iload_n 1, 1) := by decide +kernel
theorem d_Da_nibble_10 : decode b_Da_nibble 10 = .ok (.iconst 2, 1) := by decide +kernel
theorem d_Da_nibble_11 : decode b_Da_nibble 11 = .ok (.irem, 1) := by decide +kernel
theorem d_Da_nibble_12 : decode b_Da_nibble 12 = .ok (.ifCond .ne 9, 3) := by decide +kernel
theorem d_Da_nibble_15 : decode b_Da_nibble 15 = .ok (.iload_n 2, 1) := by decide +kernel
theorem d_Da_nibble_16 : decode b_Da_nibble 16 = .ok (.iconst 4, 1) := by decide +kernel
theorem d_Da_nibble_17 : decode b_Da_nibble 17 = .ok (.ishr, 1) := by decide +kernel
theorem d_Da_nibble_18 : decode b_Da_nibble 18 = .ok (.goto 7, 3) := by decide +kernel
theorem d_Da_nibble_21 : decode b_Da_nibble 21 = .ok (.iload_n 2, 1) := by decide +kernel
theorem d_Da_nibble_22 : decode b_Da_nibble 22 = .ok (.bipush 15, 2) := by decide +kernel
theorem d_Da_nibble_24 : decode b_Da_nibble 24 = .ok (.iand, 1) := by decide +kernel
theorem d_Da_nibble_25 : decode b_Da_nibble 25 = .ok (.ireturn, 1) := by decide +kernel
def wp_Da_nibble (post : Int32 → Prop) (f_p0_bytes : Nat → Int32) (x1 : Int32) : Prop :=
  vp_in (x1 / 2) 256 ∧
  (((x1 - x1 / 2 * 2) = 0 →
    post ((f_p0_bytes (x1 / 2).toNatClampNeg) >>> (4 &&& 31))) ∧
   (¬ (x1 - x1 / 2 * 2) = 0 →
    post ((f_p0_bytes (x1 / 2).toNatClampNeg) &&& 15)))
set_option maxRecDepth 100000 in
set_option maxHeartbeats 4000000 in
theorem c_Da_nibble (l : Launch) (dC : Nat → ClassId) (dI : Nat → Nat → Nat) (cI : ClassId) (a_p0 : Nat) (A_p0 : Nat → Nat) (f_p0_bytes : Nat → Int32) (x1 : Int32) {post : Int32 → Prop} (hw : wp_Da_nibble post f_p0_bytes x1) : gm_i l y_Da_nibble ws_Da_nibble ({ frames := 0, cells := 0, slots := 0, locals := 0 } : Room) (dC, dI) vwCl [(cI, .int)] [.ref a_p0, .int x1] [oDa a_p0 A_p0, gz cI (A_p0 0) 256 f_p0_bytes] (fun (_ : Unit) => [oDa a_p0 A_p0, gz cI (A_p0 0) 256 f_p0_bytes]) (fun (r : Int32) (_ : Unit) => post r) := by
  refine gm_iof (cc := b_Da_nibble) (maxL := 3) (ty := .int) (by decide) rfl (Nat.le_of_ble_eq_true rfl) ?_
  intro p e s m args below meth c A Q hx hb hml hown hg hK hN hA hret
  have hown : s.vm.findClass R_Da = some m.cls := hown
  intro ls hl hP hD hS
  have hl : lv_has ls 3 [(0, .ref a_p0), (1, .int x1)] := hl
  unfold wp_Da_nibble at hw
  refine lv_aload_n hx hb d_Da_nibble_0 rfl (lv_at hl 0 rfl) ?_
  refine va_get (D := (dC, dI)) (ci := 0) (v := .ref (A_p0 0)) (C := R_Da) (T := T_Da) (N := 1) hx hb hg in_Da hown hK hP 0 rfl rfl 0 (by decide) (hg _ t_213) (fun _ h9 => h9) rfl d_Da_nibble_1 ?_
  refine lv_iload_n hx hb d_Da_nibble_4 rfl (lv_at hl 1 rfl) ?_
  refine lv_iconst (v := 2) hx hb d_Da_nibble_5 (by decide) ?_
  refine lv_idiv hx hb d_Da_nibble_6 (by decide) ?_
  obtain ⟨hin, hw⟩ := hw
  refine va_iald hx hb hK hP 1 0 rfl rfl hin d_Da_nibble_7 ?_
  refine lv_istore_n (lv' := [(2, .int (f_p0_bytes (x1 / 2).toNatClampNeg)), (0, .ref a_p0), (1, .int x1)]) hx hb d_Da_nibble_8 rfl hl (by decide) rfl (fun ls hl => ?_)
  refine lv_iload_n hx hb d_Da_nibble_9 rfl (lv_at hl 2 rfl) ?_
  refine lv_iconst (v := 2) hx hb d_Da_nibble_10 (by decide) ?_
  refine lv_irem hx hb d_Da_nibble_11 (by decide) ?_
  refine lv_if_ne hx hb d_Da_nibble_12 rfl (fun hc => ?_) (fun hc => ?_)
  · have hw := hw.2 hc
    refine lv_iload_n hx hb d_Da_nibble_21 rfl (lv_at hl 0 rfl) ?_
    refine lv_bipush (v := 15) hx hb d_Da_nibble_22 (by decide) ?_
    refine lv_iand hx hb d_Da_nibble_24 ?_
    exact hret _ _ _ _ _ () d_Da_nibble_25 rfl hP hD hS hw
  · have hw := hw.1 hc
    refine lv_iload_n hx hb d_Da_nibble_15 rfl (lv_at hl 0 rfl) ?_
    refine lv_iconst (v := 4) hx hb d_Da_nibble_16 (by decide) ?_
    refine lv_ishr hx hb d_Da_nibble_17 ?_
    refine lv_goto hx hb d_Da_nibble_18 rfl ?_
    exact hret _ _ _ _ _ () d_Da_nibble_25 rfl hP hD hS hw
theorem d_Ne_addRow_0 : decode b_Ne_addRow 0 = .ok (.bipush 17, 2) := by decide +kernel
theorem d_Ne_addRow_2 : decode b_Ne_addRow 2 = .ok (.aload_n 0, 1) := by decide +kernel
theorem d_Ne_addRow_3 : decode b_Ne_addRow 3 = .ok (.getfield 28, 3) := by decide +kernel
theorem d_Ne_addRow_6 : decode b_Ne_addRow 6 = .ok (.iadd, 1) := by decide +kernel
theorem d_Ne_addRow_7 : decode b_Ne_addRow 7 = .ok (.istore_n 3, 1) := by decide +kernel
theorem d_Ne_addRow_8 : decode b_Ne_addRow 8 = .ok (.aload_n 0, 1) := by decide +kernel
theorem d_Ne_addRow_9 : decode b_Ne_addRow 9 = .ok (.getfield 18, 3) := by decide +kernel
theorem d_Ne_addRow_12 : decode b_Ne_addRow 12 = .ok (.iload_n 3, 1) := by decide +kernel
theorem d_Ne_addRow_13 : decode b_Ne_addRow 13 = .ok (.iload_n 2, 1) := by decide +kernel
theorem d_Ne_addRow_14 : decode b_Ne_addRow 14 = .ok (.iastore, 1) := by decide +kernel
theorem d_Ne_addRow_15 : decode b_Ne_addRow 15 = .ok (.aload_n 0, 1) := by decide +kernel
theorem d_Ne_addRow_16 : decode b_Ne_addRow 16 = .ok (.getfield 9, 3) := by decide +kernel
theorem d_Ne_addRow_19 : decode b_Ne_addRow 19 = .ok (.iload_n 3, 1) := by decide +kernel
theorem d_Ne_addRow_20 : decode b_Ne_addRow 20 = .ok (.iconst 0, 1) := by decide +kernel
theorem d_Ne_addRow_21 : decode b_Ne_addRow 21 = .ok (.iastore, 1) := by decide +kernel
theorem d_Ne_addRow_22 : decode b_Ne_addRow 22 = .ok (.aload_n 0, 1) := by decide +kernel
theorem d_Ne_addRow_23 : decode b_Ne_addRow 23 = .ok (.getfield 15, 3) := by decide +kernel
theorem d_Ne_addRow_26 : decode b_Ne_addRow 26 = .ok (.iload_n 3, 1) := by decide +kernel
theorem d_Ne_addRow_27 : decode b_Ne_addRow 27 = .ok (.aload_n 0, 1) := by decide +kernel
theorem d_Ne_addRow_28 : decode b_Ne_addRow 28 = .ok (.getfield 9, 3) := by decide +kernel
theorem d_Ne_addRow_31 : decode b_Ne_addRow 31 = .ok (.iload_n 1, 1) := by decide +kernel
theorem d_Ne_addRow_32 : decode b_Ne_addRow 32 = .ok (.iaload, 1) := by decide +kernel
theorem d_Ne_addRow_33 : decode b_Ne_addRow 33 = .ok (.iastore, 1) := by decide +kernel
theorem d_Ne_addRow_34 : decode b_Ne_addRow 34 = .ok (.aload_n 0, 1) := by decide +kernel
theorem d_Ne_addRow_35 : decode b_Ne_addRow 35 = .ok (.getfield 9, 3) := by decide +kernel
theorem d_Ne_addRow_38 : decode b_Ne_addRow 38 = .ok (.iload_n 1, 1) := by decide +kernel
theorem d_Ne_addRow_39 : decode b_Ne_addRow 39 = .ok (.iload_n 3, 1) := by decide +kernel
theorem d_Ne_addRow_40 : decode b_Ne_addRow 40 = .ok (.iastore, 1) := by decide +kernel
theorem d_Ne_addRow_41 : decode b_Ne_addRow 41 = .ok (.return_, 1) := by decide +kernel
def wp_Ne_addRow (post : (Nat → Int32) → (Nat → Int32) → (Nat → Int32) → Prop) (I_p0 : Nat → Int32) (f_p0_firstChild : Nat → Int32) (f_p0_lastNibble : Nat → Int32) (f_p0_nextSibling : Nat → Int32) (x1 : Int32) (x2 : Int32) : Prop :=
  vp_in (17 + (I_p0 3)) 127 ∧
  vp_in (17 + (I_p0 3)) 127 ∧
  vp_in x1 127 ∧
  vp_in (17 + (I_p0 3)) 127 ∧
  vp_in x1 127 ∧
  post (upd (upd f_p0_firstChild (17 + (I_p0 3)).toNatClampNeg 0) (x1).toNatClampNeg (17 + (I_p0 3))) (upd f_p0_lastNibble (17 + (I_p0 3)).toNatClampNeg x2) (upd f_p0_nextSibling (17 + (I_p0 3)).toNatClampNeg ((upd f_p0_firstChild (17 + (I_p0 3)).toNatClampNeg 0) (x1).toNatClampNeg))
set_option maxRecDepth 100000 in
set_option maxHeartbeats 4000000 in
theorem c_Ne_addRow (l : Launch) (dC : Nat → ClassId) (dI : Nat → Nat → Nat) (cI : ClassId) (a_p0 : Nat) (A_p0 : Nat → Nat) (I_p0 : Nat → Int32) (f_p0_firstChild : Nat → Int32) (f_p0_lastNibble : Nat → Int32) (f_p0_nextSibling : Nat → Int32) (x1 : Int32) (x2 : Int32) {post : (Nat → Int32) → (Nat → Int32) → (Nat → Int32) → Prop} (hw : wp_Ne_addRow post I_p0 f_p0_firstChild f_p0_lastNibble f_p0_nextSibling x1 x2) : gm_v l y_Ne_addRow ws_Ne_addRow ({ frames := 0, cells := 0, slots := 0, locals := 0 } : Room) (dC, dI) vwCl [(cI, .int)] [.ref a_p0, .int x1, .int x2] [oNe a_p0 A_p0 I_p0, gz cI (A_p0 0) 127 f_p0_firstChild, gz cI (A_p0 2) 127 f_p0_lastNibble, gz cI (A_p0 1) 127 f_p0_nextSibling] (fun (u : (Nat → Int32) × (Nat → Int32) × (Nat → Int32)) => [oNe a_p0 A_p0 I_p0, gz cI (A_p0 0) 127 u.1, gz cI (A_p0 2) 127 u.2.1, gz cI (A_p0 1) 127 u.2.2]) (fun (u : (Nat → Int32) × (Nat → Int32) × (Nat → Int32)) => post  u.1 u.2.1 u.2.2) := by
  refine gm_vof (cc := b_Ne_addRow) (maxL := 4) (by decide) rfl (Nat.le_of_ble_eq_true rfl) ?_
  intro p e s m args below meth c A Q hx hb hml hown hg hK hN hA hnm hret
  have hown : s.vm.findClass R_Ne = some m.cls := hown
  intro ls hl hP hD hS
  have hl : lv_has ls 4 [(0, .ref a_p0), (1, .int x1), (2, .int x2)] := hl
  unfold wp_Ne_addRow at hw
  refine lv_bipush (v := 17) hx hb d_Ne_addRow_0 (by decide) ?_
  refine lv_aload_n hx hb d_Ne_addRow_2 rfl (lv_at hl 0 rfl) ?_
  refine va_get (D := (dC, dI)) (ci := 5) (v := .int (I_p0 3)) (C := R_Ne) (T := T_Ne) (N := 6) hx hb hg in_Ne hown hK hP 0 rfl rfl 3 (by decide) (hg _ t_227) (fun _ h9 => h9) rfl d_Ne_addRow_3 ?_
  refine lv_iadd hx hb d_Ne_addRow_6 ?_
  refine lv_istore_n (lv' := [(3, .int (17 + (I_p0 3))), (0, .ref a_p0), (1, .int x1), (2, .int x2)]) hx hb d_Ne_addRow_7 rfl hl (by decide) rfl (fun ls hl => ?_)
  refine lv_aload_n hx hb d_Ne_addRow_8 rfl (lv_at hl 1 rfl) ?_
  refine va_get (D := (dC, dI)) (ci := 5) (v := .ref (A_p0 2)) (C := R_Ne) (T := T_Ne) (N := 6) hx hb hg in_Ne hown hK hP 0 rfl rfl 2 (by decide) (hg _ t_226) (fun _ h9 => h9) rfl d_Ne_addRow_9 ?_
  refine lv_iload_n hx hb d_Ne_addRow_12 rfl (lv_at hl 0 rfl) ?_
  refine lv_iload_n hx hb d_Ne_addRow_13 rfl (lv_at hl 3 rfl) ?_
  obtain ⟨hin, hw⟩ := hw
  refine va_iast hx hb hK hP hD hS 2 0 rfl rfl hin d_Ne_addRow_14 (fun H locs hP hD hS => ?_)
  have hP : va_P (dC, dI) vwCl [oNe a_p0 A_p0 I_p0, gz cI (A_p0 0) 127 f_p0_firstChild, gz cI (A_p0 2) 127 (upd f_p0_lastNibble (17 + (I_p0 3)).toNatClampNeg x2), gz cI (A_p0 1) 127 f_p0_nextSibling] H := hP
  have hD : va_D A [oNe a_p0 A_p0 I_p0, gz cI (A_p0 0) 127 f_p0_firstChild, gz cI (A_p0 2) 127 (upd f_p0_lastNibble (17 + (I_p0 3)).toNatClampNeg x2), gz cI (A_p0 1) 127 f_p0_nextSibling] := hD
  refine lv_aload_n hx hb d_Ne_addRow_15 rfl (lv_at hl 1 rfl) ?_
  refine va_get (D := (dC, dI)) (ci := 5) (v := .ref (A_p0 0)) (C := R_Ne) (T := T_Ne) (N := 6) hx hb hg in_Ne hown hK hP 0 rfl rfl 0 (by decide) (hg _ t_224) (fun _ h9 => h9) rfl d_Ne_addRow_16 ?_
  refine lv_iload_n hx hb d_Ne_addRow_19 rfl (lv_at hl 0 rfl) ?_
  refine lv_iconst (v := 0) hx hb d_Ne_addRow_20 (by decide) ?_
  obtain ⟨hin, hw⟩ := hw
  refine va_iast hx hb hK hP hD hS 1 0 rfl rfl hin d_Ne_addRow_21 (fun H locs hP hD hS => ?_)
  have hP : va_P (dC, dI) vwCl [oNe a_p0 A_p0 I_p0, gz cI (A_p0 0) 127 (upd f_p0_firstChild (17 + (I_p0 3)).toNatClampNeg 0), gz cI (A_p0 2) 127 (upd f_p0_lastNibble (17 + (I_p0 3)).toNatClampNeg x2), gz cI (A_p0 1) 127 f_p0_nextSibling] H := hP
  have hD : va_D A [oNe a_p0 A_p0 I_p0, gz cI (A_p0 0) 127 (upd f_p0_firstChild (17 + (I_p0 3)).toNatClampNeg 0), gz cI (A_p0 2) 127 (upd f_p0_lastNibble (17 + (I_p0 3)).toNatClampNeg x2), gz cI (A_p0 1) 127 f_p0_nextSibling] := hD
  refine lv_aload_n hx hb d_Ne_addRow_22 rfl (lv_at hl 1 rfl) ?_
  refine va_get (D := (dC, dI)) (ci := 5) (v := .ref (A_p0 1)) (C := R_Ne) (T := T_Ne) (N := 6) hx hb hg in_Ne hown hK hP 0 rfl rfl 1 (by decide) (hg _ t_225) (fun _ h9 => h9) rfl d_Ne_addRow_23 ?_
  refine lv_iload_n hx hb d_Ne_addRow_26 rfl (lv_at hl 0 rfl) ?_
  refine lv_aload_n hx hb d_Ne_addRow_27 rfl (lv_at hl 1 rfl) ?_
  refine va_get (D := (dC, dI)) (ci := 5) (v := .ref (A_p0 0)) (C := R_Ne) (T := T_Ne) (N := 6) hx hb hg in_Ne hown hK hP 0 rfl rfl 0 (by decide) (hg _ t_224) (fun _ h9 => h9) rfl d_Ne_addRow_28 ?_
  refine lv_iload_n hx hb d_Ne_addRow_31 rfl (lv_at hl 2 rfl) ?_
  obtain ⟨hin, hw⟩ := hw
  refine va_iald hx hb hK hP 1 0 rfl rfl hin d_Ne_addRow_32 ?_
  obtain ⟨hin, hw⟩ := hw
  refine va_iast hx hb hK hP hD hS 3 0 rfl rfl hin d_Ne_addRow_33 (fun H locs hP hD hS => ?_)
  have hP : va_P (dC, dI) vwCl [oNe a_p0 A_p0 I_p0, gz cI (A_p0 0) 127 (upd f_p0_firstChild (17 + (I_p0 3)).toNatClampNeg 0), gz cI (A_p0 2) 127 (upd f_p0_lastNibble (17 + (I_p0 3)).toNatClampNeg x2), gz cI (A_p0 1) 127 (upd f_p0_nextSibling (17 + (I_p0 3)).toNatClampNeg ((upd f_p0_firstChild (17 + (I_p0 3)).toNatClampNeg 0) (x1).toNatClampNeg))] H := hP
  have hD : va_D A [oNe a_p0 A_p0 I_p0, gz cI (A_p0 0) 127 (upd f_p0_firstChild (17 + (I_p0 3)).toNatClampNeg 0), gz cI (A_p0 2) 127 (upd f_p0_lastNibble (17 + (I_p0 3)).toNatClampNeg x2), gz cI (A_p0 1) 127 (upd f_p0_nextSibling (17 + (I_p0 3)).toNatClampNeg ((upd f_p0_firstChild (17 + (I_p0 3)).toNatClampNeg 0) (x1).toNatClampNeg))] := hD
  refine lv_aload_n hx hb d_Ne_addRow_34 rfl (lv_at hl 1 rfl) ?_
  refine va_get (D := (dC, dI)) (ci := 5) (v := .ref (A_p0 0)) (C := R_Ne) (T := T_Ne) (N := 6) hx hb hg in_Ne hown hK hP 0 rfl rfl 0 (by decide) (hg _ t_224) (fun _ h9 => h9) rfl d_Ne_addRow_35 ?_
  refine lv_iload_n hx hb d_Ne_addRow_38 rfl (lv_at hl 2 rfl) ?_
  refine lv_iload_n hx hb d_Ne_addRow_39 rfl (lv_at hl 0 rfl) ?_
  obtain ⟨hin, hw⟩ := hw
  refine va_iast hx hb hK hP hD hS 1 0 rfl rfl hin d_Ne_addRow_40 (fun H locs hP hD hS => ?_)
  have hP : va_P (dC, dI) vwCl [oNe a_p0 A_p0 I_p0, gz cI (A_p0 0) 127 (upd (upd f_p0_firstChild (17 + (I_p0 3)).toNatClampNeg 0) (x1).toNatClampNeg (17 + (I_p0 3))), gz cI (A_p0 2) 127 (upd f_p0_lastNibble (17 + (I_p0 3)).toNatClampNeg x2), gz cI (A_p0 1) 127 (upd f_p0_nextSibling (17 + (I_p0 3)).toNatClampNeg ((upd f_p0_firstChild (17 + (I_p0 3)).toNatClampNeg 0) (x1).toNatClampNeg))] H := hP
  have hD : va_D A [oNe a_p0 A_p0 I_p0, gz cI (A_p0 0) 127 (upd (upd f_p0_firstChild (17 + (I_p0 3)).toNatClampNeg 0) (x1).toNatClampNeg (17 + (I_p0 3))), gz cI (A_p0 2) 127 (upd f_p0_lastNibble (17 + (I_p0 3)).toNatClampNeg x2), gz cI (A_p0 1) 127 (upd f_p0_nextSibling (17 + (I_p0 3)).toNatClampNeg ((upd f_p0_firstChild (17 + (I_p0 3)).toNatClampNeg 0) (x1).toNatClampNeg))] := hD
  exact hret _ _ _ _ ((upd (upd f_p0_firstChild (17 + (I_p0 3)).toNatClampNeg 0) (x1).toNatClampNeg (17 + (I_p0 3))), (upd f_p0_lastNibble (17 + (I_p0 3)).toNatClampNeg x2), (upd f_p0_nextSibling (17 + (I_p0 3)).toNatClampNeg ((upd f_p0_firstChild (17 + (I_p0 3)).toNatClampNeg 0) (x1).toNatClampNeg))) d_Ne_addRow_41 hP hD hS hw
theorem d_Ne_child_0 : decode b_Ne_child 0 = .ok (.aload_n 0, 1) := by decide +kernel
theorem d_Ne_child_1 : decode b_Ne_child 1 = .ok (.getfield 9, 3) := by decide +kernel
theorem d_Ne_child_4 : decode b_Ne_child 4 = .ok (.iload_n 1, 1) := by decide +kernel
theorem d_Ne_child_5 : decode b_Ne_child 5 = .ok (.iaload, 1) := by decide +kernel
theorem d_Ne_child_6 : decode b_Ne_child 6 = .ok (.istore_n 3, 1) := by decide +kernel
theorem d_Ne_child_7 : decode b_Ne_child 7 = .ok (.iconst 0, 1) := by decide +kernel
theorem d_Ne_child_8 : decode b_Ne_child 8 = .ok (.istore 4, 2) := by decide +kernel
theorem d_Ne_child_10 : decode b_Ne_child 10 = .ok (.iload 4, 2) := by decide +kernel
theorem d_Ne_child_12 : decode b_Ne_child 12 = .ok (.bipush 16, 2) := by decide +kernel
theorem d_Ne_child_14 : decode b_Ne_child 14 = .ok (.if_icmp .ge 32, 3) := by decide +kernel
theorem d_Ne_child_17 : decode b_Ne_child 17 = .ok (.iload_n 3, 1) := by decide +kernel
theorem d_Ne_child_18 : decode b_Ne_child 18 = .ok (.ifCond .eq 28, 3) := by decide +kernel
theorem d_Ne_child_21 : decode b_Ne_child 21 = .ok (.aload_n 0, 1) := by decide +kernel
theorem d_Ne_child_22 : decode b_Ne_child 22 = .ok (.getfield 18, 3) := by decide +kernel
theorem d_Ne_child_25 : decode b_Ne_child 25 = .ok (.iload_n 3, 1) := by decide +kernel
theorem d_Ne_child_26 : decode b_Ne_child 26 = .ok (.iaload, 1) := by decide +kernel
theorem d_Ne_child_27 : decode b_Ne_child 27 = .ok (.iload_n 2, 1) := by decide +kernel
theorem d_Ne_child_28 : decode b_Ne_child 28 = .ok (.if_icmp .ne 5, 3) := by decide +kernel
theorem d_Ne_child_31 : decode b_Ne_child 31 = .ok (.iload_n 3, 1) := by decide +kernel
theorem d_Ne_child_32 : decode b_Ne_child 32 = .ok (.ireturn, 1) := by decide +kernel
theorem d_Ne_child_33 : decode b_Ne_child 33 = .ok (.aload_n 0, 1) := by decide +kernel
theorem d_Ne_child_34 : decode b_Ne_child 34 = .ok (.getfield 15, 3) := by decide +kernel
theorem d_Ne_child_37 : decode b_Ne_child 37 = .ok (.iload_n 3, 1) := by decide +kernel
theorem d_Ne_child_38 : decode b_Ne_child 38 = .ok (.iaload, 1) := by decide +kernel
theorem d_Ne_child_39 : decode b_Ne_child 39 = .ok (.istore_n 3, 1) := by decide +kernel
theorem d_Ne_child_40 : decode b_Ne_child 40 = .ok (.iinc 4 1, 3) := by decide +kernel
theorem d_Ne_child_43 : decode b_Ne_child 43 = .ok (.goto (-33), 3) := by decide +kernel
theorem d_Ne_child_46 : decode b_Ne_child 46 = .ok (.iconst 0, 1) := by decide +kernel
theorem d_Ne_child_47 : decode b_Ne_child 47 = .ok (.ireturn, 1) := by decide +kernel
def wp_Ne_child_l10 (post : Int32 → Prop) (I_p0 : Nat → Int32) (f_p0_firstChild : Nat → Int32) (f_p0_lastNibble : Nat → Int32) (f_p0_nextSibling : Nat → Int32) : Nat → Int32 → Int32 → Int32 → Prop
  | 0, _, _, _ => False
  | n + 1, x2, x3, x4 =>
    ((16 ≤ x4 →
      post 0) ∧
     (¬ 16 ≤ x4 →
      ((x3 = 0 →
        post 0) ∧
       (¬ x3 = 0 →
        vp_in x3 127 ∧
        (((f_p0_lastNibble (x3).toNatClampNeg) = x2 →
          post x3) ∧
         (¬ (f_p0_lastNibble (x3).toNatClampNeg) = x2 →
          vp_in x3 127 ∧
          wp_Ne_child_l10 post I_p0 f_p0_firstChild f_p0_lastNibble f_p0_nextSibling n x2 (f_p0_nextSibling (x3).toNatClampNeg) (x4 + 1)))))))
def wp_Ne_child (post : Int32 → Prop) (I_p0 : Nat → Int32) (f_p0_firstChild : Nat → Int32) (f_p0_lastNibble : Nat → Int32) (f_p0_nextSibling : Nat → Int32) (x1 : Int32) (x2 : Int32) : Prop :=
  vp_in x1 127 ∧
  (∃ n1 : Nat, wp_Ne_child_l10 post I_p0 f_p0_firstChild f_p0_lastNibble f_p0_nextSibling n1 x2 (f_p0_firstChild (x1).toNatClampNeg) 0)
set_option maxRecDepth 100000 in
set_option maxHeartbeats 4000000 in
theorem c_Ne_child (l : Launch) (dC : Nat → ClassId) (dI : Nat → Nat → Nat) (cI : ClassId) (a_p0 : Nat) (A_p0 : Nat → Nat) (I_p0 : Nat → Int32) (f_p0_firstChild : Nat → Int32) (f_p0_lastNibble : Nat → Int32) (f_p0_nextSibling : Nat → Int32) (x1 : Int32) (x2 : Int32) {post : Int32 → Prop} (hw : wp_Ne_child post I_p0 f_p0_firstChild f_p0_lastNibble f_p0_nextSibling x1 x2) : gm_i l y_Ne_child ws_Ne_child ({ frames := 0, cells := 0, slots := 0, locals := 0 } : Room) (dC, dI) vwCl [(cI, .int)] [.ref a_p0, .int x1, .int x2] [oNe a_p0 A_p0 I_p0, gz cI (A_p0 0) 127 f_p0_firstChild, gz cI (A_p0 2) 127 f_p0_lastNibble, gz cI (A_p0 1) 127 f_p0_nextSibling] (fun (_ : Unit) => [oNe a_p0 A_p0 I_p0, gz cI (A_p0 0) 127 f_p0_firstChild, gz cI (A_p0 2) 127 f_p0_lastNibble, gz cI (A_p0 1) 127 f_p0_nextSibling]) (fun (r : Int32) (_ : Unit) => post r) := by
  refine gm_iof (cc := b_Ne_child) (maxL := 5) (ty := .int) (by decide) rfl (Nat.le_of_ble_eq_true rfl) ?_
  intro p e s m args below meth c A Q hx hb hml hown hg hK hN hA hret
  have hown : s.vm.findClass R_Ne = some m.cls := hown
  have l10 : ∀ n : Nat, ∀ (H : Heap) (locs : List Loc) (ls : Array Slot) (x2 : Int32) (x3 : Int32) (x4 : Int32), va_P (dC, dI) vwCl [oNe a_p0 A_p0 I_p0, gz cI (A_p0 0) 127 f_p0_firstChild, gz cI (A_p0 2) 127 f_p0_lastNibble, gz cI (A_p0 1) 127 f_p0_nextSibling] H → va_D A [oNe a_p0 A_p0 I_p0, gz cI (A_p0 0) 127 f_p0_firstChild, gz cI (A_p0 2) 127 f_p0_lastNibble, gz cI (A_p0 1) 127 f_p0_nextSibling] → va_S A s.heap H locs → lv_has ls 5 [(0, .ref a_p0), (2, .int x2), (3, .int x3), (4, .int x4)] → wp_Ne_child_l10 post I_p0 f_p0_firstChild f_p0_lastNibble f_p0_nextSibling n x2 x3 x4 → W p l e ({ frames := 0, cells := 0, slots := 0, locals := 0 } : Room) s m args below meth c H locs 0 0 Q (F0 m 10 ls []) := by
    intro n
    induction n with
    | zero => intro H locs ls x2 x3 x4 hP hD hS hl hw; exact hw.elim
    | succ n ih =>
      intro H locs ls x2 x3 x4 hP hD hS hl hw
      unfold wp_Ne_child_l10 at hw
      refine lv_iload hx hb d_Ne_child_10 (lv_at hl 3 rfl) ?_
      refine lv_bipush (v := 16) hx hb d_Ne_child_12 (by decide) ?_
      refine lv_icmp_ge hx hb d_Ne_child_14 rfl (fun hc => ?_) (fun hc => ?_)
      · have hw := hw.1 hc
        refine lv_iconst (v := 0) hx hb d_Ne_child_46 (by decide) ?_
        exact hret _ _ _ _ _ () d_Ne_child_47 rfl hP hD hS hw
      · have hw := hw.2 hc
        refine lv_iload_n hx hb d_Ne_child_17 rfl (lv_at hl 2 rfl) ?_
        refine lv_if_eq hx hb d_Ne_child_18 rfl (fun hc => ?_) (fun hc => ?_)
        · have hw := hw.1 hc
          refine lv_iconst (v := 0) hx hb d_Ne_child_46 (by decide) ?_
          exact hret _ _ _ _ _ () d_Ne_child_47 rfl hP hD hS hw
        · have hw := hw.2 hc
          refine lv_aload_n hx hb d_Ne_child_21 rfl (lv_at hl 0 rfl) ?_
          refine va_get (D := (dC, dI)) (ci := 5) (v := .ref (A_p0 2)) (C := R_Ne) (T := T_Ne) (N := 6) hx hb hg in_Ne hown hK hP 0 rfl rfl 2 (by decide) (hg _ t_226) (fun _ h9 => h9) rfl d_Ne_child_22 ?_
          refine lv_iload_n hx hb d_Ne_child_25 rfl (lv_at hl 2 rfl) ?_
          obtain ⟨hin, hw⟩ := hw
          refine va_iald hx hb hK hP 2 0 rfl rfl hin d_Ne_child_26 ?_
          refine lv_iload_n hx hb d_Ne_child_27 rfl (lv_at hl 1 rfl) ?_
          refine lv_icmp_ne hx hb d_Ne_child_28 rfl (fun hc => ?_) (fun hc => ?_)
          · have hw := hw.2 hc
            refine lv_aload_n hx hb d_Ne_child_33 rfl (lv_at hl 0 rfl) ?_
            refine va_get (D := (dC, dI)) (ci := 5) (v := .ref (A_p0 1)) (C := R_Ne) (T := T_Ne) (N := 6) hx hb hg in_Ne hown hK hP 0 rfl rfl 1 (by decide) (hg _ t_225) (fun _ h9 => h9) rfl d_Ne_child_34 ?_
            refine lv_iload_n hx hb d_Ne_child_37 rfl (lv_at hl 2 rfl) ?_
            obtain ⟨hin, hw⟩ := hw
            refine va_iald hx hb hK hP 3 0 rfl rfl hin d_Ne_child_38 ?_
            refine lv_istore_n (lv' := [(3, .int (f_p0_nextSibling (x3).toNatClampNeg)), (0, .ref a_p0), (2, .int x2), (4, .int x4)]) hx hb d_Ne_child_39 rfl hl (by decide) rfl (fun ls hl => ?_)
            refine lv_iinc (k := 3) (v := (x4 + 1)) (lv' := [(4, .int (x4 + 1)), (3, .int (f_p0_nextSibling (x3).toNatClampNeg)), (0, .ref a_p0), (2, .int x2)]) hx hb d_Ne_child_40 hl rfl (congrArg (fun z => x4 + z) (by decide : Int32.ofInt 1 = 1)) (by decide) rfl (fun ls hl => ?_)
            refine lv_goto hx hb d_Ne_child_43 rfl ?_
            exact ih _ _ _ x2 (f_p0_nextSibling (x3).toNatClampNeg) (x4 + 1) hP hD hS (lv_sub hl [2, 3, 1, 0] rfl) hw
          · have hw := hw.1 hc
            refine lv_iload_n hx hb d_Ne_child_31 rfl (lv_at hl 2 rfl) ?_
            exact hret _ _ _ _ _ () d_Ne_child_32 rfl hP hD hS hw
  intro ls hl hP hD hS
  have hl : lv_has ls 5 [(0, .ref a_p0), (1, .int x1), (2, .int x2)] := hl
  unfold wp_Ne_child at hw
  refine lv_aload_n hx hb d_Ne_child_0 rfl (lv_at hl 0 rfl) ?_
  refine va_get (D := (dC, dI)) (ci := 5) (v := .ref (A_p0 0)) (C := R_Ne) (T := T_Ne) (N := 6) hx hb hg in_Ne hown hK hP 0 rfl rfl 0 (by decide) (hg _ t_224) (fun _ h9 => h9) rfl d_Ne_child_1 ?_
  refine lv_iload_n hx hb d_Ne_child_4 rfl (lv_at hl 1 rfl) ?_
  obtain ⟨hin, hw⟩ := hw
  refine va_iald hx hb hK hP 1 0 rfl rfl hin d_Ne_child_5 ?_
  refine lv_istore_n (lv' := [(3, .int (f_p0_firstChild (x1).toNatClampNeg)), (0, .ref a_p0), (1, .int x1), (2, .int x2)]) hx hb d_Ne_child_6 rfl hl (by decide) rfl (fun ls hl => ?_)
  refine lv_iconst (v := 0) hx hb d_Ne_child_7 (by decide) ?_
  refine lv_istore (lv' := [(4, .int 0), (3, .int (f_p0_firstChild (x1).toNatClampNeg)), (0, .ref a_p0), (1, .int x1), (2, .int x2)]) hx hb d_Ne_child_8 hl (by decide) rfl (fun ls hl => ?_)
  obtain ⟨n1, hw⟩ := hw
  exact l10 n1 _ _ _ x2 (f_p0_firstChild (x1).toNatClampNeg) 0 hP hD hS (lv_sub hl [2, 4, 1, 0] rfl) hw
