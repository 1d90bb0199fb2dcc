theorem d_M_code_0 : decode b_M_code 0 = .ok (.iconst 0, 1) := by decide +kernel
theorem d_M_code_1 : decode b_M_code 1 = .ok (.istore 4, 2) := by decide +kernel
theorem d_M_code_3 : decode b_M_code 3 = .ok (.iload_n 2, 1) := by decide +kernel
theorem d_M_code_4 : decode b_M_code 4 = .ok (.istore 5, 2) := by decide +kernel
theorem d_M_code_6 : decode b_M_code 6 = .ok (.iload 5, 2) := by decide +kernel
theorem d_M_code_8 : decode b_M_code 8 = .ok (.iload_n 2, 1) := by decide +kernel
theorem d_M_code_9 : decode b_M_code 9 = .ok (.iload_n 3, 1) := by decide +kernel
theorem d_M_code_10 : decode b_M_code 10 = .ok (.iadd, 1) := by decide +kernel
theorem d_M_code_11 : decode b_M_code 11 = .ok (.if_icmp .ge 39, 3) := by decide +kernel
theorem d_M_code_14 : decode b_M_code 14 = .ok (.iconst 2, 1) := by decide +kernel
theorem d_M_code_15 : decode b_M_code 15 = .ok (.iload 4, 2) := by decide +kernel
theorem d_M_code_17 : decode b_M_code 17 = .ok (.imul, 1) := by decide +kernel
theorem d_M_code_18 : decode b_M_code 18 = .ok (.aload_n 0, 1) := by decide +kernel
theorem d_M_code_19 : decode b_M_code 19 = .ok (.getfield 7, 3) := by decide +kernel
theorem d_M_code_22 : decode b_M_code 22 = .ok (.iload_n 1, 1) := by decide +kernel
theorem d_M_code_23 : decode b_M_code 23 = .ok (.iload 5, 2) := by decide +kernel
theorem d_M_code_25 : decode b_M_code 25 = .ok (.bipush 8, 2) := by decide +kernel
theorem d_M_code_27 : decode b_M_code 27 = .ok (.idiv, 1) := by decide +kernel
theorem d_M_code_28 : decode b_M_code 28 = .ok (.iadd, 1) := by decide +kernel
theorem d_M_code_29 : decode b_M_code 29 = .ok (.iaload, 1) := by decide +kernel
theorem d_M_code_30 : decode b_M_code 30 = .ok (.bipush 7, 2) := by decide +kernel
theorem d_M_code_32 : decode b_M_code 32 = .ok (.iload 5, 2) := by decide +kernel
theorem d_M_code_34 : decode b_M_code 34 = .ok (.bipush 8, 2) := by decide +kernel
theorem d_M_code_36 : decode b_M_code 36 = .ok (.irem, 1) := by decide +kernel
theorem d_M_code_37 : decode b_M_code 37 = .ok (.isub, 1) := by decide +kernel
theorem d_M_code_38 : decode b_M_code 38 = .ok (.ishr, 1) := by decide +kernel
theorem d_M_code_39 : decode b_M_code 39 = .ok (.iconst 1, 1) := by decide +kernel
theorem d_M_code_40 : decode b_M_code 40 = .ok (.iand, 1) := by decide +kernel
theorem d_M_code_41 : decode b_M_code 41 = .ok (.iadd, 1) := by decide +kernel
theorem d_M_code_42 : decode b_M_code 42 = .ok (.istore 4, 2) := by decide +kernel
theorem d_M_code_44 : decode b_M_code 44 = .ok (.iinc 5 1, 3) := by decide +kernel
theorem d_M_code_47 : decode b_M_code 47 = .ok (.goto (-41), 3) := by decide +kernel
theorem d_M_code_50 : decode b_M_code 50 = .ok (.iload 4, 2) := by decide +kernel
theorem d_M_code_52 : decode b_M_code 52 = .ok (.ireturn, 1) := by decide +kernel
def wp_M_code_l6 (post : Int32 → Prop) (I_p0 : Nat → Int32) (f_p0_file : Nat → Int32) : Nat → Int32 → Int32 → Int32 → Int32 → Int32 → Prop
  | 0, _, _, _, _, _ => False
  | n + 1, x1, x2, x3, x4, x5 =>
    (((x2 + x3) ≤ x5 →
      post x4) ∧
     (¬ (x2 + x3) ≤ x5 →
      vp_in (x1 + (x5 / 8)) 2000 ∧
      ∀ v : Int32, v = ((2 * x4) + (((f_p0_file (x1 + (x5 / 8)).toNatClampNeg) >>> ((7 - (x5 - x5 / 8 * 8)) &&& 31)) &&& 1)) →
      wp_M_code_l6 post I_p0 f_p0_file n x1 x2 x3 v (x5 + 1)))
def wp_M_code (post : Int32 → Prop) (I_p0 : Nat → Int32) (f_p0_file : Nat → Int32) (x1 : Int32) (x2 : Int32) (x3 : Int32) : Prop :=
  (∃ n1 : Nat, wp_M_code_l6 post I_p0 f_p0_file n1 x1 x2 x3 0 x2)
set_option maxRecDepth 100000 in
set_option maxHeartbeats 4000000 in
theorem c_M_code (l : Launch) (dC : Nat → ClassId) (dI : Nat → Nat → Nat) (cI : ClassId) (a_p0 : Nat) (A_p0 : Nat → Nat) (I_p0 : Nat → Int32) (f_p0_file : Nat → Int32) (x1 : Int32) (x2 : Int32) (x3 : Int32) {post : Int32 → Prop} (hw : wp_M_code post I_p0 f_p0_file x1 x2 x3) : gm_i l y_M_code ws_M_code ({ frames := 0, cells := 0, slots := 0, locals := 0 } : Room) (dC, dI) vwCl [(cI, .int)] [.ref a_p0, .int x1, .int x2, .int x3] [oM a_p0 A_p0 I_p0, gz cI (A_p0 0) 2000 f_p0_file] (fun (_ : Unit) => [oM a_p0 A_p0 I_p0, gz cI (A_p0 0) 2000 f_p0_file]) (fun (r : Int32) (_ : Unit) => post r) := by
  refine gm_iof (cc := b_M_code) (maxL := 6) (ty := .int) (by decide) rfl (Nat.le_of_ble_eq_true rfl) ?_
  intro p e s m args below meth c A Q hx hb hml hown hg hK hN hA hret
  have hown : s.vm.findClass R_M = some m.cls := hown
  have l6 : ∀ n : Nat, ∀ (H : Heap) (locs : List Loc) (ls : Array Slot) (x1 : Int32) (x2 : Int32) (x3 : Int32) (x4 : Int32) (x5 : Int32), va_P (dC, dI) vwCl [oM a_p0 A_p0 I_p0, gz cI (A_p0 0) 2000 f_p0_file] H → va_D A [oM a_p0 A_p0 I_p0, gz cI (A_p0 0) 2000 f_p0_file] → va_S A s.heap H locs → lv_has ls 6 [(0, .ref a_p0), (1, .int x1), (2, .int x2), (3, .int x3), (4, .int x4), (5, .int x5)] → wp_M_code_l6 post I_p0 f_p0_file n x1 x2 x3 x4 x5 → W p l e ({ frames := 0, cells := 0, slots := 0, locals := 0 } : Room) s m args below meth c H locs 0 0 Q (F0 m 6 ls []) := by
    intro n
    induction n with
    | zero => intro H locs ls x1 x2 x3 x4 x5 hP hD hS hl hw; exact hw.elim
    | succ n ih =>
      intro H locs ls x1 x2 x3 x4 x5 hP hD hS hl hw
      unfold wp_M_code_l6 at hw
      refine lv_iload hx hb d_M_code_6 (lv_at hl 5 rfl) ?_
      refine lv_iload_n hx hb d_M_code_8 rfl (lv_at hl 2 rfl) ?_
      refine lv_iload_n hx hb d_M_code_9 rfl (lv_at hl 3 rfl) ?_
      refine lv_iadd hx hb d_M_code_10 ?_
      refine lv_icmp_ge hx hb d_M_code_11 rfl (fun hc => ?_) (fun hc => ?_)
      · have hw := hw.1 hc
        refine lv_iload hx hb d_M_code_50 (lv_at hl 4 rfl) ?_
        exact hret _ _ _ _ _ () d_M_code_52 rfl hP hD hS hw
      · have hw := hw.2 hc
        refine lv_iconst (v := 2) hx hb d_M_code_14 (by decide) ?_
        refine lv_iload hx hb d_M_code_15 (lv_at hl 4 rfl) ?_
        refine lv_imul hx hb d_M_code_17 ?_
        refine lv_aload_n hx hb d_M_code_18 rfl (lv_at hl 0 rfl) ?_
        refine va_get (D := (dC, dI)) (ci := 10) (v := .ref (A_p0 0)) (C := R_M) (T := T_M) (N := 30) hx hb hg in_M hown hK hP 0 rfl rfl 0 (by decide) (hg _ t_758) (fun _ h9 => h9) rfl d_M_code_19 ?_
        refine lv_iload_n hx hb d_M_code_22 rfl (lv_at hl 1 rfl) ?_
        refine lv_iload hx hb d_M_code_23 (lv_at hl 5 rfl) ?_
        refine lv_bipush (v := 8) hx hb d_M_code_25 (by decide) ?_
        refine lv_idiv hx hb d_M_code_27 (by decide) ?_
        refine lv_iadd hx hb d_M_code_28 ?_
        obtain ⟨hin, hw⟩ := hw
        refine va_iald hx hb hK hP 1 0 rfl rfl hin d_M_code_29 ?_
        refine lv_bipush (v := 7) hx hb d_M_code_30 (by decide) ?_
        refine lv_iload hx hb d_M_code_32 (lv_at hl 5 rfl) ?_
        refine lv_bipush (v := 8) hx hb d_M_code_34 (by decide) ?_
        refine lv_irem hx hb d_M_code_36 (by decide) ?_
        refine lv_isub hx hb d_M_code_37 ?_
        refine lv_ishr hx hb d_M_code_38 ?_
        refine lv_iconst (v := 1) hx hb d_M_code_39 (by decide) ?_
        refine lv_iand hx hb d_M_code_40 ?_
        refine lv_iadd hx hb d_M_code_41 ?_
        refine lv_topi (fun v e_v => ?_)
        have hw := hw v e_v
        refine lv_istore (lv' := [(4, .int v), (0, .ref a_p0), (1, .int x1), (2, .int x2), (3, .int x3), (5, .int x5)]) hx hb d_M_code_42 hl (by decide) rfl (fun ls hl => ?_)
        refine lv_iinc (k := 5) (v := (x5 + 1)) (lv' := [(5, .int (x5 + 1)), (4, .int v), (0, .ref a_p0), (1, .int x1), (2, .int x2), (3, .int x3)]) hx hb d_M_code_44 hl rfl (congrArg (fun z => x5 + z) (by decide : Int32.ofInt 1 = 1)) (by decide) rfl (fun ls hl => ?_)
        refine lv_goto hx hb d_M_code_47 rfl ?_
        exact ih _ _ _ x1 x2 x3 v (x5 + 1) hP hD hS (lv_sub hl [2, 3, 4, 5, 1, 0] rfl) hw
  intro ls hl hP hD hS
  have hl : lv_has ls 6 [(0, .ref a_p0), (1, .int x1), (2, .int x2), (3, .int x3)] := hl
  unfold wp_M_code at hw
  refine lv_iconst (v := 0) hx hb d_M_code_0 (by decide) ?_
  refine lv_istore (lv' := [(4, .int 0), (0, .ref a_p0), (1, .int x1), (2, .int x2), (3, .int x3)]) hx hb d_M_code_1 hl (by decide) rfl (fun ls hl => ?_)
  refine lv_iload_n hx hb d_M_code_3 rfl (lv_at hl 3 rfl) ?_
  refine lv_istore (lv' := [(5, .int x2), (4, .int 0), (0, .ref a_p0), (1, .int x1), (2, .int x2), (3, .int x3)]) hx hb d_M_code_4 hl (by decide) rfl (fun ls hl => ?_)
  obtain ⟨n1, hw⟩ := hw
  exact l6 n1 _ _ _ x1 x2 x3 0 x2 hP hD hS (lv_sub hl [2, 3, 4, 5, 1, 0] rfl) hw
theorem d_M_width_0 : decode b_M_width 0 = .ok (.iload_n 0, 1) := by decide +kernel
theorem d_M_width_1 : decode b_M_width 1 = .ok (.bipush 13, 2) := by decide +kernel
theorem d_M_width_3 : decode b_M_width 3 = .ok (.if_icmp .gt 7, 3) := by decide +kernel
theorem d_M_width_6 : decode b_M_width 6 = .ok (.iconst 5, 1) := by decide +kernel
theorem d_M_width_7 : decode b_M_width 7 = .ok (.goto 16, 3) := by decide +kernel
theorem d_M_width_10 : decode b_M_width 10 = .ok (.iload_n 0, 1) := by decide +kernel
theorem d_M_width_11 : decode b_M_width 11 = .ok (.bipush 45, 2) := by decide +kernel
theorem d_M_width_13 : decode b_M_width 13 = .ok (.if_icmp .gt 8, 3) := by decide +kernel
theorem d_M_width_16 : decode b_M_width 16 = .ok (.bipush 6, 2) := by decide +kernel
theorem d_M_width_18 : decode b_M_width 18 = .ok (.goto 5, 3) := by decide +kernel
theorem d_M_width_21 : decode b_M_width 21 = .ok (.bipush 7, 2) := by decide +kernel
theorem d_M_width_23 : decode b_M_width 23 = .ok (.ireturn, 1) := by decide +kernel
def wp_M_width (post : Int32 → Prop) (x0 : Int32) : Prop :=
  ((13 < x0 →
    ((45 < x0 →
      post 7) ∧
     (¬ 45 < x0 →
      post 6))) ∧
   (¬ 13 < x0 →
    post 5))
set_option maxRecDepth 100000 in
set_option maxHeartbeats 4000000 in
theorem c_M_width (l : Launch) (dC : Nat → ClassId) (dI : Nat → Nat → Nat) (cI : ClassId) (x0 : Int32) {post : Int32 → Prop} (hw : wp_M_width post x0) : gm_i l y_M_width ws_M_width ({ frames := 0, cells := 0, slots := 0, locals := 0 } : Room) (dC, dI) vwCl [(cI, .int)] [.int x0] [] (fun (_ : Unit) => []) (fun (r : Int32) (_ : Unit) => post r) := by
  refine gm_iof (cc := b_M_width) (maxL := 1) (ty := .int) (by decide) rfl (Nat.le_of_ble_eq_true rfl) ?_
  intro p e s m args below meth c A Q hx hb hml hown hg hK hN hA hret
  have hown : s.vm.findClass R_M = some m.cls := hown
  intro ls hl hP hD hS
  have hl : lv_has ls 1 [(0, .int x0)] := hl
  unfold wp_M_width at hw
  refine lv_iload_n hx hb d_M_width_0 rfl (lv_at hl 0 rfl) ?_
  refine lv_bipush (v := 13) hx hb d_M_width_1 (by decide) ?_
  refine lv_icmp_gt hx hb d_M_width_3 rfl (fun hc => ?_) (fun hc => ?_)
  · have hw := hw.1 hc
    refine lv_iload_n hx hb d_M_width_10 rfl (lv_at hl 0 rfl) ?_
    refine lv_bipush (v := 45) hx hb d_M_width_11 (by decide) ?_
    refine lv_icmp_gt hx hb d_M_width_13 rfl (fun hc => ?_) (fun hc => ?_)
    · have hw := hw.1 hc
      refine lv_bipush (v := 7) hx hb d_M_width_21 (by decide) ?_
      exact hret _ _ _ _ _ () d_M_width_23 rfl hP hD hS hw
    · have hw := hw.2 hc
      refine lv_bipush (v := 6) hx hb d_M_width_16 (by decide) ?_
      refine lv_goto hx hb d_M_width_18 rfl ?_
      exact hret _ _ _ _ _ () d_M_width_23 rfl hP hD hS hw
  · have hw := hw.2 hc
    refine lv_iconst (v := 5) hx hb d_M_width_6 (by decide) ?_
    refine lv_goto hx hb d_M_width_7 rfl ?_
    exact hret _ _ _ _ _ () d_M_width_23 rfl hP hD hS hw
theorem d_M_put_0 : decode b_M_put 0 = .ok (.aload_n 0, 1) := by decide +kernel
theorem d_M_put_1 : decode b_M_put 1 = .ok (.getfield 7, 3) := by decide +kernel
theorem d_M_put_4 : decode b_M_put 4 = .ok (.aload_n 0, 1) := by decide +kernel
theorem d_M_put_5 : decode b_M_put 5 = .ok (.getfield 121, 3) := by decide +kernel
theorem d_M_put_8 : decode b_M_put 8 = .ok (.iload_n 1, 1) := by decide +kernel
theorem d_M_put_9 : decode b_M_put 9 = .ok (.iastore, 1) := by decide +kernel
theorem d_M_put_10 : decode b_M_put 10 = .ok (.aload_n 0, 1) := by decide +kernel
theorem d_M_put_11 : decode b_M_put 11 = .ok (.dup, 1) := by decide +kernel
theorem d_M_put_12 : decode b_M_put 12 = .ok (.getfield 121, 3) := by decide +kernel
theorem d_M_put_15 : decode b_M_put 15 = .ok (.iconst 1, 1) := by decide +kernel
theorem d_M_put_16 : decode b_M_put 16 = .ok (.iadd, 1) := by decide +kernel
theorem d_M_put_17 : decode b_M_put 17 = .ok (.putfield 121, 3) := by decide +kernel
theorem d_M_put_20 : decode b_M_put 20 = .ok (.return_, 1) := by decide +kernel
def wp_M_put (post : (Nat → Int32) → (Nat → Int32) → Prop) (I_p0 : Nat → Int32) (f_p0_file : Nat → Int32) (x1 : Int32) : Prop :=
  vp_in (I_p0 2) 2000 ∧
  post (upd I_p0 2 ((I_p0 2) + 1)) (upd f_p0_file (I_p0 2).toNatClampNeg x1)
set_option maxRecDepth 100000 in
set_option maxHeartbeats 4000000 in
theorem c_M_put (l : Launch) (dC : Nat → ClassId) (dI : Nat → Nat → Nat) (cI : ClassId) (a_p0 : Nat) (A_p0 : Nat → Nat) (I_p0 : Nat → Int32) (f_p0_file : Nat → Int32) (x1 : Int32) {post : (Nat → Int32) → (Nat → Int32) → Prop} (hw : wp_M_put post I_p0 f_p0_file x1) : gm_v l y_M_put ws_M_put ({ frames := 0, cells := 0, slots := 0, locals := 0 } : Room) (dC, dI) vwCl [(cI, .int)] [.ref a_p0, .int x1] [oM a_p0 A_p0 I_p0, gz cI (A_p0 0) 2000 f_p0_file] (fun (u : (Nat → Int32) × (Nat → Int32)) => [oM a_p0 A_p0 u.1, gz cI (A_p0 0) 2000 u.2]) (fun (u : (Nat → Int32) × (Nat → Int32)) => post  u.1 u.2) := by
  refine gm_vof (cc := b_M_put) (maxL := 2) (by decide) rfl (Nat.le_of_ble_eq_true rfl) ?_
  intro p e s m args below meth c A Q hx hb hml hown hg hK hN hA hnm hret
  have hown : s.vm.findClass R_M = some m.cls := hown
  intro ls hl hP hD hS
  have hl : lv_has ls 2 [(0, .ref a_p0), (1, .int x1)] := hl
  unfold wp_M_put at hw
  refine lv_aload_n hx hb d_M_put_0 rfl (lv_at hl 0 rfl) ?_
  refine va_get (D := (dC, dI)) (ci := 10) (v := .ref (A_p0 0)) (C := R_M) (T := T_M) (N := 30) hx hb hg in_M hown hK hP 0 rfl rfl 0 (by decide) (hg _ t_758) (fun _ h9 => h9) rfl d_M_put_1 ?_
  refine lv_aload_n hx hb d_M_put_4 rfl (lv_at hl 0 rfl) ?_
  refine va_get (D := (dC, dI)) (ci := 10) (v := .int (I_p0 2)) (C := R_M) (T := T_M) (N := 30) hx hb hg in_M hown hK hP 0 rfl rfl 2 (by decide) (hg _ t_760) (fun _ h9 => h9) rfl d_M_put_5 ?_
  refine lv_iload_n hx hb d_M_put_8 rfl (lv_at hl 1 rfl) ?_
  obtain ⟨hin, hw⟩ := hw
  refine va_iast hx hb hK hP hD hS 1 0 rfl rfl hin d_M_put_9 (fun H locs hP hD hS => ?_)
  have hP : va_P (dC, dI) vwCl [oM a_p0 A_p0 I_p0, gz cI (A_p0 0) 2000 (upd f_p0_file (I_p0 2).toNatClampNeg x1)] H := hP
  have hD : va_D A [oM a_p0 A_p0 I_p0, gz cI (A_p0 0) 2000 (upd f_p0_file (I_p0 2).toNatClampNeg x1)] := hD
  refine lv_aload_n hx hb d_M_put_10 rfl (lv_at hl 0 rfl) ?_
  refine lv_dup hx hb d_M_put_11 rfl ?_
  refine va_get (D := (dC, dI)) (ci := 10) (v := .int (I_p0 2)) (C := R_M) (T := T_M) (N := 30) hx hb hg in_M hown hK hP 0 rfl rfl 2 (by decide) (hg _ t_760) (fun _ h9 => h9) rfl d_M_put_12 ?_
  refine lv_iconst (v := 1) hx hb d_M_put_15 (by decide) ?_
  refine lv_iadd hx hb d_M_put_16 ?_
  refine va_put (D := (dC, dI)) (ci := 10) (v := .int ((I_p0 2) + 1)) (ty := .int) (C := R_M) (T := T_M) (N := 30) hx hb hg in_M t_M tok_M nok_M hown hK hP hD hS 0 rfl rfl 2 (by decide) (hg _ t_760) (fun _ h9 => h9) rfl (by decide +kernel) rfl rfl (Nat.le_of_ble_eq_true rfl) d_M_put_17 (fun H locs hP hD hS => ?_)
  have hP : va_P (dC, dI) vwCl [oM a_p0 A_p0 (upd I_p0 2 ((I_p0 2) + 1)), gz cI (A_p0 0) 2000 (upd f_p0_file (I_p0 2).toNatClampNeg x1)] H := hP
  have hD : va_D A [oM a_p0 A_p0 (upd I_p0 2 ((I_p0 2) + 1)), gz cI (A_p0 0) 2000 (upd f_p0_file (I_p0 2).toNatClampNeg x1)] := hD
  exact hret _ _ _ _ ((upd I_p0 2 ((I_p0 2) + 1)), (upd f_p0_file (I_p0 2).toNatClampNeg x1)) d_M_put_20 hP hD hS hw
theorem d_M_emit_0 : decode b_M_emit 0 = .ok (.iload_n 2, 1) := by decide +kernel
theorem d_M_emit_1 : decode b_M_emit 1 = .ok (.invokestatic 138, 3) := by decide +kernel
theorem d_M_emit_4 : decode b_M_emit 4 = .ok (.istore_n 3, 1) := by decide +kernel
theorem d_M_emit_5 : decode b_M_emit 5 = .ok (.iload_n 3, 1) := by decide +kernel
theorem d_M_emit_6 : decode b_M_emit 6 = .ok (.iconst 1, 1) := by decide +kernel
theorem d_M_emit_7 : decode b_M_emit 7 = .ok (.isub, 1) := by decide +kernel
theorem d_M_emit_8 : decode b_M_emit 8 = .ok (.istore 4, 2) := by decide +kernel
theorem d_M_emit_10 : decode b_M_emit 10 = .ok (.iload 4, 2) := by decide +kernel
theorem d_M_emit_12 : decode b_M_emit 12 = .ok (.ifCond .lt 71, 3) := by decide +kernel
theorem d_M_emit_15 : decode b_M_emit 15 = .ok (.aload_n 0, 1) := by decide +kernel
theorem d_M_emit_16 : decode b_M_emit 16 = .ok (.getfield 141, 3) := by decide +kernel
theorem d_M_emit_19 : decode b_M_emit 19 = .ok (.bipush 8, 2) := by decide +kernel
theorem d_M_emit_21 : decode b_M_emit 21 = .ok (.irem, 1) := by decide +kernel
theorem d_M_emit_22 : decode b_M_emit 22 = .ok (.ifCond .ne 8, 3) := by decide +kernel
theorem d_M_emit_25 : decode b_M_emit 25 = .ok (.aload_n 0, 1) := by decide +kernel
theorem d_M_emit_26 : decode b_M_emit 26 = .ok (.iconst 0, 1) := by decide +kernel
theorem d_M_emit_27 : decode b_M_emit 27 = .ok (.invokevirtual 128, 3) := by decide +kernel
theorem d_M_emit_30 : decode b_M_emit 30 = .ok (.aload_n 0, 1) := by decide +kernel
theorem d_M_emit_31 : decode b_M_emit 31 = .ok (.getfield 7, 3) := by decide +kernel
theorem d_M_emit_34 : decode b_M_emit 34 = .ok (.aload_n 0, 1) := by decide +kernel
theorem d_M_emit_35 : decode b_M_emit 35 = .ok (.getfield 144, 3) := by decide +kernel
theorem d_M_emit_38 : decode b_M_emit 38 = .ok (.aload_n 0, 1) := by decide +kernel
theorem d_M_emit_39 : decode b_M_emit 39 = .ok (.getfield 141, 3) := by decide +kernel
theorem d_M_emit_42 : decode b_M_emit 42 = .ok (.bipush 8, 2) := by decide +kernel
theorem d_M_emit_44 : decode b_M_emit 44 = .ok (.idiv, 1) := by decide +kernel
theorem d_M_emit_45 : decode b_M_emit 45 = .ok (.iadd, 1) := by decide +kernel
theorem d_M_emit_46 : decode b_M_emit 46 = .ok (.dup2, 1) := by decide +kernel
theorem d_M_emit_47 : decode b_M_emit 47 = .ok (.iaload, 1) := by decide +kernel
theorem d_M_emit_48 : decode b_M_emit 48 = .ok (.iload_n 1, 1) := by decide +kernel
theorem d_M_emit_49 : decode b_M_emit 49 = .ok (.iload 4, 2) := by decide +kernel
theorem d_M_emit_51 : decode b_M_emit 51 = .ok (.ishr, 1) := by decide +kernel
theorem d_M_emit_52 : decode b_M_emit 52 = .ok (.iconst 1, 1) := by decide +kernel
theorem d_M_emit_53 : decode b_M_emit 53 = .ok (.iand, 1) := by decide +kernel
theorem d_M_emit_54 : decode b_M_emit 54 = .ok (.bipush 7, 2) := by decide +kernel
theorem d_M_emit_56 : decode b_M_emit 56 = .ok (.aload_n 0, 1) := by decide +kernel
theorem d_M_emit_57 : decode b_M_emit 57 = .ok (.getfield 141, 3) := by decide +kernel
theorem d_M_emit_60 : decode b_M_emit 60 = .ok (.bipush 8, 2) := by decide +kernel
theorem d_M_emit_62 : decode b_M_emit 62 = .ok (.irem, 1) := by decide +kernel
theorem d_M_emit_63 : decode b_M_emit 63 = .ok (.isub, 1) := by decide +kernel
theorem d_M_emit_64 : decode b_M_emit 64 = .ok (.ishl, 1) := by decide +kernel
theorem d_M_emit_65 : decode b_M_emit 65 = .ok (.iadd, 1) := by decide +kernel
theorem d_M_emit_66 : decode b_M_emit 66 = .ok (.iastore, 1) := by decide +kernel
theorem d_M_emit_67 : decode b_M_emit 67 = .ok (.aload_n 0, 1) := by decide +kernel
theorem d_M_emit_68 : decode b_M_emit 68 = .ok (.dup, 1) := by decide +kernel
theorem d_M_emit_69 : decode b_M_emit 69 = .ok (.getfield 141, 3) := by decide +kernel
theorem d_M_emit_72 : decode b_M_emit 72 = .ok (.iconst 1, 1) := by decide +kernel
theorem d_M_emit_73 : decode b_M_emit 73 = .ok (.iadd, 1) := by decide +kernel
theorem d_M_emit_74 : decode b_M_emit 74 = .ok (.putfield 141, 3) := by decide +kernel
theorem d_M_emit_77 : decode b_M_emit 77 = .ok (.iinc 4 (-1), 3) := by decide +kernel
theorem d_M_emit_80 : decode b_M_emit 80 = .ok (.goto (-70), 3) := by decide +kernel
theorem d_M_emit_83 : decode b_M_emit 83 = .ok (.return_, 1) := by decide +kernel
def wp_M_emit_b30 (post : (Nat → Int32) → (Nat → Int32) → Prop) (k10 : (Nat → Int32) → (Nat → Int32) → Int32 → Int32 → Prop) (I_p0 : Nat → Int32) (f_p0_file : Nat → Int32) (x1 : Int32) (x4 : Int32) : Prop :=
  vp_in ((I_p0 19) + ((I_p0 20) / 8)) 2000 ∧
  ∀ v : Int32, v = ((f_p0_file ((I_p0 19) + ((I_p0 20) / 8)).toNatClampNeg) + (((x1 >>> (x4 &&& 31)) &&& 1) <<< ((7 - ((I_p0 20) - (I_p0 20) / 8 * 8)) &&& 31))) →
  vp_in ((I_p0 19) + ((I_p0 20) / 8)) 2000 ∧
  k10 (upd I_p0 20 ((I_p0 20) + 1)) (upd f_p0_file ((I_p0 19) + ((I_p0 20) / 8)).toNatClampNeg v) x1 (x4 + (-1))
def wp_M_emit_l10 (post : (Nat → Int32) → (Nat → Int32) → Prop) : Nat → (Nat → Int32) → (Nat → Int32) → Int32 → Int32 → Prop
  | 0, _, _, _, _ => False
  | n + 1, I_p0, f_p0_file, x1, x4 =>
    ((x4 < 0 →
      post I_p0 f_p0_file) ∧
     (¬ x4 < 0 →
      ((((I_p0 20) - (I_p0 20) / 8 * 8) = 0 →
        wp_M_put (fun (I_p0_27 : Nat → Int32) (f_p0_file_27 : Nat → Int32) =>
          wp_M_emit_b30 post (wp_M_emit_l10 post n) I_p0_27 f_p0_file_27 x1 x4) I_p0 f_p0_file 0) ∧
       (¬ ((I_p0 20) - (I_p0 20) / 8 * 8) = 0 →
        wp_M_emit_b30 post (wp_M_emit_l10 post n) I_p0 f_p0_file x1 x4))))
def wp_M_emit (post : (Nat → Int32) → (Nat → Int32) → Prop) (I_p0 : Nat → Int32) (f_p0_file : Nat → Int32) (x1 : Int32) (x2 : Int32) : Prop :=
  wp_M_width (fun (r1 : Int32) =>
    (∃ n1 : Nat, wp_M_emit_l10 post n1 I_p0 f_p0_file x1 (r1 - 1))) x2
set_option maxRecDepth 100000 in
set_option maxHeartbeats 4000000 in
theorem c_M_emit (l : Launch) (dC : Nat → ClassId) (dI : Nat → Nat → Nat) (cI : ClassId) (a_p0 : Nat) (A_p0 : Nat → Nat) (I_p0 : Nat → Int32) (f_p0_file : Nat → Int32) (x1 : Int32) (x2 : Int32) {post : (Nat → Int32) → (Nat → Int32) → Prop} (hw : wp_M_emit post I_p0 f_p0_file x1 x2) : gm_v l y_M_emit ws_M_emit ({ frames := 1, cells := 0, slots := 0, locals := 21 } : Room) (dC, dI) vwCl [(cI, .int)] [.ref a_p0, .int x1, .int x2] [oM a_p0 A_p0 I_p0, gz cI (A_p0 0) 2000 f_p0_file] (fun (u : (Nat → Int32) × (Nat → Int32)) => [oM a_p0 A_p0 u.1, gz cI (A_p0 0) 2000 u.2]) (fun (u : (Nat → Int32) × (Nat → Int32)) => post  u.1 u.2) := by
  refine gm_vof (cc := b_M_emit) (maxL := 5) (by decide) rfl (Nat.le_of_ble_eq_true rfl) ?_
  intro p e s m args below meth c A Q hx hb hml hown hg hK hN hA hnm hret
  have hown : s.vm.findClass R_M = some m.cls := hown
  have b30 : ∀ (k10 : (Nat → Int32) → (Nat → Int32) → Int32 → Int32 → Prop), (∀ (H : Heap) (locs : List Loc) (ls : Array Slot) (I_p0 : Nat → Int32) (f_p0_file : Nat → Int32) (x1 : Int32) (x4 : Int32), va_P (dC, dI) vwCl [oM a_p0 A_p0 I_p0, gz cI (A_p0 0) 2000 f_p0_file] H → va_D A [oM a_p0 A_p0 I_p0, gz cI (A_p0 0) 2000 f_p0_file] → va_S A s.heap H locs → lv_has ls 5 [(0, .ref a_p0), (1, .int x1), (4, .int x4)] → k10 I_p0 f_p0_file x1 x4 → W p l e ({ frames := 1, cells := 0, slots := 0, locals := 21 } : Room) s m args below meth c H locs 0 0 Q (F0 m 10 ls [])) → ∀ (H : Heap) (locs : List Loc) (ls : Array Slot) (I_p0 : Nat → Int32) (f_p0_file : Nat → Int32) (x1 : Int32) (x4 : Int32), va_P (dC, dI) vwCl [oM a_p0 A_p0 I_p0, gz cI (A_p0 0) 2000 f_p0_file] H → va_D A [oM a_p0 A_p0 I_p0, gz cI (A_p0 0) 2000 f_p0_file] → va_S A s.heap H locs → lv_has ls 5 [(0, .ref a_p0), (1, .int x1), (4, .int x4)] → wp_M_emit_b30 post k10 I_p0 f_p0_file x1 x4 → W p l e ({ frames := 1, cells := 0, slots := 0, locals := 21 } : Room) s m args below meth c H locs 0 0 Q (F0 m 30 ls []) := by
    intro k10 hk10 H locs ls I_p0 f_p0_file x1 x4 hP hD hS hl hw
    unfold wp_M_emit_b30 at hw
    refine lv_aload_n hx hb d_M_emit_30 rfl (lv_at hl 0 rfl) ?_
    refine va_get (D := (dC, dI)) (ci := 10) (v := .ref (A_p0 0)) (C := R_M) (T := T_M) (N := 30) hx hb hg in_M hown hK hP 0 rfl rfl 0 (by decide) (hg _ t_758) (fun _ h9 => h9) rfl d_M_emit_31 ?_
    refine lv_aload_n hx hb d_M_emit_34 rfl (lv_at hl 0 rfl) ?_
    refine va_get (D := (dC, dI)) (ci := 10) (v := .int (I_p0 19)) (C := R_M) (T := T_M) (N := 30) hx hb hg in_M hown hK hP 0 rfl rfl 19 (by decide) (hg _ t_777) (fun _ h9 => h9) rfl d_M_emit_35 ?_
    refine lv_aload_n hx hb d_M_emit_38 rfl (lv_at hl 0 rfl) ?_
    refine va_get (D := (dC, dI)) (ci := 10) (v := .int (I_p0 20)) (C := R_M) (T := T_M) (N := 30) hx hb hg in_M hown hK hP 0 rfl rfl 20 (by decide) (hg _ t_778) (fun _ h9 => h9) rfl d_M_emit_39 ?_
    refine lv_bipush (v := 8) hx hb d_M_emit_42 (by decide) ?_
    refine lv_idiv hx hb d_M_emit_44 (by decide) ?_
    refine lv_iadd hx hb d_M_emit_45 ?_
    refine lv_dup2_11 hx hb d_M_emit_46 rfl rfl ?_
    obtain ⟨hin, hw⟩ := hw
    refine va_iald hx hb hK hP 1 0 rfl rfl hin d_M_emit_47 ?_
    refine lv_iload_n hx hb d_M_emit_48 rfl (lv_at hl 1 rfl) ?_
    refine lv_iload hx hb d_M_emit_49 (lv_at hl 2 rfl) ?_
    refine lv_ishr hx hb d_M_emit_51 ?_
    refine lv_iconst (v := 1) hx hb d_M_emit_52 (by decide) ?_
    refine lv_iand hx hb d_M_emit_53 ?_
    refine lv_bipush (v := 7) hx hb d_M_emit_54 (by decide) ?_
    refine lv_aload_n hx hb d_M_emit_56 rfl (lv_at hl 0 rfl) ?_
    refine va_get (D := (dC, dI)) (ci := 10) (v := .int (I_p0 20)) (C := R_M) (T := T_M) (N := 30) hx hb hg in_M hown hK hP 0 rfl rfl 20 (by decide) (hg _ t_778) (fun _ h9 => h9) rfl d_M_emit_57 ?_
    refine lv_bipush (v := 8) hx hb d_M_emit_60 (by decide) ?_
    refine lv_irem hx hb d_M_emit_62 (by decide) ?_
    refine lv_isub hx hb d_M_emit_63 ?_
    refine lv_ishl hx hb d_M_emit_64 ?_
    refine lv_iadd hx hb d_M_emit_65 ?_
    refine lv_topi (fun v e_v => ?_)
    have hw := hw v e_v
    obtain ⟨hin, hw⟩ := hw
    refine va_iast hx hb hK hP hD hS 1 0 rfl rfl hin d_M_emit_66 (fun H locs hP hD hS => ?_)
    have hP : va_P (dC, dI) vwCl [oM a_p0 A_p0 I_p0, gz cI (A_p0 0) 2000 (upd f_p0_file ((I_p0 19) + ((I_p0 20) / 8)).toNatClampNeg v)] H := hP
    have hD : va_D A [oM a_p0 A_p0 I_p0, gz cI (A_p0 0) 2000 (upd f_p0_file ((I_p0 19) + ((I_p0 20) / 8)).toNatClampNeg v)] := hD
    refine lv_aload_n hx hb d_M_emit_67 rfl (lv_at hl 0 rfl) ?_
    refine lv_dup hx hb d_M_emit_68 rfl ?_
    refine va_get (D := (dC, dI)) (ci := 10) (v := .int (I_p0 20)) (C := R_M) (T := T_M) (N := 30) hx hb hg in_M hown hK hP 0 rfl rfl 20 (by decide) (hg _ t_778) (fun _ h9 => h9) rfl d_M_emit_69 ?_
    refine lv_iconst (v := 1) hx hb d_M_emit_72 (by decide) ?_
    refine lv_iadd hx hb d_M_emit_73 ?_
    refine va_put (D := (dC, dI)) (ci := 10) (v := .int ((I_p0 20) + 1)) (ty := .int) (C := R_M) (T := T_M) (N := 30) hx hb hg in_M t_M tok_M nok_M hown hK hP hD hS 0 rfl rfl 20 (by decide) (hg _ t_778) (fun _ h9 => h9) rfl (by decide +kernel) rfl rfl (Nat.le_of_ble_eq_true rfl) d_M_emit_74 (fun H locs hP hD hS => ?_)
    have hP : va_P (dC, dI) vwCl [oM a_p0 A_p0 (upd I_p0 20 ((I_p0 20) + 1)), gz cI (A_p0 0) 2000 (upd f_p0_file ((I_p0 19) + ((I_p0 20) / 8)).toNatClampNeg v)] H := hP
    have hD : va_D A [oM a_p0 A_p0 (upd I_p0 20 ((I_p0 20) + 1)), gz cI (A_p0 0) 2000 (upd f_p0_file ((I_p0 19) + ((I_p0 20) / 8)).toNatClampNeg v)] := hD
    refine lv_iinc (k := 2) (v := (x4 + (-1))) (lv' := [(4, .int (x4 + (-1))), (0, .ref a_p0), (1, .int x1)]) hx hb d_M_emit_77 hl rfl (congrArg (fun z => x4 + z) (by decide : Int32.ofInt (-1) = (-1))) (by decide) rfl (fun ls hl => ?_)
    refine lv_goto hx hb d_M_emit_80 rfl ?_
    exact hk10 _ _ _ (upd I_p0 20 ((I_p0 20) + 1)) (upd f_p0_file ((I_p0 19) + ((I_p0 20) / 8)).toNatClampNeg v) x1 (x4 + (-1)) hP hD hS (lv_sub hl [1, 2, 0] rfl) hw
  have l10 : ∀ n : Nat, ∀ (H : Heap) (locs : List Loc) (ls : Array Slot) (I_p0 : Nat → Int32) (f_p0_file : Nat → Int32) (x1 : Int32) (x4 : Int32), va_P (dC, dI) vwCl [oM a_p0 A_p0 I_p0, gz cI (A_p0 0) 2000 f_p0_file] H → va_D A [oM a_p0 A_p0 I_p0, gz cI (A_p0 0) 2000 f_p0_file] → va_S A s.heap H locs → lv_has ls 5 [(0, .ref a_p0), (1, .int x1), (4, .int x4)] → wp_M_emit_l10 post n I_p0 f_p0_file x1 x4 → W p l e ({ frames := 1, cells := 0, slots := 0, locals := 21 } : Room) s m args below meth c H locs 0 0 Q (F0 m 10 ls []) := by
    intro n
    induction n with
    | zero => intro H locs ls I_p0 f_p0_file x1 x4 hP hD hS hl hw; exact hw.elim
    | succ n ih =>
      intro H locs ls I_p0 f_p0_file x1 x4 hP hD hS hl hw
      unfold wp_M_emit_l10 at hw
      refine lv_iload hx hb d_M_emit_10 (lv_at hl 2 rfl) ?_
      refine lv_if_lt hx hb d_M_emit_12 rfl (fun hc => ?_) (fun hc => ?_)
      · have hw := hw.1 hc
        exact hret _ _ _ _ (I_p0, f_p0_file) d_M_emit_83 hP hD hS hw
      · have hw := hw.2 hc
        refine lv_aload_n hx hb d_M_emit_15 rfl (lv_at hl 0 rfl) ?_
        refine va_get (D := (dC, dI)) (ci := 10) (v := .int (I_p0 20)) (C := R_M) (T := T_M) (N := 30) hx hb hg in_M hown hK hP 0 rfl rfl 20 (by decide) (hg _ t_778) (fun _ h9 => h9) rfl d_M_emit_16 ?_
        refine lv_bipush (v := 8) hx hb d_M_emit_19 (by decide) ?_
        refine lv_irem hx hb d_M_emit_21 (by decide) ?_
        refine lv_if_ne hx hb d_M_emit_22 rfl (fun hc => ?_) (fun hc => ?_)
        · have hw := hw.2 hc
          exact b30 _ ih _ _ _ I_p0 f_p0_file x1 x4 hP hD hS (lv_sub hl [0, 1, 2] rfl) hw
        · have hw := hw.1 hc
          refine lv_aload_n hx hb d_M_emit_25 rfl (lv_at hl 0 rfl) ?_
          refine lv_iconst (v := 0) hx hb d_M_emit_26 (by decide) ?_
          refine gc_v (wn := fun u => [oM a_p0 A_p0 u.1, gz cI (A_p0 0) 2000 u.2]) (wr := []) (gr_V (As := [.int 0]) (rest := []) ⟨hx, hb, hml, hown, hg⟩ (c_M_put l dC dI cI a_p0 A_p0 I_p0 f_p0_file 0 hw _) (cwV 1 hg (gg_V t_954 t_956 t_35 t_71 t_957) rfl rfl rfl (by decide +kernel) ⟨Nat.le_of_ble_eq_true rfl, Nat.le_of_ble_eq_true rfl⟩) hK hN hP hD [0, 1] (by decide) rfl 0 10 rfl rfl rfl rfl hl.1 rfl (Nat.le_of_ble_eq_true rfl) d_M_emit_27 ⟨Nat.le_of_ble_eq_true rfl, Nat.le_of_ble_eq_true rfl⟩) rfl rfl hP hD hS hA [0, 1] [] [0, 1] rfl rfl (by decide) (by decide) (by decide) (fun _ => rfl) ?_
          intro u9 H locs hw hP hD hS
          obtain ⟨I_p0_27, f_p0_file_27⟩ := u9
          try dsimp only at hw
          have hP : va_P (dC, dI) vwCl [oM a_p0 A_p0 I_p0_27, gz cI (A_p0 0) 2000 f_p0_file_27] H := hP
          have hD : va_D A [oM a_p0 A_p0 I_p0_27, gz cI (A_p0 0) 2000 f_p0_file_27] := hD
          exact b30 _ ih _ _ _ I_p0_27 f_p0_file_27 x1 x4 hP hD hS (lv_sub hl [0, 1, 2] rfl) hw
  intro ls hl hP hD hS
  have hl : lv_has ls 5 [(0, .ref a_p0), (1, .int x1), (2, .int x2)] := hl
  unfold wp_M_emit at hw
  refine lv_iload_n hx hb d_M_emit_0 rfl (lv_at hl 2 rfl) ?_
  refine gc_i (wn := fun (_ : Unit) => [oM a_p0 A_p0 I_p0, gz cI (A_p0 0) 2000 f_p0_file]) (wr := [oM a_p0 A_p0 I_p0, gz cI (A_p0 0) 2000 f_p0_file]) (gr_S (As := [.int x2]) (rest := []) ⟨hx, hb, hml, hown, hg⟩ (c_M_width l dC dI cI x2 hw _) (va_cwS 1 hg (gg_S t_977 t_978 t_71 t_979) rfl rfl rfl (by decide +kernel) ⟨Nat.le_of_ble_eq_true rfl, Nat.le_of_ble_eq_true rfl⟩) hK hN hP hD [] (by decide) rfl rfl hl.1 rfl (Nat.le_of_ble_eq_true rfl) d_M_emit_1 ⟨Nat.le_of_ble_eq_true rfl, Nat.le_of_ble_eq_true rfl⟩) rfl rfl hP hD hS hA [] [0, 1] [0, 1] rfl rfl (by decide) (by decide) (by decide) (fun _ => rfl) ?_
  intro r1 _ H locs hw hP hD hS
  try dsimp only at hw
  have hP : va_P (dC, dI) vwCl [oM a_p0 A_p0 I_p0, gz cI (A_p0 0) 2000 f_p0_file] H := hP
  have hD : va_D A [oM a_p0 A_p0 I_p0, gz cI (A_p0 0) 2000 f_p0_file] := hD
  refine lv_istore_n (lv' := [(3, .int r1), (0, .ref a_p0), (1, .int x1), (2, .int x2)]) hx hb d_M_emit_4 rfl hl (by decide) rfl (fun ls hl => ?_)
  refine lv_iload_n hx hb d_M_emit_5 rfl (lv_at hl 0 rfl) ?_
  refine lv_iconst (v := 1) hx hb d_M_emit_6 (by decide) ?_
  refine lv_isub hx hb d_M_emit_7 ?_
  refine lv_istore (lv' := [(4, .int (r1 - 1)), (3, .int r1), (0, .ref a_p0), (1, .int x1), (2, .int x2)]) hx hb d_M_emit_8 hl (by decide) rfl (fun ls hl => ?_)
  obtain ⟨n1, hw⟩ := hw
  exact l10 n1 _ _ _ I_p0 f_p0_file x1 (r1 - 1) hP hD hS (lv_sub hl [2, 3, 0] rfl) hw
theorem d_M_same_0 : decode b_M_same 0 = .ok (.iconst 0, 1) := by decide +kernel
theorem d_M_same_1 : decode b_M_same 1 = .ok (.istore 4, 2) := by decide +kernel
theorem d_M_same_3 : decode b_M_same 3 = .ok (.iload 4, 2) := by decide +kernel
theorem d_M_same_5 : decode b_M_same 5 = .ok (.iload_n 3, 1) := by decide +kernel
theorem d_M_same_6 : decode b_M_same 6 = .ok (.if_icmp .ge 32, 3) := by decide +kernel
theorem d_M_same_9 : decode b_M_same 9 = .ok (.aload_n 0, 1) := by decide +kernel
theorem d_M_same_10 : decode b_M_same 10 = .ok (.getfield 41, 3) := by decide +kernel
theorem d_M_same_13 : decode b_M_same 13 = .ok (.iload_n 1, 1) := by decide +kernel
theorem d_M_same_14 : decode b_M_same 14 = .ok (.iload 4, 2) := by decide +kernel
theorem d_M_same_16 : decode b_M_same 16 = .ok (.iadd, 1) := by decide +kernel
theorem d_M_same_17 : decode b_M_same 17 = .ok (.iaload, 1) := by decide +kernel
theorem d_M_same_18 : decode b_M_same 18 = .ok (.aload_n 0, 1) := by decide +kernel
theorem d_M_same_19 : decode b_M_same 19 = .ok (.getfield 41, 3) := by decide +kernel
theorem d_M_same_22 : decode b_M_same 22 = .ok (.iload_n 2, 1) := by decide +kernel
theorem d_M_same_23 : decode b_M_same 23 = .ok (.iload 4, 2) := by decide +kernel
theorem d_M_same_25 : decode b_M_same 25 = .ok (.iadd, 1) := by decide +kernel
theorem d_M_same_26 : decode b_M_same 26 = .ok (.iaload, 1) := by decide +kernel
theorem d_M_same_27 : decode b_M_same 27 = .ok (.if_icmp .eq 5, 3) := by decide +kernel
theorem d_M_same_30 : decode b_M_same 30 = .ok (.iconst 0, 1) := by decide +kernel
theorem d_M_same_31 : decode b_M_same 31 = .ok (.ireturn, 1) := by decide +kernel
theorem d_M_same_32 : decode b_M_same 32 = .ok (.iinc 4 1, 3) := by decide +kernel
theorem d_M_same_35 : decode b_M_same 35 = .ok (.goto (-32), 3) := by decide +kernel
theorem d_M_same_38 : decode b_M_same 38 = .ok (.iconst 1, 1) := by decide +kernel
theorem d_M_same_39 : decode b_M_same 39 = .ok (.ireturn, 1) := by decide +kernel
def wp_M_same_l3 (post : Int32 → Prop) (I_p0 : Nat → Int32) (f_p0_nibs : Nat → Int32) : Nat → Int32 → Int32 → Int32 → Int32 → Prop
  | 0, _, _, _, _ => False
  | n + 1, x1, x2, x3, x4 =>
    ((x3 ≤ x4 →
      post 1) ∧
     (¬ x3 ≤ x4 →
      vp_in (x1 + x4) 512 ∧
      vp_in (x2 + x4) 512 ∧
      (((f_p0_nibs (x1 + x4).toNatClampNeg) = (f_p0_nibs (x2 + x4).toNatClampNeg) →
        wp_M_same_l3 post I_p0 f_p0_nibs n x1 x2 x3 (x4 + 1)) ∧
       (¬ (f_p0_nibs (x1 + x4).toNatClampNeg) = (f_p0_nibs (x2 + x4).toNatClampNeg) →
        post 0))))
def wp_M_same (post : Int32 → Prop) (I_p0 : Nat → Int32) (f_p0_nibs : Nat → Int32) (x1 : Int32) (x2 : Int32) (x3 : Int32) : Prop :=
  (∃ n1 : Nat, wp_M_same_l3 post I_p0 f_p0_nibs n1 x1 x2 x3 0)
set_option maxRecDepth 100000 in
set_option maxHeartbeats 4000000 in
theorem c_M_same (l : Launch) (dC : Nat → ClassId) (dI : Nat → Nat → Nat) (cI : ClassId) (a_p0 : Nat) (A_p0 : Nat → Nat) (I_p0 : Nat → Int32) (f_p0_nibs : Nat → Int32) (x1 : Int32) (x2 : Int32) (x3 : Int32) {post : Int32 → Prop} (hw : wp_M_same post I_p0 f_p0_nibs x1 x2 x3) : gm_i l y_M_same ws_M_same ({ frames := 0, cells := 0, slots := 0, locals := 0 } : Room) (dC, dI) vwCl [(cI, .int)] [.ref a_p0, .int x1, .int x2, .int x3] [oM a_p0 A_p0 I_p0, gz cI (A_p0 16) 512 f_p0_nibs] (fun (_ : Unit) => [oM a_p0 A_p0 I_p0, gz cI (A_p0 16) 512 f_p0_nibs]) (fun (r : Int32) (_ : Unit) => post r) := by
  refine gm_iof (cc := b_M_same) (maxL := 5) (ty := .boolean) (by decide) rfl (Nat.le_of_ble_eq_true rfl) ?_
  intro p e s m args below meth c A Q hx hb hml hown hg hK hN hA hret
  have hown : s.vm.findClass R_M = some m.cls := hown
  have l3 : ∀ n : Nat, ∀ (H : Heap) (locs : List Loc) (ls : Array Slot) (x1 : Int32) (x2 : Int32) (x3 : Int32) (x4 : Int32), va_P (dC, dI) vwCl [oM a_p0 A_p0 I_p0, gz cI (A_p0 16) 512 f_p0_nibs] H → va_D A [oM a_p0 A_p0 I_p0, gz cI (A_p0 16) 512 f_p0_nibs] → va_S A s.heap H locs → lv_has ls 5 [(0, .ref a_p0), (1, .int x1), (2, .int x2), (3, .int x3), (4, .int x4)] → wp_M_same_l3 post I_p0 f_p0_nibs n x1 x2 x3 x4 → W p l e ({ frames := 0, cells := 0, slots := 0, locals := 0 } : Room) s m args below meth c H locs 0 0 Q (F0 m 3 ls []) := by
    intro n
    induction n with
    | zero => intro H locs ls x1 x2 x3 x4 hP hD hS hl hw; exact hw.elim
    | succ n ih =>
      intro H locs ls x1 x2 x3 x4 hP hD hS hl hw
      unfold wp_M_same_l3 at hw
      refine lv_iload hx hb d_M_same_3 (lv_at hl 4 rfl) ?_
      refine lv_iload_n hx hb d_M_same_5 rfl (lv_at hl 3 rfl) ?_
      refine lv_icmp_ge hx hb d_M_same_6 rfl (fun hc => ?_) (fun hc => ?_)
      · have hw := hw.1 hc
        refine lv_iconst (v := 1) hx hb d_M_same_38 (by decide) ?_
        exact hret _ _ _ _ _ () d_M_same_39 rfl hP hD hS hw
      · have hw := hw.2 hc
        refine lv_aload_n hx hb d_M_same_9 rfl (lv_at hl 0 rfl) ?_
        refine va_get (D := (dC, dI)) (ci := 10) (v := .ref (A_p0 16)) (C := R_M) (T := T_M) (N := 30) hx hb hg in_M hown hK hP 0 rfl rfl 16 (by decide) (hg _ t_774) (fun _ h9 => h9) rfl d_M_same_10 ?_
        refine lv_iload_n hx hb d_M_same_13 rfl (lv_at hl 1 rfl) ?_
        refine lv_iload hx hb d_M_same_14 (lv_at hl 4 rfl) ?_
        refine lv_iadd hx hb d_M_same_16 ?_
        obtain ⟨hin, hw⟩ := hw
        refine va_iald hx hb hK hP 1 0 rfl rfl hin d_M_same_17 ?_
        refine lv_aload_n hx hb d_M_same_18 rfl (lv_at hl 0 rfl) ?_
        refine va_get (D := (dC, dI)) (ci := 10) (v := .ref (A_p0 16)) (C := R_M) (T := T_M) (N := 30) hx hb hg in_M hown hK hP 0 rfl rfl 16 (by decide) (hg _ t_774) (fun _ h9 => h9) rfl d_M_same_19 ?_
        refine lv_iload_n hx hb d_M_same_22 rfl (lv_at hl 2 rfl) ?_
        refine lv_iload hx hb d_M_same_23 (lv_at hl 4 rfl) ?_
        refine lv_iadd hx hb d_M_same_25 ?_
        obtain ⟨hin, hw⟩ := hw
        refine va_iald hx hb hK hP 1 0 rfl rfl hin d_M_same_26 ?_
        refine lv_icmp_eq hx hb d_M_same_27 rfl (fun hc => ?_) (fun hc => ?_)
        · have hw := hw.1 hc
          refine lv_iinc (k := 4) (v := (x4 + 1)) (lv' := [(4, .int (x4 + 1)), (0, .ref a_p0), (1, .int x1), (2, .int x2), (3, .int x3)]) hx hb d_M_same_32 hl rfl (congrArg (fun z => x4 + z) (by decide : Int32.ofInt 1 = 1)) (by decide) rfl (fun ls hl => ?_)
          refine lv_goto hx hb d_M_same_35 rfl ?_
          exact ih _ _ _ x1 x2 x3 (x4 + 1) hP hD hS (lv_sub hl [1, 2, 3, 4, 0] rfl) hw
        · have hw := hw.2 hc
          refine lv_iconst (v := 0) hx hb d_M_same_30 (by decide) ?_
          exact hret _ _ _ _ _ () d_M_same_31 rfl hP hD hS hw
  intro ls hl hP hD hS
  have hl : lv_has ls 5 [(0, .ref a_p0), (1, .int x1), (2, .int x2), (3, .int x3)] := hl
  unfold wp_M_same at hw
  refine lv_iconst (v := 0) hx hb d_M_same_0 (by decide) ?_
  refine lv_istore (lv' := [(4, .int 0), (0, .ref a_p0), (1, .int x1), (2, .int x2), (3, .int x3)]) hx hb d_M_same_1 hl (by decide) rfl (fun ls hl => ?_)
  obtain ⟨n1, hw⟩ := hw
  exact l3 n1 _ _ _ x1 x2 x3 0 hP hD hS (lv_sub hl [1, 2, 3, 4, 0] rfl) hw
theorem d_M_codes_0 : decode b_M_codes 0 = .ok (.aload_n 0, 1) := by decide +kernel
theorem d_M_codes_1 : decode b_M_codes 1 = .ok (.aload_n 0, 1) := by decide +kernel
theorem d_M_codes_2 : decode b_M_codes 2 = .ok (.getfield 121, 3) := by decide +kernel
theorem d_M_codes_5 : decode b_M_codes 5 = .ok (.putfield 144, 3) := by decide +kernel
theorem d_M_codes_8 : decode b_M_codes 8 = .ok (.aload_n 0, 1) := by decide +kernel
theorem d_M_codes_9 : decode b_M_codes 9 = .ok (.iconst 0, 1) := by decide +kernel
theorem d_M_codes_10 : decode b_M_codes 10 = .ok (.putfield 141, 3) := by decide +kernel
theorem d_M_codes_13 : decode b_M_codes 13 = .ok (.aload_n 0, 1) := by decide +kernel
theorem d_M_codes_14 : decode b_M_codes 14 = .ok (.bipush 16, 2) := by decide +kernel
theorem d_M_codes_16 : decode b_M_codes 16 = .ok (.iconst 1, 1) := by decide +kernel
theorem d_M_codes_17 : decode b_M_codes 17 = .ok (.invokevirtual 147, 3) := by decide +kernel
theorem d_M_codes_20 : decode b_M_codes 20 = .ok (.iconst 1, 1) := by decide +kernel
theorem d_M_codes_21 : decode b_M_codes 21 = .ok (.istore_n 2, 1) := by decide +kernel
theorem d_M_codes_22 : decode b_M_codes 22 = .ok (.iconst 0, 1) := by decide +kernel
theorem d_M_codes_23 : decode b_M_codes 23 = .ok (.istore_n 3, 1) := by decide +kernel
theorem d_M_codes_24 : decode b_M_codes 24 = .ok (.iload_n 3, 1) := by decide +kernel
theorem d_M_codes_25 : decode b_M_codes 25 = .ok (.iload_n 1, 1) := by decide +kernel
theorem d_M_codes_26 : decode b_M_codes 26 = .ok (.if_icmp .ge 136, 3) := by decide +kernel
theorem d_M_codes_29 : decode b_M_codes 29 = .ok (.aload_n 0, 1) := by decide +kernel
theorem d_M_codes_30 : decode b_M_codes 30 = .ok (.getfield 41, 3) := by decide +kernel
theorem d_M_codes_33 : decode b_M_codes 33 = .ok (.iload_n 3, 1) := by decide +kernel
theorem d_M_codes_34 : decode b_M_codes 34 = .ok (.iaload, 1) := by decide +kernel
theorem d_M_codes_35 : decode b_M_codes 35 = .ok (.istore 4, 2) := by decide +kernel
theorem d_M_codes_37 : decode b_M_codes 37 = .ok (.iconst 1, 1) := by decide +kernel
theorem d_M_codes_38 : decode b_M_codes 38 = .ok (.istore 5, 2) := by decide +kernel
theorem d_M_codes_40 : decode b_M_codes 40 = .ok (.iconst 1, 1) := by decide +kernel
theorem d_M_codes_41 : decode b_M_codes 41 = .ok (.istore 6, 2) := by decide +kernel
theorem d_M_codes_43 : decode b_M_codes 43 = .ok (.iload 6, 2) := by decide +kernel
theorem d_M_codes_45 : decode b_M_codes 45 = .ok (.iload_n 2, 1) := by decide +kernel
theorem d_M_codes_46 : decode b_M_codes 46 = .ok (.if_icmp .ge 63, 3) := by decide +kernel
theorem d_M_codes_49 : decode b_M_codes 49 = .ok (.aload_n 0, 1) := by decide +kernel
theorem d_M_codes_50 : decode b_M_codes 50 = .ok (.getfield 47, 3) := by decide +kernel
theorem d_M_codes_53 : decode b_M_codes 53 = .ok (.iload 6, 2) := by decide +kernel
theorem d_M_codes_55 : decode b_M_codes 55 = .ok (.iaload, 1) := by decide +kernel
theorem d_M_codes_56 : decode b_M_codes 56 = .ok (.iconst 1, 1) := by decide +kernel
theorem d_M_codes_57 : decode b_M_codes 57 = .ok (.iadd, 1) := by decide +kernel
theorem d_M_codes_58 : decode b_M_codes 58 = .ok (.istore 7, 2) := by decide +kernel
theorem d_M_codes_60 : decode b_M_codes 60 = .ok (.iload 7, 2) := by decide +kernel
theorem d_M_codes_62 : decode b_M_codes 62 = .ok (.iload 5, 2) := by decide +kernel
theorem d_M_codes_64 : decode b_M_codes 64 = .ok (.if_icmp .le 39, 3) := by decide +kernel
theorem d_M_codes_67 : decode b_M_codes 67 = .ok (.iload_n 3, 1) := by decide +kernel
theorem d_M_codes_68 : decode b_M_codes 68 = .ok (.iload 7, 2) := by decide +kernel
theorem d_M_codes_70 : decode b_M_codes 70 = .ok (.iadd, 1) := by decide +kernel
theorem d_M_codes_71 : decode b_M_codes 71 = .ok (.iload_n 1, 1) := by decide +kernel
theorem d_M_codes_72 : decode b_M_codes 72 = .ok (.if_icmp .gt 31, 3) := by decide +kernel
theorem d_M_codes_75 : decode b_M_codes 75 = .ok (.aload_n 0, 1) := by decide +kernel
theorem d_M_codes_76 : decode b_M_codes 76 = .ok (.aload_n 0, 1) := by decide +kernel
theorem d_M_codes_77 : decode b_M_codes 77 = .ok (.getfield 44, 3) := by decide +kernel
theorem d_M_codes_80 : decode b_M_codes 80 = .ok (.iload 6, 2) := by decide +kernel
theorem d_M_codes_82 : decode b_M_codes 82 = .ok (.iaload, 1) := by decide +kernel
theorem d_M_codes_83 : decode b_M_codes 83 = .ok (.iload_n 3, 1) := by decide +kernel
theorem d_M_codes_84 : decode b_M_codes 84 = .ok (.iload 7, 2) := by decide +kernel
theorem d_M_codes_86 : decode b_M_codes 86 = .ok (.invokevirtual 151, 3) := by decide +kernel
theorem d_M_codes_89 : decode b_M_codes 89 = .ok (.ifCond .eq 14, 3) := by decide +kernel
theorem d_M_codes_92 : decode b_M_codes 92 = .ok (.bipush 17, 2) := by decide +kernel
theorem d_M_codes_94 : decode b_M_codes 94 = .ok (.iload 6, 2) := by decide +kernel
theorem d_M_codes_96 : decode b_M_codes 96 = .ok (.iadd, 1) := by decide +kernel
theorem d_M_codes_97 : decode b_M_codes 97 = .ok (.istore 4, 2) := by decide +kernel
theorem d_M_codes_99 : decode b_M_codes 99 = .ok (.iload 7, 2) := by decide +kernel
theorem d_M_codes_101 : decode b_M_codes 101 = .ok (.istore 5, 2) := by decide +kernel
theorem d_M_codes_103 : decode b_M_codes 103 = .ok (.iinc 6 1, 3) := by decide +kernel
theorem d_M_codes_106 : decode b_M_codes 106 = .ok (.goto (-63), 3) := by decide +kernel
theorem d_M_codes_109 : decode b_M_codes 109 = .ok (.aload_n 0, 1) := by decide +kernel
theorem d_M_codes_110 : decode b_M_codes 110 = .ok (.iload 4, 2) := by decide +kernel
theorem d_M_codes_112 : decode b_M_codes 112 = .ok (.iload_n 2, 1) := by decide +kernel
theorem d_M_codes_113 : decode b_M_codes 113 = .ok (.invokevirtual 147, 3) := by decide +kernel
theorem d_M_codes_116 : decode b_M_codes 116 = .ok (.aload_n 0, 1) := by decide +kernel
theorem d_M_codes_117 : decode b_M_codes 117 = .ok (.getfield 44, 3) := by decide +kernel
theorem d_M_codes_120 : decode b_M_codes 120 = .ok (.iload_n 2, 1) := by decide +kernel
theorem d_M_codes_121 : decode b_M_codes 121 = .ok (.iload_n 3, 1) := by decide +kernel
theorem d_M_codes_122 : decode b_M_codes 122 = .ok (.iastore, 1) := by decide +kernel
theorem d_M_codes_123 : decode b_M_codes 123 = .ok (.aload_n 0, 1) := by decide +kernel
theorem d_M_codes_124 : decode b_M_codes 124 = .ok (.getfield 47, 3) := by decide +kernel
theorem d_M_codes_127 : decode b_M_codes 127 = .ok (.iload_n 2, 1) := by decide +kernel
theorem d_M_codes_128 : decode b_M_codes 128 = .ok (.iload 5, 2) := by decide +kernel
theorem d_M_codes_130 : decode b_M_codes 130 = .ok (.iastore, 1) := by decide +kernel
theorem d_M_codes_131 : decode b_M_codes 131 = .ok (.iload_n 3, 1) := by decide +kernel
theorem d_M_codes_132 : decode b_M_codes 132 = .ok (.iload 5, 2) := by decide +kernel
theorem d_M_codes_134 : decode b_M_codes 134 = .ok (.iadd, 1) := by decide +kernel
theorem d_M_codes_135 : decode b_M_codes 135 = .ok (.istore_n 3, 1) := by decide +kernel
theorem d_M_codes_136 : decode b_M_codes 136 = .ok (.iinc 2 1, 3) := by decide +kernel
theorem d_M_codes_139 : decode b_M_codes 139 = .ok (.iload_n 2, 1) := by decide +kernel
theorem d_M_codes_140 : decode b_M_codes 140 = .ok (.bipush 110, 2) := by decide +kernel
theorem d_M_codes_142 : decode b_M_codes 142 = .ok (.if_icmp .ne 17, 3) := by decide +kernel
theorem d_M_codes_145 : decode b_M_codes 145 = .ok (.iload_n 3, 1) := by decide +kernel
theorem d_M_codes_146 : decode b_M_codes 146 = .ok (.iload_n 1, 1) := by decide +kernel
theorem d_M_codes_147 : decode b_M_codes 147 = .ok (.if_icmp .ge 12, 3) := by decide +kernel
theorem d_M_codes_150 : decode b_M_codes 150 = .ok (.aload_n 0, 1) := by decide +kernel
theorem d_M_codes_151 : decode b_M_codes 151 = .ok (.bipush 16, 2) := by decide +kernel
theorem d_M_codes_153 : decode b_M_codes 153 = .ok (.iload_n 2, 1) := by decide +kernel
theorem d_M_codes_154 : decode b_M_codes 154 = .ok (.invokevirtual 147, 3) := by decide +kernel
theorem d_M_codes_157 : decode b_M_codes 157 = .ok (.iconst 1, 1) := by decide +kernel
theorem d_M_codes_158 : decode b_M_codes 158 = .ok (.istore_n 2, 1) := by decide +kernel
theorem d_M_codes_159 : decode b_M_codes 159 = .ok (.goto (-135), 3) := by decide +kernel
theorem d_M_codes_162 : decode b_M_codes 162 = .ok (.aload_n 0, 1) := by decide +kernel
theorem d_M_codes_163 : decode b_M_codes 163 = .ok (.bipush 17, 2) := by decide +kernel
theorem d_M_codes_165 : decode b_M_codes 165 = .ok (.iload_n 2, 1) := by decide +kernel
theorem d_M_codes_166 : decode b_M_codes 166 = .ok (.invokevirtual 147, 3) := by decide +kernel
theorem d_M_codes_169 : decode b_M_codes 169 = .ok (.return_, 1) := by decide +kernel
def wp_M_codes_b159 (post : (Nat → Int32) → (Nat → Int32) → (Nat → Int32) → (Nat → Int32) → Prop) (k24 : (Nat → Int32) → (Nat → Int32) → (Nat → Int32) → (Nat → Int32) → Int32 → Int32 → Int32 → Prop) (f_p0_nibs : Nat → Int32) (I_p0 : Nat → Int32) (f_p0_file : Nat → Int32) (f_p0_many : Nat → Int32) (f_p0_start : Nat → Int32) (x1 : Int32) (x2 : Int32) (x3 : Int32) : Prop :=
  k24 I_p0 f_p0_file f_p0_many f_p0_start x1 x2 x3
def wp_M_codes_b103 (post : (Nat → Int32) → (Nat → Int32) → (Nat → Int32) → (Nat → Int32) → Prop) (k24 : (Nat → Int32) → (Nat → Int32) → (Nat → Int32) → (Nat → Int32) → Int32 → Int32 → Int32 → Prop) (k43 : (Nat → Int32) → (Nat → Int32) → (Nat → Int32) → (Nat → Int32) → Int32 → Int32 → Int32 → Int32 → Int32 → Int32 → Prop) (f_p0_nibs : Nat → Int32) (I_p0 : Nat → Int32) (f_p0_file : Nat → Int32) (f_p0_many : Nat → Int32) (f_p0_start : Nat → Int32) (x1 : Int32) (x2 : Int32) (x3 : Int32) (x4 : Int32) (x5 : Int32) (x6 : Int32) : Prop :=
  k43 I_p0 f_p0_file f_p0_many f_p0_start x1 x2 x3 x4 x5 (x6 + 1)
def wp_M_codes_l43 (post : (Nat → Int32) → (Nat → Int32) → (Nat → Int32) → (Nat → Int32) → Prop) (k24 : (Nat → Int32) → (Nat → Int32) → (Nat → Int32) → (Nat → Int32) → Int32 → Int32 → Int32 → Prop) (f_p0_nibs : Nat → Int32) : Nat → (Nat → Int32) → (Nat → Int32) → (Nat → Int32) → (Nat → Int32) → Int32 → Int32 → Int32 → Int32 → Int32 → Int32 → Prop
  | 0, _, _, _, _, _, _, _, _, _, _ => False
  | n + 1, I_p0, f_p0_file, f_p0_many, f_p0_start, x1, x2, x3, x4, x5, x6 =>
    ((x2 ≤ x6 →
      wp_M_emit (fun (I_p0_113 : Nat → Int32) (f_p0_file_113 : Nat → Int32) =>
        vp_in x2 120 ∧
        vp_in x2 120 ∧
        (((x2 + 1) = 110 →
          ((x1 ≤ (x3 + x5) →
            wp_M_codes_b159 post k24 f_p0_nibs I_p0_113 f_p0_file_113 (upd f_p0_many (x2).toNatClampNeg x5) (upd f_p0_start (x2).toNatClampNeg x3) x1 (x2 + 1) (x3 + x5)) ∧
           (¬ x1 ≤ (x3 + x5) →
            wp_M_emit (fun (I_p0_154 : Nat → Int32) (f_p0_file_154 : Nat → Int32) =>
              wp_M_codes_b159 post k24 f_p0_nibs I_p0_154 f_p0_file_154 (upd f_p0_many (x2).toNatClampNeg x5) (upd f_p0_start (x2).toNatClampNeg x3) x1 1 (x3 + x5)) I_p0_113 f_p0_file_113 16 (x2 + 1)))) ∧
         (¬ (x2 + 1) = 110 →
          wp_M_codes_b159 post k24 f_p0_nibs I_p0_113 f_p0_file_113 (upd f_p0_many (x2).toNatClampNeg x5) (upd f_p0_start (x2).toNatClampNeg x3) x1 (x2 + 1) (x3 + x5)))) I_p0 f_p0_file x4 x2) ∧
     (¬ x2 ≤ x6 →
      vp_in x6 120 ∧
      ((((f_p0_many (x6).toNatClampNeg) + 1) ≤ x5 →
        wp_M_codes_b103 post k24 (wp_M_codes_l43 post k24 f_p0_nibs n) f_p0_nibs I_p0 f_p0_file f_p0_many f_p0_start x1 x2 x3 x4 x5 x6) ∧
       (¬ ((f_p0_many (x6).toNatClampNeg) + 1) ≤ x5 →
        ((x1 < (x3 + ((f_p0_many (x6).toNatClampNeg) + 1)) →
          wp_M_codes_b103 post k24 (wp_M_codes_l43 post k24 f_p0_nibs n) f_p0_nibs I_p0 f_p0_file f_p0_many f_p0_start x1 x2 x3 x4 x5 x6) ∧
         (¬ x1 < (x3 + ((f_p0_many (x6).toNatClampNeg) + 1)) →
          vp_in x6 120 ∧
          wp_M_same (fun (r86 : Int32) =>
            ((r86 = 0 →
              wp_M_codes_b103 post k24 (wp_M_codes_l43 post k24 f_p0_nibs n) f_p0_nibs I_p0 f_p0_file f_p0_many f_p0_start x1 x2 x3 x4 x5 x6) ∧
             (¬ r86 = 0 →
              wp_M_codes_b103 post k24 (wp_M_codes_l43 post k24 f_p0_nibs n) f_p0_nibs I_p0 f_p0_file f_p0_many f_p0_start x1 x2 x3 (17 + x6) ((f_p0_many (x6).toNatClampNeg) + 1) x6))) I_p0 f_p0_nibs (f_p0_start (x6).toNatClampNeg) x3 ((f_p0_many (x6).toNatClampNeg) + 1)))))))
def wp_M_codes_l24 (post : (Nat → Int32) → (Nat → Int32) → (Nat → Int32) → (Nat → Int32) → Prop) (f_p0_nibs : Nat → Int32) : Nat → (Nat → Int32) → (Nat → Int32) → (Nat → Int32) → (Nat → Int32) → Int32 → Int32 → Int32 → Prop
  | 0, _, _, _, _, _, _, _ => False
  | n + 1, I_p0, f_p0_file, f_p0_many, f_p0_start, x1, x2, x3 =>
    ((x1 ≤ x3 →
      wp_M_emit (fun (I_p0_166 : Nat → Int32) (f_p0_file_166 : Nat → Int32) =>
        post I_p0_166 f_p0_file_166 f_p0_many f_p0_start) I_p0 f_p0_file 17 x2) ∧
     (¬ x1 ≤ x3 →
      vp_in x3 512 ∧
      (∃ n1 : Nat, wp_M_codes_l43 post (wp_M_codes_l24 post f_p0_nibs n) f_p0_nibs n1 I_p0 f_p0_file f_p0_many f_p0_start x1 x2 x3 (f_p0_nibs (x3).toNatClampNeg) 1 1)))
def wp_M_codes (post : (Nat → Int32) → (Nat → Int32) → (Nat → Int32) → (Nat → Int32) → Prop) (f_p0_nibs : Nat → Int32) (I_p0 : Nat → Int32) (f_p0_file : Nat → Int32) (f_p0_many : Nat → Int32) (f_p0_start : Nat → Int32) (x1 : Int32) : Prop :=
  wp_M_emit (fun (I_p0_17 : Nat → Int32) (f_p0_file_17 : Nat → Int32) =>
    (∃ n1 : Nat, wp_M_codes_l24 post f_p0_nibs n1 I_p0_17 f_p0_file_17 f_p0_many f_p0_start x1 1 0)) (upd (upd I_p0 19 (I_p0 2)) 20 0) f_p0_file 16 1
set_option maxRecDepth 100000 in
set_option maxHeartbeats 4000000 in
theorem c_M_codes (l : Launch) (dC : Nat → ClassId) (dI : Nat → Nat → Nat) (cI : ClassId) (a_p0 : Nat) (A_p0 : Nat → Nat) (f_p0_nibs : Nat → Int32) (I_p0 : Nat → Int32) (f_p0_file : Nat → Int32) (f_p0_many : Nat → Int32) (f_p0_start : Nat → Int32) (x1 : Int32) {post : (Nat → Int32) → (Nat → Int32) → (Nat → Int32) → (Nat → Int32) → Prop} (hw : wp_M_codes post f_p0_nibs I_p0 f_p0_file f_p0_many f_p0_start x1) : gm_v l y_M_codes ws_M_codes ({ frames := 2, cells := 0, slots := 0, locals := 45 } : Room) (dC, dI) vwCl [(cI, .int)] [.ref a_p0, .int x1] [oM a_p0 A_p0 I_p0, gz cI (A_p0 0) 2000 f_p0_file, gz cI (A_p0 18) 120 f_p0_many, gz cI (A_p0 16) 512 f_p0_nibs, gz cI (A_p0 17) 120 f_p0_start] (fun (u : (Nat → Int32) × (Nat → Int32) × (Nat → Int32) × (Nat → Int32)) => [oM a_p0 A_p0 u.1, gz cI (A_p0 0) 2000 u.2.1, gz cI (A_p0 18) 120 u.2.2.1, gz cI (A_p0 16) 512 f_p0_nibs, gz cI (A_p0 17) 120 u.2.2.2]) (fun (u : (Nat → Int32) × (Nat → Int32) × (Nat → Int32) × (Nat → Int32)) => post  u.1 u.2.1 u.2.2.1 u.2.2.2) := by
  refine gm_vof (cc := b_M_codes) (maxL := 8) (by decide) rfl (Nat.le_of_ble_eq_true rfl) ?_
  intro p e s m args below meth c A Q hx hb hml hown hg hK hN hA hnm hret
  have hown : s.vm.findClass R_M = some m.cls := hown
  have b159 : ∀ (k24 : (Nat → Int32) → (Nat → Int32) → (Nat → Int32) → (Nat → Int32) → Int32 → Int32 → Int32 → Prop), (∀ (H : Heap) (locs : List Loc) (ls : Array Slot) (I_p0 : Nat → Int32) (f_p0_file : Nat → Int32) (f_p0_many : Nat → Int32) (f_p0_start : Nat → Int32) (x1 : Int32) (x2 : Int32) (x3 : Int32), va_P (dC, dI) vwCl [oM a_p0 A_p0 I_p0, gz cI (A_p0 0) 2000 f_p0_file, gz cI (A_p0 18) 120 f_p0_many, gz cI (A_p0 16) 512 f_p0_nibs, gz cI (A_p0 17) 120 f_p0_start] H → va_D A [oM a_p0 A_p0 I_p0, gz cI (A_p0 0) 2000 f_p0_file, gz cI (A_p0 18) 120 f_p0_many, gz cI (A_p0 16) 512 f_p0_nibs, gz cI (A_p0 17) 120 f_p0_start] → va_S A s.heap H locs → lv_has ls 8 [(0, .ref a_p0), (1, .int x1), (2, .int x2), (3, .int x3)] → k24 I_p0 f_p0_file f_p0_many f_p0_start x1 x2 x3 → W p l e ({ frames := 2, cells := 0, slots := 0, locals := 45 } : Room) s m args below meth c H locs 0 0 Q (F0 m 24 ls [])) → ∀ (H : Heap) (locs : List Loc) (ls : Array Slot) (I_p0 : Nat → Int32) (f_p0_file : Nat → Int32) (f_p0_many : Nat → Int32) (f_p0_start : Nat → Int32) (x1 : Int32) (x2 : Int32) (x3 : Int32), va_P (dC, dI) vwCl [oM a_p0 A_p0 I_p0, gz cI (A_p0 0) 2000 f_p0_file, gz cI (A_p0 18) 120 f_p0_many, gz cI (A_p0 16) 512 f_p0_nibs, gz cI (A_p0 17) 120 f_p0_start] H → va_D A [oM a_p0 A_p0 I_p0, gz cI (A_p0 0) 2000 f_p0_file, gz cI (A_p0 18) 120 f_p0_many, gz cI (A_p0 16) 512 f_p0_nibs, gz cI (A_p0 17) 120 f_p0_start] → va_S A s.heap H locs → lv_has ls 8 [(0, .ref a_p0), (1, .int x1), (2, .int x2), (3, .int x3)] → wp_M_codes_b159 post k24 f_p0_nibs I_p0 f_p0_file f_p0_many f_p0_start x1 x2 x3 → W p l e ({ frames := 2, cells := 0, slots := 0, locals := 45 } : Room) s m args below meth c H locs 0 0 Q (F0 m 159 ls []) := by
    intro k24 hk24 H locs ls I_p0 f_p0_file f_p0_many f_p0_start x1 x2 x3 hP hD hS hl hw
    unfold wp_M_codes_b159 at hw
    refine lv_goto hx hb d_M_codes_159 rfl ?_
    exact hk24 _ _ _ I_p0 f_p0_file f_p0_many f_p0_start x1 x2 x3 hP hD hS (lv_sub hl [0, 1, 2, 3] rfl) hw
  have b103 : ∀ (k24 : (Nat → Int32) → (Nat → Int32) → (Nat → Int32) → (Nat → Int32) → Int32 → Int32 → Int32 → Prop), (∀ (H : Heap) (locs : List Loc) (ls : Array Slot) (I_p0 : Nat → Int32) (f_p0_file : Nat → Int32) (f_p0_many : Nat → Int32) (f_p0_start : Nat → Int32) (x1 : Int32) (x2 : Int32) (x3 : Int32), va_P (dC, dI) vwCl [oM a_p0 A_p0 I_p0, gz cI (A_p0 0) 2000 f_p0_file, gz cI (A_p0 18) 120 f_p0_many, gz cI (A_p0 16) 512 f_p0_nibs, gz cI (A_p0 17) 120 f_p0_start] H → va_D A [oM a_p0 A_p0 I_p0, gz cI (A_p0 0) 2000 f_p0_file, gz cI (A_p0 18) 120 f_p0_many, gz cI (A_p0 16) 512 f_p0_nibs, gz cI (A_p0 17) 120 f_p0_start] → va_S A s.heap H locs → lv_has ls 8 [(0, .ref a_p0), (1, .int x1), (2, .int x2), (3, .int x3)] → k24 I_p0 f_p0_file f_p0_many f_p0_start x1 x2 x3 → W p l e ({ frames := 2, cells := 0, slots := 0, locals := 45 } : Room) s m args below meth c H locs 0 0 Q (F0 m 24 ls [])) → ∀ (k43 : (Nat → Int32) → (Nat → Int32) → (Nat → Int32) → (Nat → Int32) → Int32 → Int32 → Int32 → Int32 → Int32 → Int32 → Prop), (∀ (H : Heap) (locs : List Loc) (ls : Array Slot) (I_p0 : Nat → Int32) (f_p0_file : Nat → Int32) (f_p0_many : Nat → Int32) (f_p0_start : Nat → Int32) (x1 : Int32) (x2 : Int32) (x3 : Int32) (x4 : Int32) (x5 : Int32) (x6 : Int32), va_P (dC, dI) vwCl [oM a_p0 A_p0 I_p0, gz cI (A_p0 0) 2000 f_p0_file, gz cI (A_p0 18) 120 f_p0_many, gz cI (A_p0 16) 512 f_p0_nibs, gz cI (A_p0 17) 120 f_p0_start] H → va_D A [oM a_p0 A_p0 I_p0, gz cI (A_p0 0) 2000 f_p0_file, gz cI (A_p0 18) 120 f_p0_many, gz cI (A_p0 16) 512 f_p0_nibs, gz cI (A_p0 17) 120 f_p0_start] → va_S A s.heap H locs → lv_has ls 8 [(0, .ref a_p0), (1, .int x1), (2, .int x2), (3, .int x3), (4, .int x4), (5, .int x5), (6, .int x6)] → k43 I_p0 f_p0_file f_p0_many f_p0_start x1 x2 x3 x4 x5 x6 → W p l e ({ frames := 2, cells := 0, slots := 0, locals := 45 } : Room) s m args below meth c H locs 0 0 Q (F0 m 43 ls [])) → ∀ (H : Heap) (locs : List Loc) (ls : Array Slot) (I_p0 : Nat → Int32) (f_p0_file : Nat → Int32) (f_p0_many : Nat → Int32) (f_p0_start : Nat → Int32) (x1 : Int32) (x2 : Int32) (x3 : Int32) (x4 : Int32) (x5 : Int32) (x6 : Int32), va_P (dC, dI) vwCl [oM a_p0 A_p0 I_p0, gz cI (A_p0 0) 2000 f_p0_file, gz cI (A_p0 18) 120 f_p0_many, gz cI (A_p0 16) 512 f_p0_nibs, gz cI (A_p0 17) 120 f_p0_start] H → va_D A [oM a_p0 A_p0 I_p0, gz cI (A_p0 0) 2000 f_p0_file, gz cI (A_p0 18) 120 f_p0_many, gz cI (A_p0 16) 512 f_p0_nibs, gz cI (A_p0 17) 120 f_p0_start] → va_S A s.heap H locs → lv_has ls 8 [(0, .ref a_p0), (1, .int x1), (2, .int x2), (3, .int x3), (4, .int x4), (5, .int x5), (6, .int x6)] → wp_M_codes_b103 post k24 k43 f_p0_nibs I_p0 f_p0_file f_p0_many f_p0_start x1 x2 x3 x4 x5 x6 → W p l e ({ frames := 2, cells := 0, slots := 0, locals := 45 } : Room) s m args below meth c H locs 0 0 Q (F0 m 103 ls []) := by
    intro k24 hk24 k43 hk43 H locs ls I_p0 f_p0_file f_p0_many f_p0_start x1 x2 x3 x4 x5 x6 hP hD hS hl hw
    unfold wp_M_codes_b103 at hw
    refine lv_iinc (k := 6) (v := (x6 + 1)) (lv' := [(6, .int (x6 + 1)), (0, .ref a_p0), (1, .int x1), (2, .int x2), (3, .int x3), (4, .int x4), (5, .int x5)]) hx hb d_M_codes_103 hl rfl (congrArg (fun z => x6 + z) (by decide : Int32.ofInt 1 = 1)) (by decide) rfl (fun ls hl => ?_)
    refine lv_goto hx hb d_M_codes_106 rfl ?_
    exact hk43 _ _ _ I_p0 f_p0_file f_p0_many f_p0_start x1 x2 x3 x4 x5 (x6 + 1) hP hD hS (lv_sub hl [1, 2, 3, 4, 5, 6, 0] rfl) hw
  have l43 : ∀ (k24 : (Nat → Int32) → (Nat → Int32) → (Nat → Int32) → (Nat → Int32) → Int32 → Int32 → Int32 → Prop), (∀ (H : Heap) (locs : List Loc) (ls : Array Slot) (I_p0 : Nat → Int32) (f_p0_file : Nat → Int32) (f_p0_many : Nat → Int32) (f_p0_start : Nat → Int32) (x1 : Int32) (x2 : Int32) (x3 : Int32), va_P (dC, dI) vwCl [oM a_p0 A_p0 I_p0, gz cI (A_p0 0) 2000 f_p0_file, gz cI (A_p0 18) 120 f_p0_many, gz cI (A_p0 16) 512 f_p0_nibs, gz cI (A_p0 17) 120 f_p0_start] H → va_D A [oM a_p0 A_p0 I_p0, gz cI (A_p0 0) 2000 f_p0_file, gz cI (A_p0 18) 120 f_p0_many, gz cI (A_p0 16) 512 f_p0_nibs, gz cI (A_p0 17) 120 f_p0_start] → va_S A s.heap H locs → lv_has ls 8 [(0, .ref a_p0), (1, .int x1), (2, .int x2), (3, .int x3)] → k24 I_p0 f_p0_file f_p0_many f_p0_start x1 x2 x3 → W p l e ({ frames := 2, cells := 0, slots := 0, locals := 45 } : Room) s m args below meth c H locs 0 0 Q (F0 m 24 ls [])) → ∀ n : Nat, ∀ (H : Heap) (locs : List Loc) (ls : Array Slot) (I_p0 : Nat → Int32) (f_p0_file : Nat → Int32) (f_p0_many : Nat → Int32) (f_p0_start : Nat → Int32) (x1 : Int32) (x2 : Int32) (x3 : Int32) (x4 : Int32) (x5 : Int32) (x6 : Int32), va_P (dC, dI) vwCl [oM a_p0 A_p0 I_p0, gz cI (A_p0 0) 2000 f_p0_file, gz cI (A_p0 18) 120 f_p0_many, gz cI (A_p0 16) 512 f_p0_nibs, gz cI (A_p0 17) 120 f_p0_start] H → va_D A [oM a_p0 A_p0 I_p0, gz cI (A_p0 0) 2000 f_p0_file, gz cI (A_p0 18) 120 f_p0_many, gz cI (A_p0 16) 512 f_p0_nibs, gz cI (A_p0 17) 120 f_p0_start] → va_S A s.heap H locs → lv_has ls 8 [(0, .ref a_p0), (1, .int x1), (2, .int x2), (3, .int x3), (4, .int x4), (5, .int x5), (6, .int x6)] → wp_M_codes_l43 post k24 f_p0_nibs n I_p0 f_p0_file f_p0_many f_p0_start x1 x2 x3 x4 x5 x6 → W p l e ({ frames := 2, cells := 0, slots := 0, locals := 45 } : Room) s m args below meth c H locs 0 0 Q (F0 m 43 ls []) := by
    intro k24 hk24 n
    induction n with
    | zero => intro H locs ls I_p0 f_p0_file f_p0_many f_p0_start x1 x2 x3 x4 x5 x6 hP hD hS hl hw; exact hw.elim
    | succ n ih =>
      intro H locs ls I_p0 f_p0_file f_p0_many f_p0_start x1 x2 x3 x4 x5 x6 hP hD hS hl hw
      unfold wp_M_codes_l43 at hw
      refine lv_iload hx hb d_M_codes_43 (lv_at hl 6 rfl) ?_
      refine lv_iload_n hx hb d_M_codes_45 rfl (lv_at hl 2 rfl) ?_
      refine lv_icmp_ge hx hb d_M_codes_46 rfl (fun hc => ?_) (fun hc => ?_)
      · have hw := hw.1 hc
        refine lv_aload_n hx hb d_M_codes_109 rfl (lv_at hl 0 rfl) ?_
        refine lv_iload hx hb d_M_codes_110 (lv_at hl 4 rfl) ?_
        refine lv_iload_n hx hb d_M_codes_112 rfl (lv_at hl 2 rfl) ?_
        refine gc_v (wn := fun u => [oM a_p0 A_p0 u.1, gz cI (A_p0 0) 2000 u.2, gz cI (A_p0 18) 120 f_p0_many, gz cI (A_p0 16) 512 f_p0_nibs, gz cI (A_p0 17) 120 f_p0_start]) (wr := [gz cI (A_p0 18) 120 f_p0_many, gz cI (A_p0 16) 512 f_p0_nibs, gz cI (A_p0 17) 120 f_p0_start]) (gr_V (As := [.int x4, .int x2]) (rest := []) ⟨hx, hb, hml, hown, hg⟩ (c_M_emit l dC dI cI a_p0 A_p0 I_p0 f_p0_file x4 x2 hw _) (cwV 2 hg (gg_V t_973 t_975 t_39 t_71 t_976) rfl rfl rfl (by decide +kernel) ⟨Nat.le_of_ble_eq_true rfl, Nat.le_of_ble_eq_true rfl⟩) hK hN hP hD [0, 1] (by decide) rfl 0 10 rfl rfl rfl rfl hl.1 rfl (Nat.le_of_ble_eq_true rfl) d_M_codes_113 ⟨Nat.le_of_ble_eq_true rfl, Nat.le_of_ble_eq_true rfl⟩) rfl rfl hP hD hS hA [0, 1] [2, 3, 4] [3, 4, 0, 1, 2] rfl rfl (by decide) (by decide) (by decide) (fun _ => rfl) ?_
        intro u9 H locs hw hP hD hS
        obtain ⟨I_p0_113, f_p0_file_113⟩ := u9
        try dsimp only at hw
        have hP : va_P (dC, dI) vwCl [oM a_p0 A_p0 I_p0_113, gz cI (A_p0 0) 2000 f_p0_file_113, gz cI (A_p0 18) 120 f_p0_many, gz cI (A_p0 16) 512 f_p0_nibs, gz cI (A_p0 17) 120 f_p0_start] H := hP
        have hD : va_D A [oM a_p0 A_p0 I_p0_113, gz cI (A_p0 0) 2000 f_p0_file_113, gz cI (A_p0 18) 120 f_p0_many, gz cI (A_p0 16) 512 f_p0_nibs, gz cI (A_p0 17) 120 f_p0_start] := hD
        refine lv_aload_n hx hb d_M_codes_116 rfl (lv_at hl 0 rfl) ?_
        refine va_get (D := (dC, dI)) (ci := 10) (v := .ref (A_p0 17)) (C := R_M) (T := T_M) (N := 30) hx hb hg in_M hown hK hP 0 rfl rfl 17 (by decide) (hg _ t_775) (fun _ h9 => h9) rfl d_M_codes_117 ?_
        refine lv_iload_n hx hb d_M_codes_120 rfl (lv_at hl 2 rfl) ?_
        refine lv_iload_n hx hb d_M_codes_121 rfl (lv_at hl 3 rfl) ?_
        obtain ⟨hin, hw⟩ := hw
        refine va_iast hx hb hK hP hD hS 4 0 rfl rfl hin d_M_codes_122 (fun H locs hP hD hS => ?_)
        have hP : va_P (dC, dI) vwCl [oM a_p0 A_p0 I_p0_113, gz cI (A_p0 0) 2000 f_p0_file_113, gz cI (A_p0 18) 120 f_p0_many, gz cI (A_p0 16) 512 f_p0_nibs, gz cI (A_p0 17) 120 (upd f_p0_start (x2).toNatClampNeg x3)] H := hP
        have hD : va_D A [oM a_p0 A_p0 I_p0_113, gz cI (A_p0 0) 2000 f_p0_file_113, gz cI (A_p0 18) 120 f_p0_many, gz cI (A_p0 16) 512 f_p0_nibs, gz cI (A_p0 17) 120 (upd f_p0_start (x2).toNatClampNeg x3)] := hD
        refine lv_aload_n hx hb d_M_codes_123 rfl (lv_at hl 0 rfl) ?_
        refine va_get (D := (dC, dI)) (ci := 10) (v := .ref (A_p0 18)) (C := R_M) (T := T_M) (N := 30) hx hb hg in_M hown hK hP 0 rfl rfl 18 (by decide) (hg _ t_776) (fun _ h9 => h9) rfl d_M_codes_124 ?_
        refine lv_iload_n hx hb d_M_codes_127 rfl (lv_at hl 2 rfl) ?_
        refine lv_iload hx hb d_M_codes_128 (lv_at hl 5 rfl) ?_
        obtain ⟨hin, hw⟩ := hw
        refine va_iast hx hb hK hP hD hS 2 0 rfl rfl hin d_M_codes_130 (fun H locs hP hD hS => ?_)
        have hP : va_P (dC, dI) vwCl [oM a_p0 A_p0 I_p0_113, gz cI (A_p0 0) 2000 f_p0_file_113, gz cI (A_p0 18) 120 (upd f_p0_many (x2).toNatClampNeg x5), gz cI (A_p0 16) 512 f_p0_nibs, gz cI (A_p0 17) 120 (upd f_p0_start (x2).toNatClampNeg x3)] H := hP
        have hD : va_D A [oM a_p0 A_p0 I_p0_113, gz cI (A_p0 0) 2000 f_p0_file_113, gz cI (A_p0 18) 120 (upd f_p0_many (x2).toNatClampNeg x5), gz cI (A_p0 16) 512 f_p0_nibs, gz cI (A_p0 17) 120 (upd f_p0_start (x2).toNatClampNeg x3)] := hD
        refine lv_iload_n hx hb d_M_codes_131 rfl (lv_at hl 3 rfl) ?_
        refine lv_iload hx hb d_M_codes_132 (lv_at hl 5 rfl) ?_
        refine lv_iadd hx hb d_M_codes_134 ?_
        refine lv_istore_n (lv' := [(3, .int (x3 + x5)), (0, .ref a_p0), (1, .int x1), (2, .int x2), (4, .int x4), (5, .int x5), (6, .int x6)]) hx hb d_M_codes_135 rfl hl (by decide) rfl (fun ls hl => ?_)
        refine lv_iinc (k := 3) (v := (x2 + 1)) (lv' := [(2, .int (x2 + 1)), (3, .int (x3 + x5)), (0, .ref a_p0), (1, .int x1), (4, .int x4), (5, .int x5), (6, .int x6)]) hx hb d_M_codes_136 hl rfl (congrArg (fun z => x2 + z) (by decide : Int32.ofInt 1 = 1)) (by decide) rfl (fun ls hl => ?_)
        refine lv_iload_n hx hb d_M_codes_139 rfl (lv_at hl 0 rfl) ?_
        refine lv_bipush (v := 110) hx hb d_M_codes_140 (by decide) ?_
        refine lv_icmp_ne hx hb d_M_codes_142 rfl (fun hc => ?_) (fun hc => ?_)
        · have hw := hw.2 hc
          exact b159 _ hk24 _ _ _ I_p0_113 f_p0_file_113 (upd f_p0_many (x2).toNatClampNeg x5) (upd f_p0_start (x2).toNatClampNeg x3) x1 (x2 + 1) (x3 + x5) hP hD hS (lv_sub hl [2, 3, 0, 1] rfl) hw
        · have hw := hw.1 hc
          refine lv_iload_n hx hb d_M_codes_145 rfl (lv_at hl 1 rfl) ?_
          refine lv_iload_n hx hb d_M_codes_146 rfl (lv_at hl 3 rfl) ?_
          refine lv_icmp_ge hx hb d_M_codes_147 rfl (fun hc => ?_) (fun hc => ?_)
          · have hw := hw.1 hc
            exact b159 _ hk24 _ _ _ I_p0_113 f_p0_file_113 (upd f_p0_many (x2).toNatClampNeg x5) (upd f_p0_start (x2).toNatClampNeg x3) x1 (x2 + 1) (x3 + x5) hP hD hS (lv_sub hl [2, 3, 0, 1] rfl) hw
          · have hw := hw.2 hc
            refine lv_aload_n hx hb d_M_codes_150 rfl (lv_at hl 2 rfl) ?_
            refine lv_bipush (v := 16) hx hb d_M_codes_151 (by decide) ?_
            refine lv_iload_n hx hb d_M_codes_153 rfl (lv_at hl 0 rfl) ?_
            refine gc_v (wn := fun u => [oM a_p0 A_p0 u.1, gz cI (A_p0 0) 2000 u.2, gz cI (A_p0 18) 120 (upd f_p0_many (x2).toNatClampNeg x5), gz cI (A_p0 16) 512 f_p0_nibs, gz cI (A_p0 17) 120 (upd f_p0_start (x2).toNatClampNeg x3)]) (wr := [gz cI (A_p0 18) 120 (upd f_p0_many (x2).toNatClampNeg x5), gz cI (A_p0 16) 512 f_p0_nibs, gz cI (A_p0 17) 120 (upd f_p0_start (x2).toNatClampNeg x3)]) (gr_V (As := [.int 16, .int (x2 + 1)]) (rest := []) ⟨hx, hb, hml, hown, hg⟩ (c_M_emit l dC dI cI a_p0 A_p0 I_p0_113 f_p0_file_113 16 (x2 + 1) hw _) (cwV 2 hg (gg_V t_973 t_975 t_39 t_71 t_976) rfl rfl rfl (by decide +kernel) ⟨Nat.le_of_ble_eq_true rfl, Nat.le_of_ble_eq_true rfl⟩) hK hN hP hD [0, 1] (by decide) rfl 0 10 rfl rfl rfl rfl hl.1 rfl (Nat.le_of_ble_eq_true rfl) d_M_codes_154 ⟨Nat.le_of_ble_eq_true rfl, Nat.le_of_ble_eq_true rfl⟩) rfl rfl hP hD hS hA [0, 1] [2, 3, 4] [3, 4, 0, 1, 2] rfl rfl (by decide) (by decide) (by decide) (fun _ => rfl) ?_
            intro u9 H locs hw hP hD hS
            obtain ⟨I_p0_154, f_p0_file_154⟩ := u9
            try dsimp only at hw
            have hP : va_P (dC, dI) vwCl [oM a_p0 A_p0 I_p0_154, gz cI (A_p0 0) 2000 f_p0_file_154, gz cI (A_p0 18) 120 (upd f_p0_many (x2).toNatClampNeg x5), gz cI (A_p0 16) 512 f_p0_nibs, gz cI (A_p0 17) 120 (upd f_p0_start (x2).toNatClampNeg x3)] H := hP
            have hD : va_D A [oM a_p0 A_p0 I_p0_154, gz cI (A_p0 0) 2000 f_p0_file_154, gz cI (A_p0 18) 120 (upd f_p0_many (x2).toNatClampNeg x5), gz cI (A_p0 16) 512 f_p0_nibs, gz cI (A_p0 17) 120 (upd f_p0_start (x2).toNatClampNeg x3)] := hD
            refine lv_iconst (v := 1) hx hb d_M_codes_157 (by decide) ?_
            refine lv_istore_n (lv' := [(2, .int 1), (3, .int (x3 + x5)), (0, .ref a_p0), (1, .int x1), (4, .int x4), (5, .int x5), (6, .int x6)]) hx hb d_M_codes_158 rfl hl (by decide) rfl (fun ls hl => ?_)
            exact b159 _ hk24 _ _ _ I_p0_154 f_p0_file_154 (upd f_p0_many (x2).toNatClampNeg x5) (upd f_p0_start (x2).toNatClampNeg x3) x1 1 (x3 + x5) hP hD hS (lv_sub hl [2, 3, 0, 1] rfl) hw
      · have hw := hw.2 hc
        refine lv_aload_n hx hb d_M_codes_49 rfl (lv_at hl 0 rfl) ?_
        refine va_get (D := (dC, dI)) (ci := 10) (v := .ref (A_p0 18)) (C := R_M) (T := T_M) (N := 30) hx hb hg in_M hown hK hP 0 rfl rfl 18 (by decide) (hg _ t_776) (fun _ h9 => h9) rfl d_M_codes_50 ?_
        refine lv_iload hx hb d_M_codes_53 (lv_at hl 6 rfl) ?_
        obtain ⟨hin, hw⟩ := hw
        refine va_iald hx hb hK hP 2 0 rfl rfl hin d_M_codes_55 ?_
        refine lv_iconst (v := 1) hx hb d_M_codes_56 (by decide) ?_
        refine lv_iadd hx hb d_M_codes_57 ?_
        refine lv_istore (lv' := [(7, .int ((f_p0_many (x6).toNatClampNeg) + 1)), (0, .ref a_p0), (1, .int x1), (2, .int x2), (3, .int x3), (4, .int x4), (5, .int x5), (6, .int x6)]) hx hb d_M_codes_58 hl (by decide) rfl (fun ls hl => ?_)
        refine lv_iload hx hb d_M_codes_60 (lv_at hl 0 rfl) ?_
        refine lv_iload hx hb d_M_codes_62 (lv_at hl 6 rfl) ?_
        refine lv_icmp_le hx hb d_M_codes_64 rfl (fun hc => ?_) (fun hc => ?_)
        · have hw := hw.1 hc
          exact b103 _ hk24 _ ih _ _ _ I_p0 f_p0_file f_p0_many f_p0_start x1 x2 x3 x4 x5 x6 hP hD hS (lv_sub hl [1, 2, 3, 4, 5, 6, 7] rfl) hw
        · have hw := hw.2 hc
          refine lv_iload_n hx hb d_M_codes_67 rfl (lv_at hl 4 rfl) ?_
          refine lv_iload hx hb d_M_codes_68 (lv_at hl 0 rfl) ?_
          refine lv_iadd hx hb d_M_codes_70 ?_
          refine lv_iload_n hx hb d_M_codes_71 rfl (lv_at hl 2 rfl) ?_
          refine lv_icmp_gt hx hb d_M_codes_72 rfl (fun hc => ?_) (fun hc => ?_)
          · have hw := hw.1 hc
            exact b103 _ hk24 _ ih _ _ _ I_p0 f_p0_file f_p0_many f_p0_start x1 x2 x3 x4 x5 x6 hP hD hS (lv_sub hl [1, 2, 3, 4, 5, 6, 7] rfl) hw
          · have hw := hw.2 hc
            refine lv_aload_n hx hb d_M_codes_75 rfl (lv_at hl 1 rfl) ?_
            refine lv_aload_n hx hb d_M_codes_76 rfl (lv_at hl 1 rfl) ?_
            refine va_get (D := (dC, dI)) (ci := 10) (v := .ref (A_p0 17)) (C := R_M) (T := T_M) (N := 30) hx hb hg in_M hown hK hP 0 rfl rfl 17 (by decide) (hg _ t_775) (fun _ h9 => h9) rfl d_M_codes_77 ?_
            refine lv_iload hx hb d_M_codes_80 (lv_at hl 7 rfl) ?_
            obtain ⟨hin, hw⟩ := hw
            refine va_iald hx hb hK hP 4 0 rfl rfl hin d_M_codes_82 ?_
            refine lv_iload_n hx hb d_M_codes_83 rfl (lv_at hl 4 rfl) ?_
            refine lv_iload hx hb d_M_codes_84 (lv_at hl 0 rfl) ?_
            refine gc_i (wn := fun (_ : Unit) => [oM a_p0 A_p0 I_p0, gz cI (A_p0 0) 2000 f_p0_file, gz cI (A_p0 18) 120 f_p0_many, gz cI (A_p0 16) 512 f_p0_nibs, gz cI (A_p0 17) 120 f_p0_start]) (wr := [gz cI (A_p0 0) 2000 f_p0_file, gz cI (A_p0 18) 120 f_p0_many, gz cI (A_p0 17) 120 f_p0_start]) (gr_V (As := [.int (f_p0_start (x6).toNatClampNeg), .int x3, .int ((f_p0_many (x6).toNatClampNeg) + 1)]) (rest := []) ⟨hx, hb, hml, hown, hg⟩ (c_M_same l dC dI cI a_p0 A_p0 I_p0 f_p0_nibs (f_p0_start (x6).toNatClampNeg) x3 ((f_p0_many (x6).toNatClampNeg) + 1) hw _) (cwV 3 hg (gg_V t_980 t_982 t_40 t_71 t_983) rfl rfl rfl (by decide +kernel) ⟨Nat.le_of_ble_eq_true rfl, Nat.le_of_ble_eq_true rfl⟩) hK hN hP hD [0, 3] (by decide) rfl 0 10 rfl rfl rfl rfl hl.1 rfl (Nat.le_of_ble_eq_true rfl) d_M_codes_86 ⟨Nat.le_of_ble_eq_true rfl, Nat.le_of_ble_eq_true rfl⟩) rfl rfl hP hD hS hA [0, 3] [1, 2, 4] [3, 0, 1, 4, 2] rfl rfl (by decide) (by decide) (by decide) (fun _ => rfl) ?_
            intro r86 _ H locs hw hP hD hS
            try dsimp only at hw
            have hP : va_P (dC, dI) vwCl [oM a_p0 A_p0 I_p0, gz cI (A_p0 0) 2000 f_p0_file, gz cI (A_p0 18) 120 f_p0_many, gz cI (A_p0 16) 512 f_p0_nibs, gz cI (A_p0 17) 120 f_p0_start] H := hP
            have hD : va_D A [oM a_p0 A_p0 I_p0, gz cI (A_p0 0) 2000 f_p0_file, gz cI (A_p0 18) 120 f_p0_many, gz cI (A_p0 16) 512 f_p0_nibs, gz cI (A_p0 17) 120 f_p0_start] := hD
            refine lv_if_eq hx hb d_M_codes_89 rfl (fun hc => ?_) (fun hc => ?_)
            · have hw := hw.1 hc
              exact b103 _ hk24 _ ih _ _ _ I_p0 f_p0_file f_p0_many f_p0_start x1 x2 x3 x4 x5 x6 hP hD hS (lv_sub hl [1, 2, 3, 4, 5, 6, 7] rfl) hw
            · have hw := hw.2 hc
              refine lv_bipush (v := 17) hx hb d_M_codes_92 (by decide) ?_
              refine lv_iload hx hb d_M_codes_94 (lv_at hl 7 rfl) ?_
              refine lv_iadd hx hb d_M_codes_96 ?_
              refine lv_istore (lv' := [(4, .int (17 + x6)), (7, .int ((f_p0_many (x6).toNatClampNeg) + 1)), (0, .ref a_p0), (1, .int x1), (2, .int x2), (3, .int x3), (5, .int x5), (6, .int x6)]) hx hb d_M_codes_97 hl (by decide) rfl (fun ls hl => ?_)
              refine lv_iload hx hb d_M_codes_99 (lv_at hl 1 rfl) ?_
              refine lv_istore (lv' := [(5, .int ((f_p0_many (x6).toNatClampNeg) + 1)), (4, .int (17 + x6)), (7, .int ((f_p0_many (x6).toNatClampNeg) + 1)), (0, .ref a_p0), (1, .int x1), (2, .int x2), (3, .int x3), (6, .int x6)]) hx hb d_M_codes_101 hl (by decide) rfl (fun ls hl => ?_)
              exact b103 _ hk24 _ ih _ _ _ I_p0 f_p0_file f_p0_many f_p0_start x1 x2 x3 (17 + x6) ((f_p0_many (x6).toNatClampNeg) + 1) x6 hP hD hS (lv_sub hl [3, 4, 5, 6, 1, 0, 7] rfl) hw
  have l24 : ∀ n : Nat, ∀ (H : Heap) (locs : List Loc) (ls : Array Slot) (I_p0 : Nat → Int32) (f_p0_file : Nat → Int32) (f_p0_many : Nat → Int32) (f_p0_start : Nat → Int32) (x1 : Int32) (x2 : Int32) (x3 : Int32), va_P (dC, dI) vwCl [oM a_p0 A_p0 I_p0, gz cI (A_p0 0) 2000 f_p0_file, gz cI (A_p0 18) 120 f_p0_many, gz cI (A_p0 16) 512 f_p0_nibs, gz cI (A_p0 17) 120 f_p0_start] H → va_D A [oM a_p0 A_p0 I_p0, gz cI (A_p0 0) 2000 f_p0_file, gz cI (A_p0 18) 120 f_p0_many, gz cI (A_p0 16) 512 f_p0_nibs, gz cI (A_p0 17) 120 f_p0_start] → va_S A s.heap H locs → lv_has ls 8 [(0, .ref a_p0), (1, .int x1), (2, .int x2), (3, .int x3)] → wp_M_codes_l24 post f_p0_nibs n I_p0 f_p0_file f_p0_many f_p0_start x1 x2 x3 → W p l e ({ frames := 2, cells := 0, slots := 0, locals := 45 } : Room) s m args below meth c H locs 0 0 Q (F0 m 24 ls []) := by
    intro n
    induction n with
    | zero => intro H locs ls I_p0 f_p0_file f_p0_many f_p0_start x1 x2 x3 hP hD hS hl hw; exact hw.elim
    | succ n ih =>
      intro H locs ls I_p0 f_p0_file f_p0_many f_p0_start x1 x2 x3 hP hD hS hl hw
      unfold wp_M_codes_l24 at hw
      refine lv_iload_n hx hb d_M_codes_24 rfl (lv_at hl 3 rfl) ?_
      refine lv_iload_n hx hb d_M_codes_25 rfl (lv_at hl 1 rfl) ?_
      refine lv_icmp_ge hx hb d_M_codes_26 rfl (fun hc => ?_) (fun hc => ?_)
      · have hw := hw.1 hc
        refine lv_aload_n hx hb d_M_codes_162 rfl (lv_at hl 0 rfl) ?_
        refine lv_bipush (v := 17) hx hb d_M_codes_163 (by decide) ?_
        refine lv_iload_n hx hb d_M_codes_165 rfl (lv_at hl 2 rfl) ?_
        refine gc_v (wn := fun u => [oM a_p0 A_p0 u.1, gz cI (A_p0 0) 2000 u.2, gz cI (A_p0 18) 120 f_p0_many, gz cI (A_p0 16) 512 f_p0_nibs, gz cI (A_p0 17) 120 f_p0_start]) (wr := [gz cI (A_p0 18) 120 f_p0_many, gz cI (A_p0 16) 512 f_p0_nibs, gz cI (A_p0 17) 120 f_p0_start]) (gr_V (As := [.int 17, .int x2]) (rest := []) ⟨hx, hb, hml, hown, hg⟩ (c_M_emit l dC dI cI a_p0 A_p0 I_p0 f_p0_file 17 x2 hw _) (cwV 2 hg (gg_V t_973 t_975 t_39 t_71 t_976) rfl rfl rfl (by decide +kernel) ⟨Nat.le_of_ble_eq_true rfl, Nat.le_of_ble_eq_true rfl⟩) hK hN hP hD [0, 1] (by decide) rfl 0 10 rfl rfl rfl rfl hl.1 rfl (Nat.le_of_ble_eq_true rfl) d_M_codes_166 ⟨Nat.le_of_ble_eq_true rfl, Nat.le_of_ble_eq_true rfl⟩) rfl rfl hP hD hS hA [0, 1] [2, 3, 4] [3, 4, 0, 1, 2] rfl rfl (by decide) (by decide) (by decide) (fun _ => rfl) ?_
        intro u9 H locs hw hP hD hS
        obtain ⟨I_p0_166, f_p0_file_166⟩ := u9
        try dsimp only at hw
        have hP : va_P (dC, dI) vwCl [oM a_p0 A_p0 I_p0_166, gz cI (A_p0 0) 2000 f_p0_file_166, gz cI (A_p0 18) 120 f_p0_many, gz cI (A_p0 16) 512 f_p0_nibs, gz cI (A_p0 17) 120 f_p0_start] H := hP
        have hD : va_D A [oM a_p0 A_p0 I_p0_166, gz cI (A_p0 0) 2000 f_p0_file_166, gz cI (A_p0 18) 120 f_p0_many, gz cI (A_p0 16) 512 f_p0_nibs, gz cI (A_p0 17) 120 f_p0_start] := hD
        exact hret _ _ _ _ (I_p0_166, f_p0_file_166, f_p0_many, f_p0_start) d_M_codes_169 hP hD hS hw
      · have hw := hw.2 hc
        refine lv_aload_n hx hb d_M_codes_29 rfl (lv_at hl 0 rfl) ?_
        refine va_get (D := (dC, dI)) (ci := 10) (v := .ref (A_p0 16)) (C := R_M) (T := T_M) (N := 30) hx hb hg in_M hown hK hP 0 rfl rfl 16 (by decide) (hg _ t_774) (fun _ h9 => h9) rfl d_M_codes_30 ?_
        refine lv_iload_n hx hb d_M_codes_33 rfl (lv_at hl 3 rfl) ?_
        obtain ⟨hin, hw⟩ := hw
        refine va_iald hx hb hK hP 3 0 rfl rfl hin d_M_codes_34 ?_
        refine lv_istore (lv' := [(4, .int (f_p0_nibs (x3).toNatClampNeg)), (0, .ref a_p0), (1, .int x1), (2, .int x2), (3, .int x3)]) hx hb d_M_codes_35 hl (by decide) rfl (fun ls hl => ?_)
        refine lv_iconst (v := 1) hx hb d_M_codes_37 (by decide) ?_
        refine lv_istore (lv' := [(5, .int 1), (4, .int (f_p0_nibs (x3).toNatClampNeg)), (0, .ref a_p0), (1, .int x1), (2, .int x2), (3, .int x3)]) hx hb d_M_codes_38 hl (by decide) rfl (fun ls hl => ?_)
        refine lv_iconst (v := 1) hx hb d_M_codes_40 (by decide) ?_
        refine lv_istore (lv' := [(6, .int 1), (5, .int 1), (4, .int (f_p0_nibs (x3).toNatClampNeg)), (0, .ref a_p0), (1, .int x1), (2, .int x2), (3, .int x3)]) hx hb d_M_codes_41 hl (by decide) rfl (fun ls hl => ?_)
        obtain ⟨n1, hw⟩ := hw
        exact l43 _ ih n1 _ _ _ I_p0 f_p0_file f_p0_many f_p0_start x1 x2 x3 (f_p0_nibs (x3).toNatClampNeg) 1 1 hP hD hS (lv_sub hl [3, 4, 5, 6, 2, 1, 0] rfl) hw
  intro ls hl hP hD hS
  have hl : lv_has ls 8 [(0, .ref a_p0), (1, .int x1)] := hl
  unfold wp_M_codes at hw
  refine lv_aload_n hx hb d_M_codes_0 rfl (lv_at hl 0 rfl) ?_
  refine lv_aload_n hx hb d_M_codes_1 rfl (lv_at hl 0 rfl) ?_
  refine va_get (D := (dC, dI)) (ci := 10) (v := .int (I_p0 2)) (C := R_M) (T := T_M) (N := 30) hx hb hg in_M hown hK hP 0 rfl rfl 2 (by decide) (hg _ t_760) (fun _ h9 => h9) rfl d_M_codes_2 ?_
  refine va_put (D := (dC, dI)) (ci := 10) (v := .int (I_p0 2)) (ty := .int) (C := R_M) (T := T_M) (N := 30) hx hb hg in_M t_M tok_M nok_M hown hK hP hD hS 0 rfl rfl 19 (by decide) (hg _ t_777) (fun _ h9 => h9) rfl (by decide +kernel) rfl rfl (Nat.le_of_ble_eq_true rfl) d_M_codes_5 (fun H locs hP hD hS => ?_)
  have hP : va_P (dC, dI) vwCl [oM a_p0 A_p0 (upd I_p0 19 (I_p0 2)), gz cI (A_p0 0) 2000 f_p0_file, gz cI (A_p0 18) 120 f_p0_many, gz cI (A_p0 16) 512 f_p0_nibs, gz cI (A_p0 17) 120 f_p0_start] H := hP
  have hD : va_D A [oM a_p0 A_p0 (upd I_p0 19 (I_p0 2)), gz cI (A_p0 0) 2000 f_p0_file, gz cI (A_p0 18) 120 f_p0_many, gz cI (A_p0 16) 512 f_p0_nibs, gz cI (A_p0 17) 120 f_p0_start] := hD
  refine lv_aload_n hx hb d_M_codes_8 rfl (lv_at hl 0 rfl) ?_
  refine lv_iconst (v := 0) hx hb d_M_codes_9 (by decide) ?_
  refine va_put (D := (dC, dI)) (ci := 10) (v := .int 0) (ty := .int) (C := R_M) (T := T_M) (N := 30) hx hb hg in_M t_M tok_M nok_M hown hK hP hD hS 0 rfl rfl 20 (by decide) (hg _ t_778) (fun _ h9 => h9) rfl (by decide +kernel) rfl rfl (Nat.le_of_ble_eq_true rfl) d_M_codes_10 (fun H locs hP hD hS => ?_)
  have hP : va_P (dC, dI) vwCl [oM a_p0 A_p0 (upd (upd I_p0 19 (I_p0 2)) 20 0), gz cI (A_p0 0) 2000 f_p0_file, gz cI (A_p0 18) 120 f_p0_many, gz cI (A_p0 16) 512 f_p0_nibs, gz cI (A_p0 17) 120 f_p0_start] H := hP
  have hD : va_D A [oM a_p0 A_p0 (upd (upd I_p0 19 (I_p0 2)) 20 0), gz cI (A_p0 0) 2000 f_p0_file, gz cI (A_p0 18) 120 f_p0_many, gz cI (A_p0 16) 512 f_p0_nibs, gz cI (A_p0 17) 120 f_p0_start] := hD
  refine lv_aload_n hx hb d_M_codes_13 rfl (lv_at hl 0 rfl) ?_
  refine lv_bipush (v := 16) hx hb d_M_codes_14 (by decide) ?_
  refine lv_iconst (v := 1) hx hb d_M_codes_16 (by decide) ?_
  refine gc_v (wn := fun u => [oM a_p0 A_p0 u.1, gz cI (A_p0 0) 2000 u.2, gz cI (A_p0 18) 120 f_p0_many, gz cI (A_p0 16) 512 f_p0_nibs, gz cI (A_p0 17) 120 f_p0_start]) (wr := [gz cI (A_p0 18) 120 f_p0_many, gz cI (A_p0 16) 512 f_p0_nibs, gz cI (A_p0 17) 120 f_p0_start]) (gr_V (As := [.int 16, .int 1]) (rest := []) ⟨hx, hb, hml, hown, hg⟩ (c_M_emit l dC dI cI a_p0 A_p0 (upd (upd I_p0 19 (I_p0 2)) 20 0) f_p0_file 16 1 hw _) (cwV 2 hg (gg_V t_973 t_975 t_39 t_71 t_976) rfl rfl rfl (by decide +kernel) ⟨Nat.le_of_ble_eq_true rfl, Nat.le_of_ble_eq_true rfl⟩) hK hN hP hD [0, 1] (by decide) rfl 0 10 rfl rfl rfl rfl hl.1 rfl (Nat.le_of_ble_eq_true rfl) d_M_codes_17 ⟨Nat.le_of_ble_eq_true rfl, Nat.le_of_ble_eq_true rfl⟩) rfl rfl hP hD hS hA [0, 1] [2, 3, 4] [3, 4, 0, 1, 2] rfl rfl (by decide) (by decide) (by decide) (fun _ => rfl) ?_
  intro u9 H locs hw hP hD hS
  obtain ⟨I_p0_17, f_p0_file_17⟩ := u9
  try dsimp only at hw
  have hP : va_P (dC, dI) vwCl [oM a_p0 A_p0 I_p0_17, gz cI (A_p0 0) 2000 f_p0_file_17, gz cI (A_p0 18) 120 f_p0_many, gz cI (A_p0 16) 512 f_p0_nibs, gz cI (A_p0 17) 120 f_p0_start] H := hP
  have hD : va_D A [oM a_p0 A_p0 I_p0_17, gz cI (A_p0 0) 2000 f_p0_file_17, gz cI (A_p0 18) 120 f_p0_many, gz cI (A_p0 16) 512 f_p0_nibs, gz cI (A_p0 17) 120 f_p0_start] := hD
  refine lv_iconst (v := 1) hx hb d_M_codes_20 (by decide) ?_
  refine lv_istore_n (lv' := [(2, .int 1), (0, .ref a_p0), (1, .int x1)]) hx hb d_M_codes_21 rfl hl (by decide) rfl (fun ls hl => ?_)
  refine lv_iconst (v := 0) hx hb d_M_codes_22 (by decide) ?_
  refine lv_istore_n (lv' := [(3, .int 0), (2, .int 1), (0, .ref a_p0), (1, .int x1)]) hx hb d_M_codes_23 rfl hl (by decide) rfl (fun ls hl => ?_)
  obtain ⟨n1, hw⟩ := hw
  exact l24 n1 _ _ _ I_p0_17 f_p0_file_17 f_p0_many f_p0_start x1 1 0 hP hD hS (lv_sub hl [2, 3, 1, 0] rfl) hw
