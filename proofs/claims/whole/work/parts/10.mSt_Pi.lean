theorem d_St_init_0 : decode b_St_init 0 = .ok (.aload_n 0, 1) := by decide +kernel
theorem d_St_init_1 : decode b_St_init 1 = .ok (.invokespecial 3, 3) := by decide +kernel
theorem d_St_init_4 : decode b_St_init 4 = .ok (.aload_n 0, 1) := by decide +kernel
theorem d_St_init_5 : decode b_St_init 5 = .ok (.sipush 900, 3) := by decide +kernel
theorem d_St_init_8 : decode b_St_init 8 = .ok (.newarray .int, 2) := by decide +kernel
theorem d_St_init_10 : decode b_St_init 10 = .ok (.putfield 9, 3) := by decide +kernel
theorem d_St_init_13 : decode b_St_init 13 = .ok (.return_, 1) := by decide +kernel
def wp_St_init (post : (Nat → Int32) → (Nat → Int32) → Prop) : Prop :=
  post (gi [0, 0, 0]) (fun _ => 0)
set_option maxRecDepth 100000 in
set_option maxHeartbeats 8000000 in
theorem c_St_init (l : Launch) (dC : Nat → ClassId) (dI : Nat → Nat → Nat) (cI : ClassId) (a_p0 : Nat) {post : (Nat → Int32) → (Nat → Int32) → Prop} (hw : wp_St_init post) : gm_v l y_St_init ws_St_init ({ frames := 1, cells := 1, slots := 900, locals := 12 } : Room) (dC, dI) vwCl [(cI, .int)] [.ref a_p0] [(a_p0, .inr (7, [.null, .int 0, .int 0]))] (fun (u : (Nat → Nat) × (Nat → Int32) × (Nat → Int32)) => [oSt a_p0 u.1 u.2.1, gz cI (u.1 0) 900 u.2.2]) (fun (u : (Nat → Nat) × (Nat → Int32) × (Nat → Int32)) => post u.2.1 u.2.2) := by
  refine gm_vof (cc := b_St_init) (maxL := 1) (by decide) rfl (Nat.le_of_ble_eq_true rfl) ?_
  intro p e s m args below meth c A Q hx hb hml hown hg hK hN hA hnm hret
  have hown : s.vm.findClass R_St = some m.cls := hown
  intro ls hl hP hD hS
  have hl : lv_has ls 1 [(0, .ref a_p0)] := hl
  unfold wp_St_init at hw
  refine lv_aload_n hx hb d_St_init_0 rfl (lv_at hl 0 rfl) ?_
  refine W.objInit hx hb hown (hg _ t_87) (hg _ t_80) (hg _ t_81) rfl (by rw [hml]; exact hl.1) rfl d_St_init_1 (Nat.le_of_ble_eq_true rfl) (Nat.le_of_ble_eq_true rfl) ?_
  refine W.eq (g2 := F0 m 4 ls []) rfl ?_
  refine lv_aload_n hx hb d_St_init_4 rfl (lv_at hl 0 rfl) ?_
  refine lv_sipush (v := 900) hx hb d_St_init_5 (by decide) ?_
  refine va_newa (atype := .int) (n := 900) (N' := 900) (ty := .int) (a0 := (900, .inl (fun _ => 0))) hx hb (hg _ t_105) rfl hK hP hD hS hA (fun _ => rfl) (by decide) (by decide) (by decide) (Nat.le_of_ble_eq_true rfl) (Nat.le_of_ble_eq_true rfl) d_St_init_8 (fun a_n8 cA H hK1 hP hD hS => ?_)
  rw [gk_same hK1] at hP hD
  have hP : va_P (dC, dI) vwCl [(a_p0, .inr (7, [.null, .int 0, .int 0])), gz cI a_n8 900 (fun _ => 0)] H := hP
  have hD : va_D A [(a_p0, .inr (7, [.null, .int 0, .int 0])), gz cI a_n8 900 (fun _ => 0)] := hD
  refine va_putF (D := (dC, dI)) (ci := 7) (v := .ref a_n8) (ty := (.array .int)) (C := R_St) (T := T_St) (N := 3) hx hb hg in_St t_St tok_St nok_St hown hK hP hD hS 0 rfl rfl 0 (by decide) (hg _ t_88) (fun _ h9 => h9) rfl hnm rfl (by decide +kernel) rfl rfl (Nat.le_of_ble_eq_true rfl) d_St_init_10 (fun H locs hP hD hS => ?_)
  have hP : va_P (dC, dI) vwCl [(a_p0, .inr (7, [.ref a_n8, .int 0, .int 0])), gz cI a_n8 900 (fun _ => 0)] H := hP
  have hD : va_D A [(a_p0, .inr (7, [.ref a_n8, .int 0, .int 0])), gz cI a_n8 900 (fun _ => 0)] := hD
  exact hret _ _ _ _ ((gl [a_n8, 0, 0]), (gi [0, 0, 0]), (fun _ => 0)) d_St_init_13 (gm_sub hP [0, 1] rfl) (hD.sub [0, 1] (by decide) rfl) hS hw
theorem d_Wk_init_0 : decode b_Wk_init 0 = .ok (.aload_n 0, 1) := by decide +kernel
theorem d_Wk_init_1 : decode b_Wk_init 1 = .ok (.invokespecial 3, 3) := by decide +kernel
theorem d_Wk_init_4 : decode b_Wk_init 4 = .ok (.aload_n 0, 1) := by decide +kernel
theorem d_Wk_init_5 : decode b_Wk_init 5 = .ok (.bipush 8, 2) := by decide +kernel
theorem d_Wk_init_7 : decode b_Wk_init 7 = .ok (.newarray .int, 2) := by decide +kernel
theorem d_Wk_init_9 : decode b_Wk_init 9 = .ok (.putfield 9, 3) := by decide +kernel
theorem d_Wk_init_12 : decode b_Wk_init 12 = .ok (.return_, 1) := by decide +kernel
def wp_Wk_init (post : (Nat → Int32) → (Nat → Int32) → Prop) : Prop :=
  post (gi [0, 0, 0, 0]) (fun _ => 0)
set_option maxRecDepth 100000 in
set_option maxHeartbeats 8000000 in
theorem c_Wk_init (l : Launch) (dC : Nat → ClassId) (dI : Nat → Nat → Nat) (cI : ClassId) (a_p0 : Nat) {post : (Nat → Int32) → (Nat → Int32) → Prop} (hw : wp_Wk_init post) : gm_v l y_Wk_init ws_Wk_init ({ frames := 1, cells := 1, slots := 8, locals := 12 } : Room) (dC, dI) vwCl [(cI, .int)] [.ref a_p0] [(a_p0, .inr (8, [.null, .int 0, .int 0, .int 0]))] (fun (u : (Nat → Nat) × (Nat → Int32) × (Nat → Int32)) => [oWk a_p0 u.1 u.2.1, gz cI (u.1 0) 8 u.2.2]) (fun (u : (Nat → Nat) × (Nat → Int32) × (Nat → Int32)) => post u.2.1 u.2.2) := by
  refine gm_vof (cc := b_Wk_init) (maxL := 1) (by decide) rfl (Nat.le_of_ble_eq_true rfl) ?_
  intro p e s m args below meth c A Q hx hb hml hown hg hK hN hA hnm hret
  have hown : s.vm.findClass R_Wk = some m.cls := hown
  intro ls hl hP hD hS
  have hl : lv_has ls 1 [(0, .ref a_p0)] := hl
  unfold wp_Wk_init at hw
  refine lv_aload_n hx hb d_Wk_init_0 rfl (lv_at hl 0 rfl) ?_
  refine W.objInit hx hb hown (hg _ t_111) (hg _ t_80) (hg _ t_81) rfl (by rw [hml]; exact hl.1) rfl d_Wk_init_1 (Nat.le_of_ble_eq_true rfl) (Nat.le_of_ble_eq_true rfl) ?_
  refine W.eq (g2 := F0 m 4 ls []) rfl ?_
  refine lv_aload_n hx hb d_Wk_init_4 rfl (lv_at hl 0 rfl) ?_
  refine lv_bipush (v := 8) hx hb d_Wk_init_5 (by decide) ?_
  refine va_newa (atype := .int) (n := 8) (N' := 8) (ty := .int) (a0 := (8, .inl (fun _ => 0))) hx hb (hg _ t_105) rfl hK hP hD hS hA (fun _ => rfl) (by decide) (by decide) (by decide) (Nat.le_of_ble_eq_true rfl) (Nat.le_of_ble_eq_true rfl) d_Wk_init_7 (fun a_n7 cA H hK1 hP hD hS => ?_)
  rw [gk_same hK1] at hP hD
  have hP : va_P (dC, dI) vwCl [(a_p0, .inr (8, [.null, .int 0, .int 0, .int 0])), gz cI a_n7 8 (fun _ => 0)] H := hP
  have hD : va_D A [(a_p0, .inr (8, [.null, .int 0, .int 0, .int 0])), gz cI a_n7 8 (fun _ => 0)] := hD
  refine va_putF (D := (dC, dI)) (ci := 8) (v := .ref a_n7) (ty := (.array .int)) (C := R_Wk) (T := T_Wk) (N := 4) hx hb hg in_Wk t_Wk tok_Wk nok_Wk hown hK hP hD hS 0 rfl rfl 0 (by decide) (hg _ t_112) (fun _ h9 => h9) rfl hnm rfl (by decide +kernel) rfl rfl (Nat.le_of_ble_eq_true rfl) d_Wk_init_9 (fun H locs hP hD hS => ?_)
  have hP : va_P (dC, dI) vwCl [(a_p0, .inr (8, [.ref a_n7, .int 0, .int 0, .int 0])), gz cI a_n7 8 (fun _ => 0)] H := hP
  have hD : va_D A [(a_p0, .inr (8, [.ref a_n7, .int 0, .int 0, .int 0])), gz cI a_n7 8 (fun _ => 0)] := hD
  exact hret _ _ _ _ ((gl [a_n7, 0, 0, 0]), (gi [0, 0, 0, 0]), (fun _ => 0)) d_Wk_init_12 (gm_sub hP [0, 1] rfl) (hD.sub [0, 1] (by decide) rfl) hS hw
theorem d_Pi_init_0 : decode b_Pi_init 0 = .ok (.aload_n 0, 1) := by decide +kernel
theorem d_Pi_init_1 : decode b_Pi_init 1 = .ok (.invokespecial 3, 3) := by decide +kernel
theorem d_Pi_init_4 : decode b_Pi_init 4 = .ok (.aload_n 0, 1) := by decide +kernel
theorem d_Pi_init_5 : decode b_Pi_init 5 = .ok (.sipush 256, 3) := by decide +kernel
theorem d_Pi_init_8 : decode b_Pi_init 8 = .ok (.newarray .int, 2) := by decide +kernel
theorem d_Pi_init_10 : decode b_Pi_init 10 = .ok (.putfield 9, 3) := by decide +kernel
theorem d_Pi_init_13 : decode b_Pi_init 13 = .ok (.return_, 1) := by decide +kernel
def wp_Pi_init (post : (Nat → Int32) → (Nat → Int32) → Prop) : Prop :=
  post (gi [0, 0, 0, 0]) (fun _ => 0)
set_option maxRecDepth 100000 in
set_option maxHeartbeats 8000000 in
theorem c_Pi_init (l : Launch) (dC : Nat → ClassId) (dI : Nat → Nat → Nat) (cI : ClassId) (a_p0 : Nat) {post : (Nat → Int32) → (Nat → Int32) → Prop} (hw : wp_Pi_init post) : gm_v l y_Pi_init ws_Pi_init ({ frames := 1, cells := 1, slots := 256, locals := 12 } : Room) (dC, dI) vwCl [(cI, .int)] [.ref a_p0] [(a_p0, .inr (6, [.null, .int 0, .int 0, .int 0]))] (fun (u : (Nat → Nat) × (Nat → Int32) × (Nat → Int32)) => [oPi a_p0 u.1 u.2.1, gz cI (u.1 0) 256 u.2.2]) (fun (u : (Nat → Nat) × (Nat → Int32) × (Nat → Int32)) => post u.2.1 u.2.2) := by
  refine gm_vof (cc := b_Pi_init) (maxL := 1) (by decide) rfl (Nat.le_of_ble_eq_true rfl) ?_
  intro p e s m args below meth c A Q hx hb hml hown hg hK hN hA hnm hret
  have hown : s.vm.findClass R_Pi = some m.cls := hown
  intro ls hl hP hD hS
  have hl : lv_has ls 1 [(0, .ref a_p0)] := hl
  unfold wp_Pi_init at hw
  refine lv_aload_n hx hb d_Pi_init_0 rfl (lv_at hl 0 rfl) ?_
  refine W.objInit hx hb hown (hg _ t_134) (hg _ t_80) (hg _ t_81) rfl (by rw [hml]; exact hl.1) rfl d_Pi_init_1 (Nat.le_of_ble_eq_true rfl) (Nat.le_of_ble_eq_true rfl) ?_
  refine W.eq (g2 := F0 m 4 ls []) rfl ?_
  refine lv_aload_n hx hb d_Pi_init_4 rfl (lv_at hl 0 rfl) ?_
  refine lv_sipush (v := 256) hx hb d_Pi_init_5 (by decide) ?_
  refine va_newa (atype := .int) (n := 256) (N' := 256) (ty := .int) (a0 := (256, .inl (fun _ => 0))) hx hb (hg _ t_105) rfl hK hP hD hS hA (fun _ => rfl) (by decide) (by decide) (by decide) (Nat.le_of_ble_eq_true rfl) (Nat.le_of_ble_eq_true rfl) d_Pi_init_8 (fun a_n8 cA H hK1 hP hD hS => ?_)
  rw [gk_same hK1] at hP hD
  have hP : va_P (dC, dI) vwCl [(a_p0, .inr (6, [.null, .int 0, .int 0, .int 0])), gz cI a_n8 256 (fun _ => 0)] H := hP
  have hD : va_D A [(a_p0, .inr (6, [.null, .int 0, .int 0, .int 0])), gz cI a_n8 256 (fun _ => 0)] := hD
  refine va_putF (D := (dC, dI)) (ci := 6) (v := .ref a_n8) (ty := (.array .int)) (C := R_Pi) (T := T_Pi) (N := 4) hx hb hg in_Pi t_Pi tok_Pi nok_Pi hown hK hP hD hS 0 rfl rfl 0 (by decide) (hg _ t_135) (fun _ h9 => h9) rfl hnm rfl (by decide +kernel) rfl rfl (Nat.le_of_ble_eq_true rfl) d_Pi_init_10 (fun H locs hP hD hS => ?_)
  have hP : va_P (dC, dI) vwCl [(a_p0, .inr (6, [.ref a_n8, .int 0, .int 0, .int 0])), gz cI a_n8 256 (fun _ => 0)] H := hP
  have hD : va_D A [(a_p0, .inr (6, [.ref a_n8, .int 0, .int 0, .int 0])), gz cI a_n8 256 (fun _ => 0)] := hD
  exact hret _ _ _ _ ((gl [a_n8, 0, 0, 0]), (gi [0, 0, 0, 0]), (fun _ => 0)) d_Pi_init_13 (gm_sub hP [0, 1] rfl) (hD.sub [0, 1] (by decide) rfl) hS hw
theorem d_Lb_init_0 : decode b_Lb_init 0 = .ok (.aload_n 0, 1) := by decide +kernel
theorem d_Lb_init_1 : decode b_Lb_init 1 = .ok (.invokespecial 3, 3) := by decide +kernel
theorem d_Lb_init_4 : decode b_Lb_init 4 = .ok (.aload_n 0, 1) := by decide +kernel
theorem d_Lb_init_5 : decode b_Lb_init 5 = .ok (.iconst 2, 1) := by decide +kernel
theorem d_Lb_init_6 : decode b_Lb_init 6 = .ok (.newarray .int, 2) := by decide +kernel
theorem d_Lb_init_8 : decode b_Lb_init 8 = .ok (.putfield 9, 3) := by decide +kernel
theorem d_Lb_init_11 : decode b_Lb_init 11 = .ok (.aload_n 0, 1) := by decide +kernel
theorem d_Lb_init_12 : decode b_Lb_init 12 = .ok (.iconst 2, 1) := by decide +kernel
theorem d_Lb_init_13 : decode b_Lb_init 13 = .ok (.newarray .int, 2) := by decide +kernel
theorem d_Lb_init_15 : decode b_Lb_init 15 = .ok (.putfield 15, 3) := by decide +kernel
theorem d_Lb_init_18 : decode b_Lb_init 18 = .ok (.aload_n 0, 1) := by decide +kernel
theorem d_Lb_init_19 : decode b_Lb_init 19 = .ok (.bipush 24, 2) := by decide +kernel
theorem d_Lb_init_21 : decode b_Lb_init 21 = .ok (.newarray .int, 2) := by decide +kernel
theorem d_Lb_init_23 : decode b_Lb_init 23 = .ok (.putfield 18, 3) := by decide +kernel
theorem d_Lb_init_26 : decode b_Lb_init 26 = .ok (.return_, 1) := by decide +kernel
def wp_Lb_init (post : (Nat → Int32) → (Nat → Int32) → (Nat → Int32) → (Nat → Int32) → Prop) : Prop :=
  post (gi [0, 0, 0, 0]) (fun _ => 0) (fun _ => 0) (fun _ => 0)
set_option maxRecDepth 100000 in
set_option maxHeartbeats 8000000 in
theorem c_Lb_init (l : Launch) (dC : Nat → ClassId) (dI : Nat → Nat → Nat) (cI : ClassId) (a_p0 : Nat) {post : (Nat → Int32) → (Nat → Int32) → (Nat → Int32) → (Nat → Int32) → Prop} (hw : wp_Lb_init post) : gm_v l y_Lb_init ws_Lb_init ({ frames := 1, cells := 3, slots := 28, locals := 12 } : Room) (dC, dI) vwCl [(cI, .int)] [.ref a_p0] [(a_p0, .inr (2, [.null, .null, .null, .int 0]))] (fun (u : (Nat → Nat) × (Nat → Int32) × (Nat → Int32) × (Nat → Int32) × (Nat → Int32)) => [oLb a_p0 u.1 u.2.1, gz cI (u.1 2) 24 u.2.2.1, gz cI (u.1 1) 2 u.2.2.2.1, gz cI (u.1 0) 2 u.2.2.2.2]) (fun (u : (Nat → Nat) × (Nat → Int32) × (Nat → Int32) × (Nat → Int32) × (Nat → Int32)) => post u.2.1 u.2.2.1 u.2.2.2.1 u.2.2.2.2) := by
  refine gm_vof (cc := b_Lb_init) (maxL := 1) (by decide) rfl (Nat.le_of_ble_eq_true rfl) ?_
  intro p e s m args below meth c A Q hx hb hml hown hg hK hN hA hnm hret
  have hown : s.vm.findClass R_Lb = some m.cls := hown
  intro ls hl hP hD hS
  have hl : lv_has ls 1 [(0, .ref a_p0)] := hl
  unfold wp_Lb_init at hw
  refine lv_aload_n hx hb d_Lb_init_0 rfl (lv_at hl 0 rfl) ?_
  refine W.objInit hx hb hown (hg _ t_156) (hg _ t_80) (hg _ t_81) rfl (by rw [hml]; exact hl.1) rfl d_Lb_init_1 (Nat.le_of_ble_eq_true rfl) (Nat.le_of_ble_eq_true rfl) ?_
  refine W.eq (g2 := F0 m 4 ls []) rfl ?_
  refine lv_aload_n hx hb d_Lb_init_4 rfl (lv_at hl 0 rfl) ?_
  refine lv_iconst (v := 2) hx hb d_Lb_init_5 (by decide) ?_
  refine va_newa (atype := .int) (n := 2) (N' := 2) (ty := .int) (a0 := (2, .inl (fun _ => 0))) hx hb (hg _ t_105) rfl hK hP hD hS hA (fun _ => rfl) (by decide) (by decide) (by decide) (Nat.le_of_ble_eq_true rfl) (Nat.le_of_ble_eq_true rfl) d_Lb_init_6 (fun a_n6 cA H hK1 hP hD hS => ?_)
  rw [gk_same hK1] at hP hD
  have hP : va_P (dC, dI) vwCl [(a_p0, .inr (2, [.null, .null, .null, .int 0])), gz cI a_n6 2 (fun _ => 0)] H := hP
  have hD : va_D A [(a_p0, .inr (2, [.null, .null, .null, .int 0])), gz cI a_n6 2 (fun _ => 0)] := hD
  refine va_putF (D := (dC, dI)) (ci := 2) (v := .ref a_n6) (ty := (.array .int)) (C := R_Lb) (T := T_Lb) (N := 4) hx hb hg in_Lb t_Lb tok_Lb nok_Lb hown hK hP hD hS 0 rfl rfl 0 (by decide) (hg _ t_157) (fun _ h9 => h9) rfl hnm rfl (by decide +kernel) rfl rfl (Nat.le_of_ble_eq_true rfl) d_Lb_init_8 (fun H locs hP hD hS => ?_)
  have hP : va_P (dC, dI) vwCl [(a_p0, .inr (2, [.ref a_n6, .null, .null, .int 0])), gz cI a_n6 2 (fun _ => 0)] H := hP
  have hD : va_D A [(a_p0, .inr (2, [.ref a_n6, .null, .null, .int 0])), gz cI a_n6 2 (fun _ => 0)] := hD
  refine lv_aload_n hx hb d_Lb_init_11 rfl (lv_at hl 0 rfl) ?_
  refine lv_iconst (v := 2) hx hb d_Lb_init_12 (by decide) ?_
  refine va_newa (atype := .int) (n := 2) (N' := 2) (ty := .int) (a0 := (2, .inl (fun _ => 0))) hx hb (hg _ t_105) rfl hK hP hD hS hA (fun _ => rfl) (by decide) (by decide) (by decide) (Nat.le_of_ble_eq_true rfl) (Nat.le_of_ble_eq_true rfl) d_Lb_init_13 (fun a_n13 cA H hK1 hP hD hS => ?_)
  rw [gk_same hK1] at hP hD
  have hP : va_P (dC, dI) vwCl [(a_p0, .inr (2, [.ref a_n6, .null, .null, .int 0])), gz cI a_n6 2 (fun _ => 0), gz cI a_n13 2 (fun _ => 0)] H := hP
  have hD : va_D A [(a_p0, .inr (2, [.ref a_n6, .null, .null, .int 0])), gz cI a_n6 2 (fun _ => 0), gz cI a_n13 2 (fun _ => 0)] := hD
  refine va_putF (D := (dC, dI)) (ci := 2) (v := .ref a_n13) (ty := (.array .int)) (C := R_Lb) (T := T_Lb) (N := 4) hx hb hg in_Lb t_Lb tok_Lb nok_Lb hown hK hP hD hS 0 rfl rfl 1 (by decide) (hg _ t_159) (fun _ h9 => h9) rfl hnm rfl (by decide +kernel) rfl rfl (Nat.le_of_ble_eq_true rfl) d_Lb_init_15 (fun H locs hP hD hS => ?_)
  have hP : va_P (dC, dI) vwCl [(a_p0, .inr (2, [.ref a_n6, .ref a_n13, .null, .int 0])), gz cI a_n6 2 (fun _ => 0), gz cI a_n13 2 (fun _ => 0)] H := hP
  have hD : va_D A [(a_p0, .inr (2, [.ref a_n6, .ref a_n13, .null, .int 0])), gz cI a_n6 2 (fun _ => 0), gz cI a_n13 2 (fun _ => 0)] := hD
  refine lv_aload_n hx hb d_Lb_init_18 rfl (lv_at hl 0 rfl) ?_
  refine lv_bipush (v := 24) hx hb d_Lb_init_19 (by decide) ?_
  refine va_newa (atype := .int) (n := 24) (N' := 24) (ty := .int) (a0 := (24, .inl (fun _ => 0))) hx hb (hg _ t_105) rfl hK hP hD hS hA (fun _ => rfl) (by decide) (by decide) (by decide) (Nat.le_of_ble_eq_true rfl) (Nat.le_of_ble_eq_true rfl) d_Lb_init_21 (fun a_n21 cA H hK1 hP hD hS => ?_)
  rw [gk_same hK1] at hP hD
  have hP : va_P (dC, dI) vwCl [(a_p0, .inr (2, [.ref a_n6, .ref a_n13, .null, .int 0])), gz cI a_n6 2 (fun _ => 0), gz cI a_n13 2 (fun _ => 0), gz cI a_n21 24 (fun _ => 0)] H := hP
  have hD : va_D A [(a_p0, .inr (2, [.ref a_n6, .ref a_n13, .null, .int 0])), gz cI a_n6 2 (fun _ => 0), gz cI a_n13 2 (fun _ => 0), gz cI a_n21 24 (fun _ => 0)] := hD
  refine va_putF (D := (dC, dI)) (ci := 2) (v := .ref a_n21) (ty := (.array .int)) (C := R_Lb) (T := T_Lb) (N := 4) hx hb hg in_Lb t_Lb tok_Lb nok_Lb hown hK hP hD hS 0 rfl rfl 2 (by decide) (hg _ t_160) (fun _ h9 => h9) rfl hnm rfl (by decide +kernel) rfl rfl (Nat.le_of_ble_eq_true rfl) d_Lb_init_23 (fun H locs hP hD hS => ?_)
  have hP : va_P (dC, dI) vwCl [(a_p0, .inr (2, [.ref a_n6, .ref a_n13, .ref a_n21, .int 0])), gz cI a_n6 2 (fun _ => 0), gz cI a_n13 2 (fun _ => 0), gz cI a_n21 24 (fun _ => 0)] H := hP
  have hD : va_D A [(a_p0, .inr (2, [.ref a_n6, .ref a_n13, .ref a_n21, .int 0])), gz cI a_n6 2 (fun _ => 0), gz cI a_n13 2 (fun _ => 0), gz cI a_n21 24 (fun _ => 0)] := hD
  exact hret _ _ _ _ ((gl [a_n6, a_n13, a_n21, 0]), (gi [0, 0, 0, 0]), (fun _ => 0), (fun _ => 0), (fun _ => 0)) d_Lb_init_26 (gm_sub hP [0, 3, 2, 1] rfl) (hD.sub [0, 3, 2, 1] (by decide) rfl) hS hw
theorem d_Ly_init_0 : decode b_Ly_init 0 = .ok (.aload_n 0, 1) := by decide +kernel
theorem d_Ly_init_1 : decode b_Ly_init 1 = .ok (.invokespecial 3, 3) := by decide +kernel
theorem d_Ly_init_4 : decode b_Ly_init 4 = .ok (.aload_n 0, 1) := by decide +kernel
theorem d_Ly_init_5 : decode b_Ly_init 5 = .ok (.iconst 1, 1) := by decide +kernel
theorem d_Ly_init_6 : decode b_Ly_init 6 = .ok (.putfield 9, 3) := by decide +kernel
theorem d_Ly_init_9 : decode b_Ly_init 9 = .ok (.aload_n 0, 1) := by decide +kernel
theorem d_Ly_init_10 : decode b_Ly_init 10 = .ok (.iconst 1, 1) := by decide +kernel
theorem d_Ly_init_11 : decode b_Ly_init 11 = .ok (.putfield 15, 3) := by decide +kernel
theorem d_Ly_init_14 : decode b_Ly_init 14 = .ok (.aload_n 0, 1) := by decide +kernel
theorem d_Ly_init_15 : decode b_Ly_init 15 = .ok (.iconst 1, 1) := by decide +kernel
theorem d_Ly_init_16 : decode b_Ly_init 16 = .ok (.putfield 18, 3) := by decide +kernel
theorem d_Ly_init_19 : decode b_Ly_init 19 = .ok (.aload_n 0, 1) := by decide +kernel
theorem d_Ly_init_20 : decode b_Ly_init 20 = .ok (.iconst 1, 1) := by decide +kernel
theorem d_Ly_init_21 : decode b_Ly_init 21 = .ok (.putfield 21, 3) := by decide +kernel
theorem d_Ly_init_24 : decode b_Ly_init 24 = .ok (.aload_n 0, 1) := by decide +kernel
theorem d_Ly_init_25 : decode b_Ly_init 25 = .ok (.iconst 1, 1) := by decide +kernel
theorem d_Ly_init_26 : decode b_Ly_init 26 = .ok (.putfield 24, 3) := by decide +kernel
theorem d_Ly_init_29 : decode b_Ly_init 29 = .ok (.aload_n 0, 1) := by decide +kernel
theorem d_Ly_init_30 : decode b_Ly_init 30 = .ok (.iconst 1, 1) := by decide +kernel
theorem d_Ly_init_31 : decode b_Ly_init 31 = .ok (.putfield 27, 3) := by decide +kernel
theorem d_Ly_init_34 : decode b_Ly_init 34 = .ok (.return_, 1) := by decide +kernel
def wp_Ly_init (post : (Nat → Int32) → Prop) : Prop :=
  post (gi [1, 1, 1, 1, 1, 1])
set_option maxRecDepth 100000 in
set_option maxHeartbeats 8000000 in
theorem c_Ly_init (l : Launch) (dC : Nat → ClassId) (dI : Nat → Nat → Nat) (cI : ClassId) (a_p0 : Nat) {post : (Nat → Int32) → Prop} (hw : wp_Ly_init post) : gm_v l y_Ly_init ws_Ly_init ({ frames := 1, cells := 0, slots := 0, locals := 12 } : Room) (dC, dI) vwCl [(cI, .int)] [.ref a_p0] [(a_p0, .inr (3, [.int 0, .int 0, .int 0, .int 0, .int 0, .int 0]))] (fun (u : (Nat → Int32)) => [oLy a_p0 u]) (fun (u : (Nat → Int32)) => post u) := by
  refine gm_vof (cc := b_Ly_init) (maxL := 1) (by decide) rfl (Nat.le_of_ble_eq_true rfl) ?_
  intro p e s m args below meth c A Q hx hb hml hown hg hK hN hA hnm hret
  have hown : s.vm.findClass R_Ly = some m.cls := hown
  intro ls hl hP hD hS
  have hl : lv_has ls 1 [(0, .ref a_p0)] := hl
  unfold wp_Ly_init at hw
  refine lv_aload_n hx hb d_Ly_init_0 rfl (lv_at hl 0 rfl) ?_
  refine W.objInit hx hb hown (hg _ t_177) (hg _ t_80) (hg _ t_81) rfl (by rw [hml]; exact hl.1) rfl d_Ly_init_1 (Nat.le_of_ble_eq_true rfl) (Nat.le_of_ble_eq_true rfl) ?_
  refine W.eq (g2 := F0 m 4 ls []) rfl ?_
  refine lv_aload_n hx hb d_Ly_init_4 rfl (lv_at hl 0 rfl) ?_
  refine lv_iconst (v := 1) hx hb d_Ly_init_5 (by decide) ?_
  refine va_put (D := (dC, dI)) (ci := 3) (v := .int 1) (ty := .int) (C := R_Ly) (T := T_Ly) (N := 6) hx hb hg in_Ly t_Ly tok_Ly nok_Ly hown hK hP hD hS 0 rfl rfl 0 (by decide) (hg _ t_178) (fun _ h9 => h9) rfl (by decide +kernel) rfl rfl (Nat.le_of_ble_eq_true rfl) d_Ly_init_6 (fun H locs hP hD hS => ?_)
  have hP : va_P (dC, dI) vwCl [(a_p0, .inr (3, [.int 1, .int 0, .int 0, .int 0, .int 0, .int 0]))] H := hP
  have hD : va_D A [(a_p0, .inr (3, [.int 1, .int 0, .int 0, .int 0, .int 0, .int 0]))] := hD
  refine lv_aload_n hx hb d_Ly_init_9 rfl (lv_at hl 0 rfl) ?_
  refine lv_iconst (v := 1) hx hb d_Ly_init_10 (by decide) ?_
  refine va_put (D := (dC, dI)) (ci := 3) (v := .int 1) (ty := .int) (C := R_Ly) (T := T_Ly) (N := 6) hx hb hg in_Ly t_Ly tok_Ly nok_Ly hown hK hP hD hS 0 rfl rfl 1 (by decide) (hg _ t_181) (fun _ h9 => h9) rfl (by decide +kernel) rfl rfl (Nat.le_of_ble_eq_true rfl) d_Ly_init_11 (fun H locs hP hD hS => ?_)
  have hP : va_P (dC, dI) vwCl [(a_p0, .inr (3, [.int 1, .int 1, .int 0, .int 0, .int 0, .int 0]))] H := hP
  have hD : va_D A [(a_p0, .inr (3, [.int 1, .int 1, .int 0, .int 0, .int 0, .int 0]))] := hD
  refine lv_aload_n hx hb d_Ly_init_14 rfl (lv_at hl 0 rfl) ?_
  refine lv_iconst (v := 1) hx hb d_Ly_init_15 (by decide) ?_
  refine va_put (D := (dC, dI)) (ci := 3) (v := .int 1) (ty := .int) (C := R_Ly) (T := T_Ly) (N := 6) hx hb hg in_Ly t_Ly tok_Ly nok_Ly hown hK hP hD hS 0 rfl rfl 2 (by decide) (hg _ t_184) (fun _ h9 => h9) rfl (by decide +kernel) rfl rfl (Nat.le_of_ble_eq_true rfl) d_Ly_init_16 (fun H locs hP hD hS => ?_)
  have hP : va_P (dC, dI) vwCl [(a_p0, .inr (3, [.int 1, .int 1, .int 1, .int 0, .int 0, .int 0]))] H := hP
  have hD : va_D A [(a_p0, .inr (3, [.int 1, .int 1, .int 1, .int 0, .int 0, .int 0]))] := hD
  refine lv_aload_n hx hb d_Ly_init_19 rfl (lv_at hl 0 rfl) ?_
  refine lv_iconst (v := 1) hx hb d_Ly_init_20 (by decide) ?_
  refine va_put (D := (dC, dI)) (ci := 3) (v := .int 1) (ty := .int) (C := R_Ly) (T := T_Ly) (N := 6) hx hb hg in_Ly t_Ly tok_Ly nok_Ly hown hK hP hD hS 0 rfl rfl 3 (by decide) (hg _ t_187) (fun _ h9 => h9) rfl (by decide +kernel) rfl rfl (Nat.le_of_ble_eq_true rfl) d_Ly_init_21 (fun H locs hP hD hS => ?_)
  have hP : va_P (dC, dI) vwCl [(a_p0, .inr (3, [.int 1, .int 1, .int 1, .int 1, .int 0, .int 0]))] H := hP
  have hD : va_D A [(a_p0, .inr (3, [.int 1, .int 1, .int 1, .int 1, .int 0, .int 0]))] := hD
  refine lv_aload_n hx hb d_Ly_init_24 rfl (lv_at hl 0 rfl) ?_
  refine lv_iconst (v := 1) hx hb d_Ly_init_25 (by decide) ?_
  refine va_put (D := (dC, dI)) (ci := 3) (v := .int 1) (ty := .int) (C := R_Ly) (T := T_Ly) (N := 6) hx hb hg in_Ly t_Ly tok_Ly nok_Ly hown hK hP hD hS 0 rfl rfl 4 (by decide) (hg _ t_189) (fun _ h9 => h9) rfl (by decide +kernel) rfl rfl (Nat.le_of_ble_eq_true rfl) d_Ly_init_26 (fun H locs hP hD hS => ?_)
  have hP : va_P (dC, dI) vwCl [(a_p0, .inr (3, [.int 1, .int 1, .int 1, .int 1, .int 1, .int 0]))] H := hP
  have hD : va_D A [(a_p0, .inr (3, [.int 1, .int 1, .int 1, .int 1, .int 1, .int 0]))] := hD
  refine lv_aload_n hx hb d_Ly_init_29 rfl (lv_at hl 0 rfl) ?_
  refine lv_iconst (v := 1) hx hb d_Ly_init_30 (by decide) ?_
  refine va_put (D := (dC, dI)) (ci := 3) (v := .int 1) (ty := .int) (C := R_Ly) (T := T_Ly) (N := 6) hx hb hg in_Ly t_Ly tok_Ly nok_Ly hown hK hP hD hS 0 rfl rfl 5 (by decide) (hg _ t_191) (fun _ h9 => h9) rfl (by decide +kernel) rfl rfl (Nat.le_of_ble_eq_true rfl) d_Ly_init_31 (fun H locs hP hD hS => ?_)
  have hP : va_P (dC, dI) vwCl [(a_p0, .inr (3, [.int 1, .int 1, .int 1, .int 1, .int 1, .int 1]))] H := hP
  have hD : va_D A [(a_p0, .inr (3, [.int 1, .int 1, .int 1, .int 1, .int 1, .int 1]))] := hD
  exact hret _ _ _ _ (gi [1, 1, 1, 1, 1, 1]) d_Ly_init_34 (gm_sub hP [0] rfl) (hD.sub [0] (by decide) rfl) hS hw
theorem d_Da_init_0 : decode b_Da_init 0 = .ok (.aload_n 0, 1) := by decide +kernel
theorem d_Da_init_1 : decode b_Da_init 1 = .ok (.invokespecial 3, 3) := by decide +kernel
theorem d_Da_init_4 : decode b_Da_init 4 = .ok (.aload_n 0, 1) := by decide +kernel
theorem d_Da_init_5 : decode b_Da_init 5 = .ok (.sipush 256, 3) := by decide +kernel
theorem d_Da_init_8 : decode b_Da_init 8 = .ok (.newarray .int, 2) := by decide +kernel
theorem d_Da_init_10 : decode b_Da_init 10 = .ok (.putfield 9, 3) := by decide +kernel
theorem d_Da_init_13 : decode b_Da_init 13 = .ok (.return_, 1) := by decide +kernel
def wp_Da_init (post : (Nat → Int32) → Prop) : Prop :=
  post (fun _ => 0)
set_option maxRecDepth 100000 in
set_option maxHeartbeats 8000000 in
theorem c_Da_init (l : Launch) (dC : Nat → ClassId) (dI : Nat → Nat → Nat) (cI : ClassId) (a_p0 : Nat) {post : (Nat → Int32) → Prop} (hw : wp_Da_init post) : gm_v l y_Da_init ws_Da_init ({ frames := 1, cells := 1, slots := 256, locals := 12 } : Room) (dC, dI) vwCl [(cI, .int)] [.ref a_p0] [(a_p0, .inr (0, [.null]))] (fun (u : (Nat → Nat) × (Nat → Int32)) => [oDa a_p0 u.1, gz cI (u.1 0) 256 u.2]) (fun (u : (Nat → Nat) × (Nat → Int32)) => post u.2) := by
  refine gm_vof (cc := b_Da_init) (maxL := 1) (by decide) rfl (Nat.le_of_ble_eq_true rfl) ?_
  intro p e s m args below meth c A Q hx hb hml hown hg hK hN hA hnm hret
  have hown : s.vm.findClass R_Da = some m.cls := hown
  intro ls hl hP hD hS
  have hl : lv_has ls 1 [(0, .ref a_p0)] := hl
  unfold wp_Da_init at hw
  refine lv_aload_n hx hb d_Da_init_0 rfl (lv_at hl 0 rfl) ?_
  refine W.objInit hx hb hown (hg _ t_212) (hg _ t_80) (hg _ t_81) rfl (by rw [hml]; exact hl.1) rfl d_Da_init_1 (Nat.le_of_ble_eq_true rfl) (Nat.le_of_ble_eq_true rfl) ?_
  refine W.eq (g2 := F0 m 4 ls []) rfl ?_
  refine lv_aload_n hx hb d_Da_init_4 rfl (lv_at hl 0 rfl) ?_
  refine lv_sipush (v := 256) hx hb d_Da_init_5 (by decide) ?_
  refine va_newa (atype := .int) (n := 256) (N' := 256) (ty := .int) (a0 := (256, .inl (fun _ => 0))) hx hb (hg _ t_105) rfl hK hP hD hS hA (fun _ => rfl) (by decide) (by decide) (by decide) (Nat.le_of_ble_eq_true rfl) (Nat.le_of_ble_eq_true rfl) d_Da_init_8 (fun a_n8 cA H hK1 hP hD hS => ?_)
  rw [gk_same hK1] at hP hD
  have hP : va_P (dC, dI) vwCl [(a_p0, .inr (0, [.null])), gz cI a_n8 256 (fun _ => 0)] H := hP
  have hD : va_D A [(a_p0, .inr (0, [.null])), gz cI a_n8 256 (fun _ => 0)] := hD
  refine va_putF (D := (dC, dI)) (ci := 0) (v := .ref a_n8) (ty := (.array .int)) (C := R_Da) (T := T_Da) (N := 1) hx hb hg in_Da t_Da tok_Da nok_Da hown hK hP hD hS 0 rfl rfl 0 (by decide) (hg _ t_213) (fun _ h9 => h9) rfl hnm rfl (by decide +kernel) rfl rfl (Nat.le_of_ble_eq_true rfl) d_Da_init_10 (fun H locs hP hD hS => ?_)
  have hP : va_P (dC, dI) vwCl [(a_p0, .inr (0, [.ref a_n8])), gz cI a_n8 256 (fun _ => 0)] H := hP
  have hD : va_D A [(a_p0, .inr (0, [.ref a_n8])), gz cI a_n8 256 (fun _ => 0)] := hD
  exact hret _ _ _ _ ((gl [a_n8]), (fun _ => 0)) d_Da_init_13 (gm_sub hP [0, 1] rfl) (hD.sub [0, 1] (by decide) rfl) hS hw
theorem d_Ne_init_0 : decode b_Ne_init 0 = .ok (.aload_n 0, 1) := by decide +kernel
theorem d_Ne_init_1 : decode b_Ne_init 1 = .ok (.invokespecial 3, 3) := by decide +kernel
theorem d_Ne_init_4 : decode b_Ne_init 4 = .ok (.aload_n 0, 1) := by decide +kernel
theorem d_Ne_init_5 : decode b_Ne_init 5 = .ok (.bipush 127, 2) := by decide +kernel
theorem d_Ne_init_7 : decode b_Ne_init 7 = .ok (.newarray .int, 2) := by decide +kernel
theorem d_Ne_init_9 : decode b_Ne_init 9 = .ok (.putfield 9, 3) := by decide +kernel
theorem d_Ne_init_12 : decode b_Ne_init 12 = .ok (.aload_n 0, 1) := by decide +kernel
theorem d_Ne_init_13 : decode b_Ne_init 13 = .ok (.bipush 127, 2) := by decide +kernel
theorem d_Ne_init_15 : decode b_Ne_init 15 = .ok (.newarray .int, 2) := by decide +kernel
theorem d_Ne_init_17 : decode b_Ne_init 17 = .ok (.putfield 15, 3) := by decide +kernel
theorem d_Ne_init_20 : decode b_Ne_init 20 = .ok (.aload_n 0, 1) := by decide +kernel
theorem d_Ne_init_21 : decode b_Ne_init 21 = .ok (.bipush 127, 2) := by decide +kernel
theorem d_Ne_init_23 : decode b_Ne_init 23 = .ok (.newarray .int, 2) := by decide +kernel
theorem d_Ne_init_25 : decode b_Ne_init 25 = .ok (.putfield 18, 3) := by decide +kernel
theorem d_Ne_init_28 : decode b_Ne_init 28 = .ok (.return_, 1) := by decide +kernel
def wp_Ne_init (post : (Nat → Int32) → (Nat → Int32) → (Nat → Int32) → (Nat → Int32) → Prop) : Prop :=
  post (gi [0, 0, 0, 0, 0, 0]) (fun _ => 0) (fun _ => 0) (fun _ => 0)
set_option maxRecDepth 100000 in
set_option maxHeartbeats 8000000 in
theorem c_Ne_init (l : Launch) (dC : Nat → ClassId) (dI : Nat → Nat → Nat) (cI : ClassId) (a_p0 : Nat) {post : (Nat → Int32) → (Nat → Int32) → (Nat → Int32) → (Nat → Int32) → Prop} (hw : wp_Ne_init post) : gm_v l y_Ne_init ws_Ne_init ({ frames := 1, cells := 3, slots := 381, locals := 12 } : Room) (dC, dI) vwCl [(cI, .int)] [.ref a_p0] [(a_p0, .inr (5, [.null, .null, .null, .int 0, .int 0, .int 0]))] (fun (u : (Nat → Nat) × (Nat → Int32) × (Nat → Int32) × (Nat → Int32) × (Nat → Int32)) => [oNe a_p0 u.1 u.2.1, gz cI (u.1 0) 127 u.2.2.1, gz cI (u.1 2) 127 u.2.2.2.1, gz cI (u.1 1) 127 u.2.2.2.2]) (fun (u : (Nat → Nat) × (Nat → Int32) × (Nat → Int32) × (Nat → Int32) × (Nat → Int32)) => post u.2.1 u.2.2.1 u.2.2.2.1 u.2.2.2.2) := by
  refine gm_vof (cc := b_Ne_init) (maxL := 1) (by decide) rfl (Nat.le_of_ble_eq_true rfl) ?_
  intro p e s m args below meth c A Q hx hb hml hown hg hK hN hA hnm hret
  have hown : s.vm.findClass R_Ne = some m.cls := hown
  intro ls hl hP hD hS
  have hl : lv_has ls 1 [(0, .ref a_p0)] := hl
  unfold wp_Ne_init at hw
  refine lv_aload_n hx hb d_Ne_init_0 rfl (lv_at hl 0 rfl) ?_
  refine W.objInit hx hb hown (hg _ t_223) (hg _ t_80) (hg _ t_81) rfl (by rw [hml]; exact hl.1) rfl d_Ne_init_1 (Nat.le_of_ble_eq_true rfl) (Nat.le_of_ble_eq_true rfl) ?_
  refine W.eq (g2 := F0 m 4 ls []) rfl ?_
  refine lv_aload_n hx hb d_Ne_init_4 rfl (lv_at hl 0 rfl) ?_
  refine lv_bipush (v := 127) hx hb d_Ne_init_5 (by decide) ?_
  refine va_newa (atype := .int) (n := 127) (N' := 127) (ty := .int) (a0 := (127, .inl (fun _ => 0))) hx hb (hg _ t_105) rfl hK hP hD hS hA (fun _ => rfl) (by decide) (by decide) (by decide) (Nat.le_of_ble_eq_true rfl) (Nat.le_of_ble_eq_true rfl) d_Ne_init_7 (fun a_n7 cA H hK1 hP hD hS => ?_)
  rw [gk_same hK1] at hP hD
  have hP : va_P (dC, dI) vwCl [(a_p0, .inr (5, [.null, .null, .null, .int 0, .int 0, .int 0])), gz cI a_n7 127 (fun _ => 0)] H := hP
  have hD : va_D A [(a_p0, .inr (5, [.null, .null, .null, .int 0, .int 0, .int 0])), gz cI a_n7 127 (fun _ => 0)] := hD
  refine va_putF (D := (dC, dI)) (ci := 5) (v := .ref a_n7) (ty := (.array .int)) (C := R_Ne) (T := T_Ne) (N := 6) hx hb hg in_Ne t_Ne tok_Ne nok_Ne hown hK hP hD hS 0 rfl rfl 0 (by decide) (hg _ t_224) (fun _ h9 => h9) rfl hnm rfl (by decide +kernel) rfl rfl (Nat.le_of_ble_eq_true rfl) d_Ne_init_9 (fun H locs hP hD hS => ?_)
  have hP : va_P (dC, dI) vwCl [(a_p0, .inr (5, [.ref a_n7, .null, .null, .int 0, .int 0, .int 0])), gz cI a_n7 127 (fun _ => 0)] H := hP
  have hD : va_D A [(a_p0, .inr (5, [.ref a_n7, .null, .null, .int 0, .int 0, .int 0])), gz cI a_n7 127 (fun _ => 0)] := hD
  refine lv_aload_n hx hb d_Ne_init_12 rfl (lv_at hl 0 rfl) ?_
  refine lv_bipush (v := 127) hx hb d_Ne_init_13 (by decide) ?_
  refine va_newa (atype := .int) (n := 127) (N' := 127) (ty := .int) (a0 := (127, .inl (fun _ => 0))) hx hb (hg _ t_105) rfl hK hP hD hS hA (fun _ => rfl) (by decide) (by decide) (by decide) (Nat.le_of_ble_eq_true rfl) (Nat.le_of_ble_eq_true rfl) d_Ne_init_15 (fun a_n15 cA H hK1 hP hD hS => ?_)
  rw [gk_same hK1] at hP hD
  have hP : va_P (dC, dI) vwCl [(a_p0, .inr (5, [.ref a_n7, .null, .null, .int 0, .int 0, .int 0])), gz cI a_n7 127 (fun _ => 0), gz cI a_n15 127 (fun _ => 0)] H := hP
  have hD : va_D A [(a_p0, .inr (5, [.ref a_n7, .null, .null, .int 0, .int 0, .int 0])), gz cI a_n7 127 (fun _ => 0), gz cI a_n15 127 (fun _ => 0)] := hD
  refine va_putF (D := (dC, dI)) (ci := 5) (v := .ref a_n15) (ty := (.array .int)) (C := R_Ne) (T := T_Ne) (N := 6) hx hb hg in_Ne t_Ne tok_Ne nok_Ne hown hK hP hD hS 0 rfl rfl 1 (by decide) (hg _ t_225) (fun _ h9 => h9) rfl hnm rfl (by decide +kernel) rfl rfl (Nat.le_of_ble_eq_true rfl) d_Ne_init_17 (fun H locs hP hD hS => ?_)
  have hP : va_P (dC, dI) vwCl [(a_p0, .inr (5, [.ref a_n7, .ref a_n15, .null, .int 0, .int 0, .int 0])), gz cI a_n7 127 (fun _ => 0), gz cI a_n15 127 (fun _ => 0)] H := hP
  have hD : va_D A [(a_p0, .inr (5, [.ref a_n7, .ref a_n15, .null, .int 0, .int 0, .int 0])), gz cI a_n7 127 (fun _ => 0), gz cI a_n15 127 (fun _ => 0)] := hD
  refine lv_aload_n hx hb d_Ne_init_20 rfl (lv_at hl 0 rfl) ?_
  refine lv_bipush (v := 127) hx hb d_Ne_init_21 (by decide) ?_
  refine va_newa (atype := .int) (n := 127) (N' := 127) (ty := .int) (a0 := (127, .inl (fun _ => 0))) hx hb (hg _ t_105) rfl hK hP hD hS hA (fun _ => rfl) (by decide) (by decide) (by decide) (Nat.le_of_ble_eq_true rfl) (Nat.le_of_ble_eq_true rfl) d_Ne_init_23 (fun a_n23 cA H hK1 hP hD hS => ?_)
  rw [gk_same hK1] at hP hD
  have hP : va_P (dC, dI) vwCl [(a_p0, .inr (5, [.ref a_n7, .ref a_n15, .null, .int 0, .int 0, .int 0])), gz cI a_n7 127 (fun _ => 0), gz cI a_n15 127 (fun _ => 0), gz cI a_n23 127 (fun _ => 0)] H := hP
  have hD : va_D A [(a_p0, .inr (5, [.ref a_n7, .ref a_n15, .null, .int 0, .int 0, .int 0])), gz cI a_n7 127 (fun _ => 0), gz cI a_n15 127 (fun _ => 0), gz cI a_n23 127 (fun _ => 0)] := hD
  refine va_putF (D := (dC, dI)) (ci := 5) (v := .ref a_n23) (ty := (.array .int)) (C := R_Ne) (T := T_Ne) (N := 6) hx hb hg in_Ne t_Ne tok_Ne nok_Ne hown hK hP hD hS 0 rfl rfl 2 (by decide) (hg _ t_226) (fun _ h9 => h9) rfl hnm rfl (by decide +kernel) rfl rfl (Nat.le_of_ble_eq_true rfl) d_Ne_init_25 (fun H locs hP hD hS => ?_)
  have hP : va_P (dC, dI) vwCl [(a_p0, .inr (5, [.ref a_n7, .ref a_n15, .ref a_n23, .int 0, .int 0, .int 0])), gz cI a_n7 127 (fun _ => 0), gz cI a_n15 127 (fun _ => 0), gz cI a_n23 127 (fun _ => 0)] H := hP
  have hD : va_D A [(a_p0, .inr (5, [.ref a_n7, .ref a_n15, .ref a_n23, .int 0, .int 0, .int 0])), gz cI a_n7 127 (fun _ => 0), gz cI a_n15 127 (fun _ => 0), gz cI a_n23 127 (fun _ => 0)] := hD
  exact hret _ _ _ _ ((gl [a_n7, a_n15, a_n23, 0, 0, 0]), (gi [0, 0, 0, 0, 0, 0]), (fun _ => 0), (fun _ => 0), (fun _ => 0)) d_Ne_init_28 (gm_sub hP [0, 1, 3, 2] rfl) (hD.sub [0, 1, 3, 2] (by decide) rfl) hS hw
theorem d_Nd_init_0 : decode b_Nd_init 0 = .ok (.aload_n 0, 1) := by decide +kernel
theorem d_Nd_init_1 : decode b_Nd_init 1 = .ok (.invokespecial 3, 3) := by decide +kernel
theorem d_Nd_init_4 : decode b_Nd_init 4 = .ok (.aload_n 0, 1) := by decide +kernel
theorem d_Nd_init_5 : decode b_Nd_init 5 = .ok (.bipush 110, 2) := by decide +kernel
theorem d_Nd_init_7 : decode b_Nd_init 7 = .ok (.newarray .int, 2) := by decide +kernel
theorem d_Nd_init_9 : decode b_Nd_init 9 = .ok (.putfield 9, 3) := by decide +kernel
theorem d_Nd_init_12 : decode b_Nd_init 12 = .ok (.aload_n 0, 1) := by decide +kernel
theorem d_Nd_init_13 : decode b_Nd_init 13 = .ok (.bipush 110, 2) := by decide +kernel
theorem d_Nd_init_15 : decode b_Nd_init 15 = .ok (.newarray .int, 2) := by decide +kernel
theorem d_Nd_init_17 : decode b_Nd_init 17 = .ok (.putfield 15, 3) := by decide +kernel
theorem d_Nd_init_20 : decode b_Nd_init 20 = .ok (.return_, 1) := by decide +kernel
def wp_Nd_init (post : (Nat → Int32) → (Nat → Int32) → (Nat → Int32) → Prop) : Prop :=
  post (gi [0, 0, 0]) (fun _ => 0) (fun _ => 0)
set_option maxRecDepth 100000 in
set_option maxHeartbeats 8000000 in
theorem c_Nd_init (l : Launch) (dC : Nat → ClassId) (dI : Nat → Nat → Nat) (cI : ClassId) (a_p0 : Nat) {post : (Nat → Int32) → (Nat → Int32) → (Nat → Int32) → Prop} (hw : wp_Nd_init post) : gm_v l y_Nd_init ws_Nd_init ({ frames := 1, cells := 2, slots := 220, locals := 12 } : Room) (dC, dI) vwCl [(cI, .int)] [.ref a_p0] [(a_p0, .inr (4, [.null, .null, .int 0]))] (fun (u : (Nat → Nat) × (Nat → Int32) × (Nat → Int32) × (Nat → Int32)) => [oNd a_p0 u.1 u.2.1, gz cI (u.1 1) 110 u.2.2.1, gz cI (u.1 0) 110 u.2.2.2]) (fun (u : (Nat → Nat) × (Nat → Int32) × (Nat → Int32) × (Nat → Int32)) => post u.2.1 u.2.2.1 u.2.2.2) := by
  refine gm_vof (cc := b_Nd_init) (maxL := 1) (by decide) rfl (Nat.le_of_ble_eq_true rfl) ?_
  intro p e s m args below meth c A Q hx hb hml hown hg hK hN hA hnm hret
  have hown : s.vm.findClass R_Nd = some m.cls := hown
  intro ls hl hP hD hS
  have hl : lv_has ls 1 [(0, .ref a_p0)] := hl
  unfold wp_Nd_init at hw
  refine lv_aload_n hx hb d_Nd_init_0 rfl (lv_at hl 0 rfl) ?_
  refine W.objInit hx hb hown (hg _ t_248) (hg _ t_80) (hg _ t_81) rfl (by rw [hml]; exact hl.1) rfl d_Nd_init_1 (Nat.le_of_ble_eq_true rfl) (Nat.le_of_ble_eq_true rfl) ?_
  refine W.eq (g2 := F0 m 4 ls []) rfl ?_
  refine lv_aload_n hx hb d_Nd_init_4 rfl (lv_at hl 0 rfl) ?_
  refine lv_bipush (v := 110) hx hb d_Nd_init_5 (by decide) ?_
  refine va_newa (atype := .int) (n := 110) (N' := 110) (ty := .int) (a0 := (110, .inl (fun _ => 0))) hx hb (hg _ t_105) rfl hK hP hD hS hA (fun _ => rfl) (by decide) (by decide) (by decide) (Nat.le_of_ble_eq_true rfl) (Nat.le_of_ble_eq_true rfl) d_Nd_init_7 (fun a_n7 cA H hK1 hP hD hS => ?_)
  rw [gk_same hK1] at hP hD
  have hP : va_P (dC, dI) vwCl [(a_p0, .inr (4, [.null, .null, .int 0])), gz cI a_n7 110 (fun _ => 0)] H := hP
  have hD : va_D A [(a_p0, .inr (4, [.null, .null, .int 0])), gz cI a_n7 110 (fun _ => 0)] := hD
  refine va_putF (D := (dC, dI)) (ci := 4) (v := .ref a_n7) (ty := (.array .int)) (C := R_Nd) (T := T_Nd) (N := 3) hx hb hg in_Nd t_Nd tok_Nd nok_Nd hown hK hP hD hS 0 rfl rfl 0 (by decide) (hg _ t_249) (fun _ h9 => h9) rfl hnm rfl (by decide +kernel) rfl rfl (Nat.le_of_ble_eq_true rfl) d_Nd_init_9 (fun H locs hP hD hS => ?_)
  have hP : va_P (dC, dI) vwCl [(a_p0, .inr (4, [.ref a_n7, .null, .int 0])), gz cI a_n7 110 (fun _ => 0)] H := hP
  have hD : va_D A [(a_p0, .inr (4, [.ref a_n7, .null, .int 0])), gz cI a_n7 110 (fun _ => 0)] := hD
  refine lv_aload_n hx hb d_Nd_init_12 rfl (lv_at hl 0 rfl) ?_
  refine lv_bipush (v := 110) hx hb d_Nd_init_13 (by decide) ?_
  refine va_newa (atype := .int) (n := 110) (N' := 110) (ty := .int) (a0 := (110, .inl (fun _ => 0))) hx hb (hg _ t_105) rfl hK hP hD hS hA (fun _ => rfl) (by decide) (by decide) (by decide) (Nat.le_of_ble_eq_true rfl) (Nat.le_of_ble_eq_true rfl) d_Nd_init_15 (fun a_n15 cA H hK1 hP hD hS => ?_)
  rw [gk_same hK1] at hP hD
  have hP : va_P (dC, dI) vwCl [(a_p0, .inr (4, [.ref a_n7, .null, .int 0])), gz cI a_n7 110 (fun _ => 0), gz cI a_n15 110 (fun _ => 0)] H := hP
  have hD : va_D A [(a_p0, .inr (4, [.ref a_n7, .null, .int 0])), gz cI a_n7 110 (fun _ => 0), gz cI a_n15 110 (fun _ => 0)] := hD
  refine va_putF (D := (dC, dI)) (ci := 4) (v := .ref a_n15) (ty := (.array .int)) (C := R_Nd) (T := T_Nd) (N := 3) hx hb hg in_Nd t_Nd tok_Nd nok_Nd hown hK hP hD hS 0 rfl rfl 1 (by decide) (hg _ t_250) (fun _ h9 => h9) rfl hnm rfl (by decide +kernel) rfl rfl (Nat.le_of_ble_eq_true rfl) d_Nd_init_17 (fun H locs hP hD hS => ?_)
  have hP : va_P (dC, dI) vwCl [(a_p0, .inr (4, [.ref a_n7, .ref a_n15, .int 0])), gz cI a_n7 110 (fun _ => 0), gz cI a_n15 110 (fun _ => 0)] H := hP
  have hD : va_D A [(a_p0, .inr (4, [.ref a_n7, .ref a_n15, .int 0])), gz cI a_n7 110 (fun _ => 0), gz cI a_n15 110 (fun _ => 0)] := hD
  exact hret _ _ _ _ ((gl [a_n7, a_n15, 0]), (gi [0, 0, 0]), (fun _ => 0), (fun _ => 0)) d_Nd_init_20 (gm_sub hP [0, 2, 1] rfl) (hD.sub [0, 2, 1] (by decide) rfl) hS hw
theorem d_En_init_0 : decode b_En_init 0 = .ok (.aload_n 0, 1) := by decide +kernel
theorem d_En_init_1 : decode b_En_init 1 = .ok (.invokespecial 3, 3) := by decide +kernel
theorem d_En_init_4 : decode b_En_init 4 = .ok (.return_, 1) := by decide +kernel
def wp_En_init (post : (Nat → Int32) → (Nat → Int64) → Prop) : Prop :=
  post (gi [0, 0, 0, 0]) (gj [0, 0, 0, 0])
set_option maxRecDepth 100000 in
set_option maxHeartbeats 8000000 in
theorem c_En_init (l : Launch) (dC : Nat → ClassId) (dI : Nat → Nat → Nat) (cI : ClassId) (a_p0 : Nat) {post : (Nat → Int32) → (Nat → Int64) → Prop} (hw : wp_En_init post) : gm_v l y_En_init ws_En_init ({ frames := 1, cells := 0, slots := 0, locals := 12 } : Room) (dC, dI) vwCl [(cI, .int)] [.ref a_p0] [(a_p0, .inr (1, [.int 0, .long 0, .long 0, .int 0]))] (fun (u : (Nat → Int32) × (Nat → Int64)) => [oEn a_p0 u.1 u.2]) (fun (u : (Nat → Int32) × (Nat → Int64)) => post u.1 u.2) := by
  refine gm_vof (cc := b_En_init) (maxL := 1) (by decide) rfl (Nat.le_of_ble_eq_true rfl) ?_
  intro p e s m args below meth c A Q hx hb hml hown hg hK hN hA hnm hret
  have hown : s.vm.findClass R_En = some m.cls := hown
  intro ls hl hP hD hS
  have hl : lv_has ls 1 [(0, .ref a_p0)] := hl
  unfold wp_En_init at hw
  refine lv_aload_n hx hb d_En_init_0 rfl (lv_at hl 0 rfl) ?_
  refine W.objInit hx hb hown (hg _ t_264) (hg _ t_80) (hg _ t_81) rfl (by rw [hml]; exact hl.1) rfl d_En_init_1 (Nat.le_of_ble_eq_true rfl) (Nat.le_of_ble_eq_true rfl) ?_
  refine W.eq (g2 := F0 m 4 ls []) rfl ?_
  exact hret _ _ _ _ ((gi [0, 0, 0, 0]), (gj [0, 0, 0, 0])) d_En_init_4 (gm_sub hP [0] rfl) (hD.sub [0] (by decide) rfl) hS hw
theorem d_St_append_0 : decode b_St_append 0 = .ok (.aload_n 0, 1) := by decide +kernel
theorem d_St_append_1 : decode b_St_append 1 = .ok (.getfield 15, 3) := by decide +kernel
theorem d_St_append_4 : decode b_St_append 4 = .ok (.sipush 900, 3) := by decide +kernel
theorem d_St_append_7 : decode b_St_append 7 = .ok (.if_icmp .ge 13, 3) := by decide +kernel
theorem d_St_append_10 : decode b_St_append 10 = .ok (.aload_n 0, 1) := by decide +kernel
theorem d_St_append_11 : decode b_St_append 11 = .ok (.getfield 9, 3) := by decide +kernel
theorem d_St_append_14 : decode b_St_append 14 = .ok (.aload_n 0, 1) := by decide +kernel
theorem d_St_append_15 : decode b_St_append 15 = .ok (.getfield 15, 3) := by decide +kernel
theorem d_St_append_18 : decode b_St_append 18 = .ok (.iload_n 1, 1) := by decide +kernel
theorem d_St_append_19 : decode b_St_append 19 = .ok (.iastore, 1) := by decide +kernel
theorem d_St_append_20 : decode b_St_append 20 = .ok (.aload_n 0, 1) := by decide +kernel
theorem d_St_append_21 : decode b_St_append 21 = .ok (.dup, 1) := by decide +kernel
theorem d_St_append_22 : decode b_St_append 22 = .ok (.getfield 15, 3) := by decide +kernel
theorem d_St_append_25 : decode b_St_append 25 = .ok (.iconst 1, 1) := by decide +kernel
theorem d_St_append_26 : decode b_St_append 26 = .ok (.iadd, 1) := by decide +kernel
theorem d_St_append_27 : decode b_St_append 27 = .ok (.putfield 15, 3) := by decide +kernel
theorem d_St_append_30 : decode b_St_append 30 = .ok (.return_, 1) := by decide +kernel
def wp_St_append_b20 (post : (Nat → Int32) → (Nat → Int32) → Prop) (I_p0 : Nat → Int32) (f_p0_bytes : Nat → Int32) : Prop :=
  post (upd I_p0 2 ((I_p0 2) + 1)) f_p0_bytes
def wp_St_append (post : (Nat → Int32) → (Nat → Int32) → Prop) (I_p0 : Nat → Int32) (f_p0_bytes : Nat → Int32) (x1 : Int32) : Prop :=
  ((900 ≤ (I_p0 2) →
    wp_St_append_b20 post I_p0 f_p0_bytes) ∧
   (¬ 900 ≤ (I_p0 2) →
    vp_in (I_p0 2) 900 ∧
    wp_St_append_b20 post I_p0 (upd f_p0_bytes (I_p0 2).toNatClampNeg x1)))
set_option maxRecDepth 100000 in
set_option maxHeartbeats 4000000 in
theorem c_St_append (l : Launch) (dC : Nat → ClassId) (dI : Nat → Nat → Nat) (cI : ClassId) (a_p0 : Nat) (A_p0 : Nat → Nat) (I_p0 : Nat → Int32) (f_p0_bytes : Nat → Int32) (x1 : Int32) {post : (Nat → Int32) → (Nat → Int32) → Prop} (hw : wp_St_append post I_p0 f_p0_bytes x1) : gm_v l y_St_append ws_St_append ({ frames := 0, cells := 0, slots := 0, locals := 0 } : Room) (dC, dI) vwCl [(cI, .int)] [.ref a_p0, .int x1] [oSt a_p0 A_p0 I_p0, gz cI (A_p0 0) 900 f_p0_bytes] (fun (u : (Nat → Int32) × (Nat → Int32)) => [oSt a_p0 A_p0 u.1, gz cI (A_p0 0) 900 u.2]) (fun (u : (Nat → Int32) × (Nat → Int32)) => post  u.1 u.2) := by
  refine gm_vof (cc := b_St_append) (maxL := 2) (by decide) rfl (Nat.le_of_ble_eq_true rfl) ?_
  intro p e s m args below meth c A Q hx hb hml hown hg hK hN hA hnm hret
  have hown : s.vm.findClass R_St = some m.cls := hown
  have b20 : ∀ (H : Heap) (locs : List Loc) (ls : Array Slot) (I_p0 : Nat → Int32) (f_p0_bytes : Nat → Int32), va_P (dC, dI) vwCl [oSt a_p0 A_p0 I_p0, gz cI (A_p0 0) 900 f_p0_bytes] H → va_D A [oSt a_p0 A_p0 I_p0, gz cI (A_p0 0) 900 f_p0_bytes] → va_S A s.heap H locs → lv_has ls 2 [(0, .ref a_p0)] → wp_St_append_b20 post I_p0 f_p0_bytes → W p l e ({ frames := 0, cells := 0, slots := 0, locals := 0 } : Room) s m args below meth c H locs 0 0 Q (F0 m 20 ls []) := by
    intro H locs ls I_p0 f_p0_bytes hP hD hS hl hw
    unfold wp_St_append_b20 at hw
    refine lv_aload_n hx hb d_St_append_20 rfl (lv_at hl 0 rfl) ?_
    refine lv_dup hx hb d_St_append_21 rfl ?_
    refine va_get (D := (dC, dI)) (ci := 7) (v := .int (I_p0 2)) (C := R_St) (T := T_St) (N := 3) hx hb hg in_St hown hK hP 0 rfl rfl 2 (by decide) (hg _ t_96) (fun _ h9 => h9) rfl d_St_append_22 ?_
    refine lv_iconst (v := 1) hx hb d_St_append_25 (by decide) ?_
    refine lv_iadd hx hb d_St_append_26 ?_
    refine va_put (D := (dC, dI)) (ci := 7) (v := .int ((I_p0 2) + 1)) (ty := .int) (C := R_St) (T := T_St) (N := 3) hx hb hg in_St t_St tok_St nok_St hown hK hP hD hS 0 rfl rfl 2 (by decide) (hg _ t_96) (fun _ h9 => h9) rfl (by decide +kernel) rfl rfl (Nat.le_of_ble_eq_true rfl) d_St_append_27 (fun H locs hP hD hS => ?_)
    have hP : va_P (dC, dI) vwCl [oSt a_p0 A_p0 (upd I_p0 2 ((I_p0 2) + 1)), gz cI (A_p0 0) 900 f_p0_bytes] H := hP
    have hD : va_D A [oSt a_p0 A_p0 (upd I_p0 2 ((I_p0 2) + 1)), gz cI (A_p0 0) 900 f_p0_bytes] := hD
    exact hret _ _ _ _ ((upd I_p0 2 ((I_p0 2) + 1)), f_p0_bytes) d_St_append_30 hP hD hS hw
  intro ls hl hP hD hS
  have hl : lv_has ls 2 [(0, .ref a_p0), (1, .int x1)] := hl
  unfold wp_St_append at hw
  refine lv_aload_n hx hb d_St_append_0 rfl (lv_at hl 0 rfl) ?_
  refine va_get (D := (dC, dI)) (ci := 7) (v := .int (I_p0 2)) (C := R_St) (T := T_St) (N := 3) hx hb hg in_St hown hK hP 0 rfl rfl 2 (by decide) (hg _ t_96) (fun _ h9 => h9) rfl d_St_append_1 ?_
  refine lv_sipush (v := 900) hx hb d_St_append_4 (by decide) ?_
  refine lv_icmp_ge hx hb d_St_append_7 rfl (fun hc => ?_) (fun hc => ?_)
  · have hw := hw.1 hc
    exact b20 _ _ _ I_p0 f_p0_bytes hP hD hS (lv_sub hl [0] rfl) hw
  · have hw := hw.2 hc
    refine lv_aload_n hx hb d_St_append_10 rfl (lv_at hl 0 rfl) ?_
    refine va_get (D := (dC, dI)) (ci := 7) (v := .ref (A_p0 0)) (C := R_St) (T := T_St) (N := 3) hx hb hg in_St hown hK hP 0 rfl rfl 0 (by decide) (hg _ t_88) (fun _ h9 => h9) rfl d_St_append_11 ?_
    refine lv_aload_n hx hb d_St_append_14 rfl (lv_at hl 0 rfl) ?_
    refine va_get (D := (dC, dI)) (ci := 7) (v := .int (I_p0 2)) (C := R_St) (T := T_St) (N := 3) hx hb hg in_St hown hK hP 0 rfl rfl 2 (by decide) (hg _ t_96) (fun _ h9 => h9) rfl d_St_append_15 ?_
    refine lv_iload_n hx hb d_St_append_18 rfl (lv_at hl 1 rfl) ?_
    obtain ⟨hin, hw⟩ := hw
    refine va_iast hx hb hK hP hD hS 1 0 rfl rfl hin d_St_append_19 (fun H locs hP hD hS => ?_)
    have hP : va_P (dC, dI) vwCl [oSt a_p0 A_p0 I_p0, gz cI (A_p0 0) 900 (upd f_p0_bytes (I_p0 2).toNatClampNeg x1)] H := hP
    have hD : va_D A [oSt a_p0 A_p0 I_p0, gz cI (A_p0 0) 900 (upd f_p0_bytes (I_p0 2).toNatClampNeg x1)] := hD
    exact b20 _ _ _ I_p0 (upd f_p0_bytes (I_p0 2).toNatClampNeg x1) hP hD hS (lv_sub hl [0] rfl) hw
theorem d_St_appendShort_0 : decode b_St_appendShort 0 = .ok (.aload_n 0, 1) := by decide +kernel
theorem d_St_appendShort_1 : decode b_St_appendShort 1 = .ok (.getfield 9, 3) := by decide +kernel
theorem d_St_appendShort_4 : decode b_St_appendShort 4 = .ok (.iconst 0, 1) := by decide +kernel
theorem d_St_appendShort_5 : decode b_St_appendShort 5 = .ok (.iaload, 1) := by decide +kernel
theorem d_St_appendShort_6 : decode b_St_appendShort 6 = .ok (.bipush 77, 2) := by decide +kernel
theorem d_St_appendShort_8 : decode b_St_appendShort 8 = .ok (.if_icmp .ne 7, 3) := by decide +kernel
theorem d_St_appendShort_11 : decode b_St_appendShort 11 = .ok (.iconst 1, 1) := by decide +kernel
theorem d_St_appendShort_12 : decode b_St_appendShort 12 = .ok (.goto 4, 3) := by decide +kernel
theorem d_St_appendShort_15 : decode b_St_appendShort 15 = .ok (.iconst 0, 1) := by decide +kernel
theorem d_St_appendShort_16 : decode b_St_appendShort 16 = .ok (.istore_n 2, 1) := by decide +kernel
theorem d_St_appendShort_17 : decode b_St_appendShort 17 = .ok (.aload_n 0, 1) := by decide +kernel
theorem d_St_appendShort_18 : decode b_St_appendShort 18 = .ok (.iload_n 2, 1) := by decide +kernel
theorem d_St_appendShort_19 : decode b_St_appendShort 19 = .ok (.ifCond .eq 10, 3) := by decide +kernel
theorem d_St_appendShort_22 : decode b_St_appendShort 22 = .ok (.iload_n 1, 1) := by decide +kernel
theorem d_St_appendShort_23 : decode b_St_appendShort 23 = .ok (.bipush 8, 2) := by decide +kernel
theorem d_St_appendShort_25 : decode b_St_appendShort 25 = .ok (.ishr, 1) := by decide +kernel
theorem d_St_appendShort_26 : decode b_St_appendShort 26 = .ok (.goto 4, 3) := by decide +kernel
theorem d_St_appendShort_29 : decode b_St_appendShort 29 = .ok (.iload_n 1, 1) := by decide +kernel
theorem d_St_appendShort_30 : decode b_St_appendShort 30 = .ok (.sipush 255, 3) := by decide +kernel
theorem d_St_appendShort_33 : decode b_St_appendShort 33 = .ok (.iand, 1) := by decide +kernel
theorem d_St_appendShort_34 : decode b_St_appendShort 34 = .ok (.invokevirtual 19, 3) := by decide +kernel
theorem d_St_appendShort_37 : decode b_St_appendShort 37 = .ok (.aload_n 0, 1) := by decide +kernel
theorem d_St_appendShort_38 : decode b_St_appendShort 38 = .ok (.iload_n 2, 1) := by decide +kernel
theorem d_St_appendShort_39 : decode b_St_appendShort 39 = .ok (.ifCond .eq 7, 3) := by decide +kernel
theorem d_St_appendShort_42 : decode b_St_appendShort 42 = .ok (.iload_n 1, 1) := by decide +kernel
theorem d_St_appendShort_43 : decode b_St_appendShort 43 = .ok (.goto 7, 3) := by decide +kernel
theorem d_St_appendShort_46 : decode b_St_appendShort 46 = .ok (.iload_n 1, 1) := by decide +kernel
theorem d_St_appendShort_47 : decode b_St_appendShort 47 = .ok (.bipush 8, 2) := by decide +kernel
theorem d_St_appendShort_49 : decode b_St_appendShort 49 = .ok (.ishr, 1) := by decide +kernel
theorem d_St_appendShort_50 : decode b_St_appendShort 50 = .ok (.sipush 255, 3) := by decide +kernel
theorem d_St_appendShort_53 : decode b_St_appendShort 53 = .ok (.iand, 1) := by decide +kernel
theorem d_St_appendShort_54 : decode b_St_appendShort 54 = .ok (.invokevirtual 19, 3) := by decide +kernel
theorem d_St_appendShort_57 : decode b_St_appendShort 57 = .ok (.return_, 1) := by decide +kernel
def wp_St_appendShort_b50 (post : (Nat → Int32) → (Nat → Int32) → Prop) (I_p0 : Nat → Int32) (f_p0_bytes : Nat → Int32) (s0 : Int32) : Prop :=
  wp_St_append (fun (I_p0_54 : Nat → Int32) (f_p0_bytes_54 : Nat → Int32) =>
    post I_p0_54 f_p0_bytes_54) I_p0 f_p0_bytes (s0 &&& 255)
def wp_St_appendShort_b30 (post : (Nat → Int32) → (Nat → Int32) → Prop) (I_p0 : Nat → Int32) (f_p0_bytes : Nat → Int32) (x1 : Int32) (x2 : Int32) (s0 : Int32) : Prop :=
  wp_St_append (fun (I_p0_34 : Nat → Int32) (f_p0_bytes_34 : Nat → Int32) =>
    ((x2 = 0 →
      wp_St_appendShort_b50 post I_p0_34 f_p0_bytes_34 (x1 >>> (8 &&& 31))) ∧
     (¬ x2 = 0 →
      wp_St_appendShort_b50 post I_p0_34 f_p0_bytes_34 x1))) I_p0 f_p0_bytes (s0 &&& 255)
def wp_St_appendShort_b16 (post : (Nat → Int32) → (Nat → Int32) → Prop) (I_p0 : Nat → Int32) (f_p0_bytes : Nat → Int32) (x1 : Int32) (s0 : Int32) : Prop :=
  ((s0 = 0 →
    wp_St_appendShort_b30 post I_p0 f_p0_bytes x1 s0 x1) ∧
   (¬ s0 = 0 →
    wp_St_appendShort_b30 post I_p0 f_p0_bytes x1 s0 (x1 >>> (8 &&& 31))))
def wp_St_appendShort (post : (Nat → Int32) → (Nat → Int32) → Prop) (I_p0 : Nat → Int32) (f_p0_bytes : Nat → Int32) (x1 : Int32) : Prop :=
  vp_in 0 900 ∧
  (((f_p0_bytes 0) = 77 →
    wp_St_appendShort_b16 post I_p0 f_p0_bytes x1 1) ∧
   (¬ (f_p0_bytes 0) = 77 →
    wp_St_appendShort_b16 post I_p0 f_p0_bytes x1 0))
set_option maxRecDepth 100000 in
set_option maxHeartbeats 4000000 in
theorem c_St_appendShort (l : Launch) (dC : Nat → ClassId) (dI : Nat → Nat → Nat) (cI : ClassId) (a_p0 : Nat) (A_p0 : Nat → Nat) (I_p0 : Nat → Int32) (f_p0_bytes : Nat → Int32) (x1 : Int32) {post : (Nat → Int32) → (Nat → Int32) → Prop} (hw : wp_St_appendShort post I_p0 f_p0_bytes x1) : gm_v l y_St_appendShort ws_St_appendShort ({ frames := 1, cells := 0, slots := 0, locals := 21 } : Room) (dC, dI) vwCl [(cI, .int)] [.ref a_p0, .int x1] [oSt a_p0 A_p0 I_p0, gz cI (A_p0 0) 900 f_p0_bytes] (fun (u : (Nat → Int32) × (Nat → Int32)) => [oSt a_p0 A_p0 u.1, gz cI (A_p0 0) 900 u.2]) (fun (u : (Nat → Int32) × (Nat → Int32)) => post  u.1 u.2) := by
  refine gm_vof (cc := b_St_appendShort) (maxL := 3) (by decide) rfl (Nat.le_of_ble_eq_true rfl) ?_
  intro p e s m args below meth c A Q hx hb hml hown hg hK hN hA hnm hret
  have hown : s.vm.findClass R_St = some m.cls := hown
  have b50 : ∀ (H : Heap) (locs : List Loc) (ls : Array Slot) (I_p0 : Nat → Int32) (f_p0_bytes : Nat → Int32) (s0 : Int32), va_P (dC, dI) vwCl [oSt a_p0 A_p0 I_p0, gz cI (A_p0 0) 900 f_p0_bytes] H → va_D A [oSt a_p0 A_p0 I_p0, gz cI (A_p0 0) 900 f_p0_bytes] → va_S A s.heap H locs → lv_has ls 3 [] → wp_St_appendShort_b50 post I_p0 f_p0_bytes s0 → W p l e ({ frames := 1, cells := 0, slots := 0, locals := 21 } : Room) s m args below meth c H locs 0 0 Q (F0 m 50 ls [.int s0, .ref a_p0]) := by
    intro H locs ls I_p0 f_p0_bytes s0 hP hD hS hl hw
    unfold wp_St_appendShort_b50 at hw
    refine lv_sipush (v := 255) hx hb d_St_appendShort_50 (by decide) ?_
    refine lv_iand hx hb d_St_appendShort_53 ?_
    refine gc_v (wn := fun u => [oSt a_p0 A_p0 u.1, gz cI (A_p0 0) 900 u.2]) (wr := []) (gr_V (As := [.int (s0 &&& 255)]) (rest := []) ⟨hx, hb, hml, hown, hg⟩ (c_St_append l dC dI cI a_p0 A_p0 I_p0 f_p0_bytes (s0 &&& 255) hw _) (cwV 1 hg (gg_V t_284 t_285 t_286 t_61 t_287) rfl rfl rfl (by decide +kernel) ⟨Nat.le_of_ble_eq_true rfl, Nat.le_of_ble_eq_true rfl⟩) hK hN hP hD [0, 1] (by decide) rfl 0 7 rfl rfl rfl rfl hl.1 rfl (Nat.le_of_ble_eq_true rfl) d_St_appendShort_54 ⟨Nat.le_of_ble_eq_true rfl, Nat.le_of_ble_eq_true rfl⟩) rfl rfl hP hD hS hA [0, 1] [] [0, 1] rfl rfl (by decide) (by decide) (by decide) (fun _ => rfl) ?_
    intro u9 H locs hw hP hD hS
    obtain ⟨I_p0_54, f_p0_bytes_54⟩ := u9
    try dsimp only at hw
    have hP : va_P (dC, dI) vwCl [oSt a_p0 A_p0 I_p0_54, gz cI (A_p0 0) 900 f_p0_bytes_54] H := hP
    have hD : va_D A [oSt a_p0 A_p0 I_p0_54, gz cI (A_p0 0) 900 f_p0_bytes_54] := hD
    exact hret _ _ _ _ (I_p0_54, f_p0_bytes_54) d_St_appendShort_57 hP hD hS hw
  have b30 : ∀ (H : Heap) (locs : List Loc) (ls : Array Slot) (I_p0 : Nat → Int32) (f_p0_bytes : Nat → Int32) (x1 : Int32) (x2 : Int32) (s0 : Int32), va_P (dC, dI) vwCl [oSt a_p0 A_p0 I_p0, gz cI (A_p0 0) 900 f_p0_bytes] H → va_D A [oSt a_p0 A_p0 I_p0, gz cI (A_p0 0) 900 f_p0_bytes] → va_S A s.heap H locs → lv_has ls 3 [(0, .ref a_p0), (1, .int x1), (2, .int x2)] → wp_St_appendShort_b30 post I_p0 f_p0_bytes x1 x2 s0 → W p l e ({ frames := 1, cells := 0, slots := 0, locals := 21 } : Room) s m args below meth c H locs 0 0 Q (F0 m 30 ls [.int s0, .ref a_p0]) := by
    intro H locs ls I_p0 f_p0_bytes x1 x2 s0 hP hD hS hl hw
    unfold wp_St_appendShort_b30 at hw
    refine lv_sipush (v := 255) hx hb d_St_appendShort_30 (by decide) ?_
    refine lv_iand hx hb d_St_appendShort_33 ?_
    refine gc_v (wn := fun u => [oSt a_p0 A_p0 u.1, gz cI (A_p0 0) 900 u.2]) (wr := []) (gr_V (As := [.int (s0 &&& 255)]) (rest := []) ⟨hx, hb, hml, hown, hg⟩ (c_St_append l dC dI cI a_p0 A_p0 I_p0 f_p0_bytes (s0 &&& 255) hw _) (cwV 1 hg (gg_V t_284 t_285 t_286 t_61 t_287) rfl rfl rfl (by decide +kernel) ⟨Nat.le_of_ble_eq_true rfl, Nat.le_of_ble_eq_true rfl⟩) hK hN hP hD [0, 1] (by decide) rfl 0 7 rfl rfl rfl rfl hl.1 rfl (Nat.le_of_ble_eq_true rfl) d_St_appendShort_34 ⟨Nat.le_of_ble_eq_true rfl, Nat.le_of_ble_eq_true rfl⟩) rfl rfl hP hD hS hA [0, 1] [] [0, 1] rfl rfl (by decide) (by decide) (by decide) (fun _ => rfl) ?_
    intro u9 H locs hw hP hD hS
    obtain ⟨I_p0_34, f_p0_bytes_34⟩ := u9
    try dsimp only at hw
    have hP : va_P (dC, dI) vwCl [oSt a_p0 A_p0 I_p0_34, gz cI (A_p0 0) 900 f_p0_bytes_34] H := hP
    have hD : va_D A [oSt a_p0 A_p0 I_p0_34, gz cI (A_p0 0) 900 f_p0_bytes_34] := hD
    refine lv_aload_n hx hb d_St_appendShort_37 rfl (lv_at hl 0 rfl) ?_
    refine lv_iload_n hx hb d_St_appendShort_38 rfl (lv_at hl 2 rfl) ?_
    refine lv_if_eq hx hb d_St_appendShort_39 rfl (fun hc => ?_) (fun hc => ?_)
    · have hw := hw.1 hc
      refine lv_iload_n hx hb d_St_appendShort_46 rfl (lv_at hl 1 rfl) ?_
      refine lv_bipush (v := 8) hx hb d_St_appendShort_47 (by decide) ?_
      refine lv_ishr hx hb d_St_appendShort_49 ?_
      exact b50 _ _ _ I_p0_34 f_p0_bytes_34 (x1 >>> (8 &&& 31)) hP hD hS (lv_sub hl [] rfl) hw
    · have hw := hw.2 hc
      refine lv_iload_n hx hb d_St_appendShort_42 rfl (lv_at hl 1 rfl) ?_
      refine lv_goto hx hb d_St_appendShort_43 rfl ?_
      exact b50 _ _ _ I_p0_34 f_p0_bytes_34 x1 hP hD hS (lv_sub hl [] rfl) hw
  have b16 : ∀ (H : Heap) (locs : List Loc) (ls : Array Slot) (I_p0 : Nat → Int32) (f_p0_bytes : Nat → Int32) (x1 : Int32) (s0 : Int32), va_P (dC, dI) vwCl [oSt a_p0 A_p0 I_p0, gz cI (A_p0 0) 900 f_p0_bytes] H → va_D A [oSt a_p0 A_p0 I_p0, gz cI (A_p0 0) 900 f_p0_bytes] → va_S A s.heap H locs → lv_has ls 3 [(0, .ref a_p0), (1, .int x1)] → wp_St_appendShort_b16 post I_p0 f_p0_bytes x1 s0 → W p l e ({ frames := 1, cells := 0, slots := 0, locals := 21 } : Room) s m args below meth c H locs 0 0 Q (F0 m 16 ls [.int s0]) := by
    intro H locs ls I_p0 f_p0_bytes x1 s0 hP hD hS hl hw
    unfold wp_St_appendShort_b16 at hw
    refine lv_istore_n (lv' := [(2, .int s0), (0, .ref a_p0), (1, .int x1)]) hx hb d_St_appendShort_16 rfl hl (by decide) rfl (fun ls hl => ?_)
    refine lv_aload_n hx hb d_St_appendShort_17 rfl (lv_at hl 1 rfl) ?_
    refine lv_iload_n hx hb d_St_appendShort_18 rfl (lv_at hl 0 rfl) ?_
    refine lv_if_eq hx hb d_St_appendShort_19 rfl (fun hc => ?_) (fun hc => ?_)
    · have hw := hw.1 hc
      refine lv_iload_n hx hb d_St_appendShort_29 rfl (lv_at hl 2 rfl) ?_
      exact b30 _ _ _ I_p0 f_p0_bytes x1 s0 x1 hP hD hS (lv_sub hl [1, 2, 0] rfl) hw
    · have hw := hw.2 hc
      refine lv_iload_n hx hb d_St_appendShort_22 rfl (lv_at hl 2 rfl) ?_
      refine lv_bipush (v := 8) hx hb d_St_appendShort_23 (by decide) ?_
      refine lv_ishr hx hb d_St_appendShort_25 ?_
      refine lv_goto hx hb d_St_appendShort_26 rfl ?_
      exact b30 _ _ _ I_p0 f_p0_bytes x1 s0 (x1 >>> (8 &&& 31)) hP hD hS (lv_sub hl [1, 2, 0] rfl) hw
  intro ls hl hP hD hS
  have hl : lv_has ls 3 [(0, .ref a_p0), (1, .int x1)] := hl
  unfold wp_St_appendShort at hw
  refine lv_aload_n hx hb d_St_appendShort_0 rfl (lv_at hl 0 rfl) ?_
  refine va_get (D := (dC, dI)) (ci := 7) (v := .ref (A_p0 0)) (C := R_St) (T := T_St) (N := 3) hx hb hg in_St hown hK hP 0 rfl rfl 0 (by decide) (hg _ t_88) (fun _ h9 => h9) rfl d_St_appendShort_1 ?_
  refine lv_iconst (v := 0) hx hb d_St_appendShort_4 (by decide) ?_
  obtain ⟨hin, hw⟩ := hw
  refine va_iald hx hb hK hP 1 0 rfl rfl hin d_St_appendShort_5 ?_
  refine lv_bipush (v := 77) hx hb d_St_appendShort_6 (by decide) ?_
  refine lv_icmp_ne hx hb d_St_appendShort_8 rfl (fun hc => ?_) (fun hc => ?_)
  · have hw := hw.2 hc
    refine lv_iconst (v := 0) hx hb d_St_appendShort_15 (by decide) ?_
    exact b16 _ _ _ I_p0 f_p0_bytes x1 0 hP hD hS (lv_sub hl [0, 1] rfl) hw
  · have hw := hw.1 hc
    refine lv_iconst (v := 1) hx hb d_St_appendShort_11 (by decide) ?_
    refine lv_goto hx hb d_St_appendShort_12 rfl ?_
    exact b16 _ _ _ I_p0 f_p0_bytes x1 1 hP hD hS (lv_sub hl [0, 1] rfl) hw
theorem d_St_byteOfLong_0 : decode b_St_byteOfLong 0 = .ok (.aload_n 0, 1) := by decide +kernel
theorem d_St_byteOfLong_1 : decode b_St_byteOfLong 1 = .ok (.getfield 9, 3) := by decide +kernel
theorem d_St_byteOfLong_4 : decode b_St_byteOfLong 4 = .ok (.iconst 0, 1) := by decide +kernel
theorem d_St_byteOfLong_5 : decode b_St_byteOfLong 5 = .ok (.iaload, 1) := by decide +kernel
theorem d_St_byteOfLong_6 : decode b_St_byteOfLong 6 = .ok (.bipush 77, 2) := by decide +kernel
theorem d_St_byteOfLong_8 : decode b_St_byteOfLong 8 = .ok (.if_icmp .ne 13, 3) := by decide +kernel
theorem d_St_byteOfLong_11 : decode b_St_byteOfLong 11 = .ok (.bipush 24, 2) := by decide +kernel
theorem d_St_byteOfLong_13 : decode b_St_byteOfLong 13 = .ok (.bipush 8, 2) := by decide +kernel
theorem d_St_byteOfLong_15 : decode b_St_byteOfLong 15 = .ok (.iload_n 2, 1) := by decide +kernel
theorem d_St_byteOfLong_16 : decode b_St_byteOfLong 16 = .ok (.imul, 1) := by decide +kernel
theorem d_St_byteOfLong_17 : decode b_St_byteOfLong 17 = .ok (.isub, 1) := by decide +kernel
theorem d_St_byteOfLong_18 : decode b_St_byteOfLong 18 = .ok (.goto 7, 3) := by decide +kernel
theorem d_St_byteOfLong_21 : decode b_St_byteOfLong 21 = .ok (.bipush 8, 2) := by decide +kernel
theorem d_St_byteOfLong_23 : decode b_St_byteOfLong 23 = .ok (.iload_n 2, 1) := by decide +kernel
theorem d_St_byteOfLong_24 : decode b_St_byteOfLong 24 = .ok (.imul, 1) := by decide +kernel
theorem d_St_byteOfLong_25 : decode b_St_byteOfLong 25 = .ok (.istore_n 3, 1) := by decide +kernel
theorem d_St_byteOfLong_26 : decode b_St_byteOfLong 26 = .ok (.iload_n 1, 1) := by decide +kernel
theorem d_St_byteOfLong_27 : decode b_St_byteOfLong 27 = .ok (.iload_n 3, 1) := by decide +kernel
theorem d_St_byteOfLong_28 : decode b_St_byteOfLong 28 = .ok (.ishr, 1) := by decide +kernel
theorem d_St_byteOfLong_29 : decode b_St_byteOfLong 29 = .ok (.sipush 255, 3) := by decide +kernel
theorem d_St_byteOfLong_32 : decode b_St_byteOfLong 32 = .ok (.iand, 1) := by decide +kernel
theorem d_St_byteOfLong_33 : decode b_St_byteOfLong 33 = .ok (.ireturn, 1) := by decide +kernel
def wp_St_byteOfLong_b25 (post : Int32 → Prop) (I_p0 : Nat → Int32) (f_p0_bytes : Nat → Int32) (x1 : Int32) (s0 : Int32) : Prop :=
  post ((x1 >>> (s0 &&& 31)) &&& 255)
def wp_St_byteOfLong (post : Int32 → Prop) (I_p0 : Nat → Int32) (f_p0_bytes : Nat → Int32) (x1 : Int32) (x2 : Int32) : Prop :=
  vp_in 0 900 ∧
  (((f_p0_bytes 0) = 77 →
    wp_St_byteOfLong_b25 post I_p0 f_p0_bytes x1 (24 - (8 * x2))) ∧
   (¬ (f_p0_bytes 0) = 77 →
    wp_St_byteOfLong_b25 post I_p0 f_p0_bytes x1 (8 * x2)))
set_option maxRecDepth 100000 in
set_option maxHeartbeats 4000000 in
theorem c_St_byteOfLong (l : Launch) (dC : Nat → ClassId) (dI : Nat → Nat → Nat) (cI : ClassId) (a_p0 : Nat) (A_p0 : Nat → Nat) (I_p0 : Nat → Int32) (f_p0_bytes : Nat → Int32) (x1 : Int32) (x2 : Int32) {post : Int32 → Prop} (hw : wp_St_byteOfLong post I_p0 f_p0_bytes x1 x2) : gm_i l y_St_byteOfLong ws_St_byteOfLong ({ frames := 0, cells := 0, slots := 0, locals := 0 } : Room) (dC, dI) vwCl [(cI, .int)] [.ref a_p0, .int x1, .int x2] [oSt a_p0 A_p0 I_p0, gz cI (A_p0 0) 900 f_p0_bytes] (fun (_ : Unit) => [oSt a_p0 A_p0 I_p0, gz cI (A_p0 0) 900 f_p0_bytes]) (fun (r : Int32) (_ : Unit) => post r) := by
  refine gm_iof (cc := b_St_byteOfLong) (maxL := 4) (ty := .int) (by decide) rfl (Nat.le_of_ble_eq_true rfl) ?_
  intro p e s m args below meth c A Q hx hb hml hown hg hK hN hA hret
  have hown : s.vm.findClass R_St = some m.cls := hown
  have b25 : ∀ (H : Heap) (locs : List Loc) (ls : Array Slot) (x1 : Int32) (s0 : Int32), va_P (dC, dI) vwCl [oSt a_p0 A_p0 I_p0, gz cI (A_p0 0) 900 f_p0_bytes] H → va_D A [oSt a_p0 A_p0 I_p0, gz cI (A_p0 0) 900 f_p0_bytes] → va_S A s.heap H locs → lv_has ls 4 [(1, .int x1)] → wp_St_byteOfLong_b25 post I_p0 f_p0_bytes x1 s0 → W p l e ({ frames := 0, cells := 0, slots := 0, locals := 0 } : Room) s m args below meth c H locs 0 0 Q (F0 m 25 ls [.int s0]) := by
    intro H locs ls x1 s0 hP hD hS hl hw
    unfold wp_St_byteOfLong_b25 at hw
    refine lv_istore_n (lv' := [(3, .int s0), (1, .int x1)]) hx hb d_St_byteOfLong_25 rfl hl (by decide) rfl (fun ls hl => ?_)
    refine lv_iload_n hx hb d_St_byteOfLong_26 rfl (lv_at hl 1 rfl) ?_
    refine lv_iload_n hx hb d_St_byteOfLong_27 rfl (lv_at hl 0 rfl) ?_
    refine lv_ishr hx hb d_St_byteOfLong_28 ?_
    refine lv_sipush (v := 255) hx hb d_St_byteOfLong_29 (by decide) ?_
    refine lv_iand hx hb d_St_byteOfLong_32 ?_
    exact hret _ _ _ _ _ () d_St_byteOfLong_33 rfl hP hD hS hw
  intro ls hl hP hD hS
  have hl : lv_has ls 4 [(0, .ref a_p0), (1, .int x1), (2, .int x2)] := hl
  unfold wp_St_byteOfLong at hw
  refine lv_aload_n hx hb d_St_byteOfLong_0 rfl (lv_at hl 0 rfl) ?_
  refine va_get (D := (dC, dI)) (ci := 7) (v := .ref (A_p0 0)) (C := R_St) (T := T_St) (N := 3) hx hb hg in_St hown hK hP 0 rfl rfl 0 (by decide) (hg _ t_88) (fun _ h9 => h9) rfl d_St_byteOfLong_1 ?_
  refine lv_iconst (v := 0) hx hb d_St_byteOfLong_4 (by decide) ?_
  obtain ⟨hin, hw⟩ := hw
  refine va_iald hx hb hK hP 1 0 rfl rfl hin d_St_byteOfLong_5 ?_
  refine lv_bipush (v := 77) hx hb d_St_byteOfLong_6 (by decide) ?_
  refine lv_icmp_ne hx hb d_St_byteOfLong_8 rfl (fun hc => ?_) (fun hc => ?_)
  · have hw := hw.2 hc
    refine lv_bipush (v := 8) hx hb d_St_byteOfLong_21 (by decide) ?_
    refine lv_iload_n hx hb d_St_byteOfLong_23 rfl (lv_at hl 2 rfl) ?_
    refine lv_imul hx hb d_St_byteOfLong_24 ?_
    exact b25 _ _ _ x1 (8 * x2) hP hD hS (lv_sub hl [1] rfl) hw
  · have hw := hw.1 hc
    refine lv_bipush (v := 24) hx hb d_St_byteOfLong_11 (by decide) ?_
    refine lv_bipush (v := 8) hx hb d_St_byteOfLong_13 (by decide) ?_
    refine lv_iload_n hx hb d_St_byteOfLong_15 rfl (lv_at hl 2 rfl) ?_
    refine lv_imul hx hb d_St_byteOfLong_16 ?_
    refine lv_isub hx hb d_St_byteOfLong_17 ?_
    refine lv_goto hx hb d_St_byteOfLong_18 rfl ?_
    exact b25 _ _ _ x1 (24 - (8 * x2)) hP hD hS (lv_sub hl [1] rfl) hw
theorem d_St_appendLong_0 : decode b_St_appendLong 0 = .ok (.iconst 0, 1) := by decide +kernel
theorem d_St_appendLong_1 : decode b_St_appendLong 1 = .ok (.istore_n 2, 1) := by decide +kernel
theorem d_St_appendLong_2 : decode b_St_appendLong 2 = .ok (.iload_n 2, 1) := by decide +kernel
theorem d_St_appendLong_3 : decode b_St_appendLong 3 = .ok (.iconst 4, 1) := by decide +kernel
theorem d_St_appendLong_4 : decode b_St_appendLong 4 = .ok (.if_icmp .ge 19, 3) := by decide +kernel
theorem d_St_appendLong_7 : decode b_St_appendLong 7 = .ok (.aload_n 0, 1) := by decide +kernel
theorem d_St_appendLong_8 : decode b_St_appendLong 8 = .ok (.aload_n 0, 1) := by decide +kernel
theorem d_St_appendLong_9 : decode b_St_appendLong 9 = .ok (.iload_n 1, 1) := by decide +kernel
theorem d_St_appendLong_10 : decode b_St_appendLong 10 = .ok (.iload_n 2, 1) := by decide +kernel
theorem d_St_appendLong_11 : decode b_St_appendLong 11 = .ok (.invokevirtual 44, 3) := by decide +kernel
theorem d_St_appendLong_14 : decode b_St_appendLong 14 = .ok (.invokevirtual 19, 3) := by decide +kernel
theorem d_St_appendLong_17 : decode b_St_appendLong 17 = .ok (.iinc 2 1, 3) := by decide +kernel
theorem d_St_appendLong_20 : decode b_St_appendLong 20 = .ok (.goto (-18), 3) := by decide +kernel
theorem d_St_appendLong_23 : decode b_St_appendLong 23 = .ok (.return_, 1) := by decide +kernel
def wp_St_appendLong_l2 (post : (Nat → Int32) → (Nat → Int32) → Prop) : Nat → (Nat → Int32) → (Nat → Int32) → Int32 → Int32 → Prop
  | 0, _, _, _, _ => False
  | n + 1, I_p0, f_p0_bytes, x1, x2 =>
    ((4 ≤ x2 →
      post I_p0 f_p0_bytes) ∧
     (¬ 4 ≤ x2 →
      wp_St_byteOfLong (fun (r11 : Int32) =>
        wp_St_append (fun (I_p0_14 : Nat → Int32) (f_p0_bytes_14 : Nat → Int32) =>
          wp_St_appendLong_l2 post n I_p0_14 f_p0_bytes_14 x1 (x2 + 1)) I_p0 f_p0_bytes r11) I_p0 f_p0_bytes x1 x2))
def wp_St_appendLong (post : (Nat → Int32) → (Nat → Int32) → Prop) (I_p0 : Nat → Int32) (f_p0_bytes : Nat → Int32) (x1 : Int32) : Prop :=
  (∃ n1 : Nat, wp_St_appendLong_l2 post n1 I_p0 f_p0_bytes x1 0)
set_option maxRecDepth 100000 in
set_option maxHeartbeats 4000000 in
theorem c_St_appendLong (l : Launch) (dC : Nat → ClassId) (dI : Nat → Nat → Nat) (cI : ClassId) (a_p0 : Nat) (A_p0 : Nat → Nat) (I_p0 : Nat → Int32) (f_p0_bytes : Nat → Int32) (x1 : Int32) {post : (Nat → Int32) → (Nat → Int32) → Prop} (hw : wp_St_appendLong post I_p0 f_p0_bytes x1) : gm_v l y_St_appendLong ws_St_appendLong ({ frames := 1, cells := 0, slots := 0, locals := 23 } : Room) (dC, dI) vwCl [(cI, .int)] [.ref a_p0, .int x1] [oSt a_p0 A_p0 I_p0, gz cI (A_p0 0) 900 f_p0_bytes] (fun (u : (Nat → Int32) × (Nat → Int32)) => [oSt a_p0 A_p0 u.1, gz cI (A_p0 0) 900 u.2]) (fun (u : (Nat → Int32) × (Nat → Int32)) => post  u.1 u.2) := by
  refine gm_vof (cc := b_St_appendLong) (maxL := 3) (by decide) rfl (Nat.le_of_ble_eq_true rfl) ?_
  intro p e s m args below meth c A Q hx hb hml hown hg hK hN hA hnm hret
  have hown : s.vm.findClass R_St = some m.cls := hown
  have l2 : ∀ n : Nat, ∀ (H : Heap) (locs : List Loc) (ls : Array Slot) (I_p0 : Nat → Int32) (f_p0_bytes : Nat → Int32) (x1 : Int32) (x2 : Int32), va_P (dC, dI) vwCl [oSt a_p0 A_p0 I_p0, gz cI (A_p0 0) 900 f_p0_bytes] H → va_D A [oSt a_p0 A_p0 I_p0, gz cI (A_p0 0) 900 f_p0_bytes] → va_S A s.heap H locs → lv_has ls 3 [(0, .ref a_p0), (1, .int x1), (2, .int x2)] → wp_St_appendLong_l2 post n I_p0 f_p0_bytes x1 x2 → W p l e ({ frames := 1, cells := 0, slots := 0, locals := 23 } : Room) s m args below meth c H locs 0 0 Q (F0 m 2 ls []) := by
    intro n
    induction n with
    | zero => intro H locs ls I_p0 f_p0_bytes x1 x2 hP hD hS hl hw; exact hw.elim
    | succ n ih =>
      intro H locs ls I_p0 f_p0_bytes x1 x2 hP hD hS hl hw
      unfold wp_St_appendLong_l2 at hw
      refine lv_iload_n hx hb d_St_appendLong_2 rfl (lv_at hl 2 rfl) ?_
      refine lv_iconst (v := 4) hx hb d_St_appendLong_3 (by decide) ?_
      refine lv_icmp_ge hx hb d_St_appendLong_4 rfl (fun hc => ?_) (fun hc => ?_)
      · have hw := hw.1 hc
        exact hret _ _ _ _ (I_p0, f_p0_bytes) d_St_appendLong_23 hP hD hS hw
      · have hw := hw.2 hc
        refine lv_aload_n hx hb d_St_appendLong_7 rfl (lv_at hl 0 rfl) ?_
        refine lv_aload_n hx hb d_St_appendLong_8 rfl (lv_at hl 0 rfl) ?_
        refine lv_iload_n hx hb d_St_appendLong_9 rfl (lv_at hl 1 rfl) ?_
        refine lv_iload_n hx hb d_St_appendLong_10 rfl (lv_at hl 2 rfl) ?_
        refine gc_i (wn := fun (_ : Unit) => [oSt a_p0 A_p0 I_p0, gz cI (A_p0 0) 900 f_p0_bytes]) (wr := []) (gr_V (As := [.int x1, .int x2]) (rest := [.ref a_p0]) ⟨hx, hb, hml, hown, hg⟩ (c_St_byteOfLong l dC dI cI a_p0 A_p0 I_p0 f_p0_bytes x1 x2 hw _) (cwV 2 hg (gg_V t_296 t_298 t_0 t_61 t_299) rfl rfl rfl (by decide +kernel) ⟨Nat.le_of_ble_eq_true rfl, Nat.le_of_ble_eq_true rfl⟩) hK hN hP hD [0, 1] (by decide) rfl 0 7 rfl rfl rfl rfl hl.1 rfl (Nat.le_of_ble_eq_true rfl) d_St_appendLong_11 ⟨Nat.le_of_ble_eq_true rfl, Nat.le_of_ble_eq_true rfl⟩) rfl rfl hP hD hS hA [0, 1] [] [0, 1] rfl rfl (by decide) (by decide) (by decide) (fun _ => rfl) ?_
        intro r11 _ H locs hw hP hD hS
        try dsimp only at hw
        have hP : va_P (dC, dI) vwCl [oSt a_p0 A_p0 I_p0, gz cI (A_p0 0) 900 f_p0_bytes] H := hP
        have hD : va_D A [oSt a_p0 A_p0 I_p0, gz cI (A_p0 0) 900 f_p0_bytes] := hD
        refine gc_v (wn := fun u => [oSt a_p0 A_p0 u.1, gz cI (A_p0 0) 900 u.2]) (wr := []) (gr_V (As := [.int r11]) (rest := []) ⟨hx, hb, hml, hown, hg⟩ (c_St_append l dC dI cI a_p0 A_p0 I_p0 f_p0_bytes r11 hw _) (cwV 1 hg (gg_V t_284 t_285 t_286 t_61 t_287) rfl rfl rfl (by decide +kernel) ⟨Nat.le_of_ble_eq_true rfl, Nat.le_of_ble_eq_true rfl⟩) hK hN hP hD [0, 1] (by decide) rfl 0 7 rfl rfl rfl rfl hl.1 rfl (Nat.le_of_ble_eq_true rfl) d_St_appendLong_14 ⟨Nat.le_of_ble_eq_true rfl, Nat.le_of_ble_eq_true rfl⟩) rfl rfl hP hD hS hA [0, 1] [] [0, 1] rfl rfl (by decide) (by decide) (by decide) (fun _ => rfl) ?_
        intro u9 H locs hw hP hD hS
        obtain ⟨I_p0_14, f_p0_bytes_14⟩ := u9
        try dsimp only at hw
        have hP : va_P (dC, dI) vwCl [oSt a_p0 A_p0 I_p0_14, gz cI (A_p0 0) 900 f_p0_bytes_14] H := hP
        have hD : va_D A [oSt a_p0 A_p0 I_p0_14, gz cI (A_p0 0) 900 f_p0_bytes_14] := hD
        refine lv_iinc (k := 2) (v := (x2 + 1)) (lv' := [(2, .int (x2 + 1)), (0, .ref a_p0), (1, .int x1)]) hx hb d_St_appendLong_17 hl rfl (congrArg (fun z => x2 + z) (by decide : Int32.ofInt 1 = 1)) (by decide) rfl (fun ls hl => ?_)
        refine lv_goto hx hb d_St_appendLong_20 rfl ?_
        exact ih _ _ _ I_p0_14 f_p0_bytes_14 x1 (x2 + 1) hP hD hS (lv_sub hl [1, 2, 0] rfl) hw
  intro ls hl hP hD hS
  have hl : lv_has ls 3 [(0, .ref a_p0), (1, .int x1)] := hl
  unfold wp_St_appendLong at hw
  refine lv_iconst (v := 0) hx hb d_St_appendLong_0 (by decide) ?_
  refine lv_istore_n (lv' := [(2, .int 0), (0, .ref a_p0), (1, .int x1)]) hx hb d_St_appendLong_1 rfl hl (by decide) rfl (fun ls hl => ?_)
  obtain ⟨n1, hw⟩ := hw
  exact l2 n1 _ _ _ I_p0 f_p0_bytes x1 0 hP hD hS (lv_sub hl [1, 2, 0] rfl) hw
theorem d_St_restart_0 : decode b_St_restart 0 = .ok (.iload_n 1, 1) := by decide +kernel
theorem d_St_restart_1 : decode b_St_restart 1 = .ok (.ifCond .eq 8, 3) := by decide +kernel
theorem d_St_restart_4 : decode b_St_restart 4 = .ok (.bipush 77, 2) := by decide +kernel
theorem d_St_restart_6 : decode b_St_restart 6 = .ok (.goto 5, 3) := by decide +kernel
theorem d_St_restart_9 : decode b_St_restart 9 = .ok (.bipush 73, 2) := by decide +kernel
theorem d_St_restart_11 : decode b_St_restart 11 = .ok (.istore_n 2, 1) := by decide +kernel
theorem d_St_restart_12 : decode b_St_restart 12 = .ok (.aload_n 0, 1) := by decide +kernel
theorem d_St_restart_13 : decode b_St_restart 13 = .ok (.iconst 0, 1) := by decide +kernel
theorem d_St_restart_14 : decode b_St_restart 14 = .ok (.putfield 15, 3) := by decide +kernel
theorem d_St_restart_17 : decode b_St_restart 17 = .ok (.aload_n 0, 1) := by decide +kernel
theorem d_St_restart_18 : decode b_St_restart 18 = .ok (.iload_n 2, 1) := by decide +kernel
theorem d_St_restart_19 : decode b_St_restart 19 = .ok (.invokevirtual 19, 3) := by decide +kernel
theorem d_St_restart_22 : decode b_St_restart 22 = .ok (.aload_n 0, 1) := by decide +kernel
theorem d_St_restart_23 : decode b_St_restart 23 = .ok (.iload_n 2, 1) := by decide +kernel
theorem d_St_restart_24 : decode b_St_restart 24 = .ok (.invokevirtual 19, 3) := by decide +kernel
theorem d_St_restart_27 : decode b_St_restart 27 = .ok (.aload_n 0, 1) := by decide +kernel
theorem d_St_restart_28 : decode b_St_restart 28 = .ok (.bipush 42, 2) := by decide +kernel
theorem d_St_restart_30 : decode b_St_restart 30 = .ok (.invokevirtual 23, 3) := by decide +kernel
theorem d_St_restart_33 : decode b_St_restart 33 = .ok (.aload_n 0, 1) := by decide +kernel
theorem d_St_restart_34 : decode b_St_restart 34 = .ok (.iconst 0, 1) := by decide +kernel
theorem d_St_restart_35 : decode b_St_restart 35 = .ok (.invokevirtual 26, 3) := by decide +kernel
theorem d_St_restart_38 : decode b_St_restart 38 = .ok (.aload_n 0, 1) := by decide +kernel
theorem d_St_restart_39 : decode b_St_restart 39 = .ok (.aload_n 0, 1) := by decide +kernel
theorem d_St_restart_40 : decode b_St_restart 40 = .ok (.getfield 15, 3) := by decide +kernel
theorem d_St_restart_43 : decode b_St_restart 43 = .ok (.putfield 29, 3) := by decide +kernel
theorem d_St_restart_46 : decode b_St_restart 46 = .ok (.return_, 1) := by decide +kernel
def wp_St_restart_b11 (post : (Nat → Int32) → (Nat → Int32) → Prop) (I_p0 : Nat → Int32) (f_p0_bytes : Nat → Int32) (s0 : Int32) : Prop :=
  wp_St_append (fun (I_p0_19 : Nat → Int32) (f_p0_bytes_19 : Nat → Int32) =>
    wp_St_append (fun (I_p0_24 : Nat → Int32) (f_p0_bytes_24 : Nat → Int32) =>
      wp_St_appendShort (fun (I_p0_30 : Nat → Int32) (f_p0_bytes_30 : Nat → Int32) =>
        wp_St_appendLong (fun (I_p0_35 : Nat → Int32) (f_p0_bytes_35 : Nat → Int32) =>
          post (upd I_p0_35 1 (I_p0_35 2)) f_p0_bytes_35) I_p0_30 f_p0_bytes_30 0) I_p0_24 f_p0_bytes_24 42) I_p0_19 f_p0_bytes_19 s0) (upd I_p0 2 0) f_p0_bytes s0
def wp_St_restart (post : (Nat → Int32) → (Nat → Int32) → Prop) (I_p0 : Nat → Int32) (f_p0_bytes : Nat → Int32) (x1 : Int32) : Prop :=
  ((x1 = 0 →
    wp_St_restart_b11 post I_p0 f_p0_bytes 73) ∧
   (¬ x1 = 0 →
    wp_St_restart_b11 post I_p0 f_p0_bytes 77))
set_option maxRecDepth 100000 in
set_option maxHeartbeats 4000000 in
theorem c_St_restart (l : Launch) (dC : Nat → ClassId) (dI : Nat → Nat → Nat) (cI : ClassId) (a_p0 : Nat) (A_p0 : Nat → Nat) (I_p0 : Nat → Int32) (f_p0_bytes : Nat → Int32) (x1 : Int32) {post : (Nat → Int32) → (Nat → Int32) → Prop} (hw : wp_St_restart post I_p0 f_p0_bytes x1) : gm_v l y_St_restart ws_St_restart ({ frames := 2, cells := 0, slots := 0, locals := 45 } : Room) (dC, dI) vwCl [(cI, .int)] [.ref a_p0, .int x1] [oSt a_p0 A_p0 I_p0, gz cI (A_p0 0) 900 f_p0_bytes] (fun (u : (Nat → Int32) × (Nat → Int32)) => [oSt a_p0 A_p0 u.1, gz cI (A_p0 0) 900 u.2]) (fun (u : (Nat → Int32) × (Nat → Int32)) => post  u.1 u.2) := by
  refine gm_vof (cc := b_St_restart) (maxL := 3) (by decide) rfl (Nat.le_of_ble_eq_true rfl) ?_
  intro p e s m args below meth c A Q hx hb hml hown hg hK hN hA hnm hret
  have hown : s.vm.findClass R_St = some m.cls := hown
  have b11 : ∀ (H : Heap) (locs : List Loc) (ls : Array Slot) (I_p0 : Nat → Int32) (f_p0_bytes : Nat → Int32) (s0 : Int32), va_P (dC, dI) vwCl [oSt a_p0 A_p0 I_p0, gz cI (A_p0 0) 900 f_p0_bytes] H → va_D A [oSt a_p0 A_p0 I_p0, gz cI (A_p0 0) 900 f_p0_bytes] → va_S A s.heap H locs → lv_has ls 3 [(0, .ref a_p0)] → wp_St_restart_b11 post I_p0 f_p0_bytes s0 → W p l e ({ frames := 2, cells := 0, slots := 0, locals := 45 } : Room) s m args below meth c H locs 0 0 Q (F0 m 11 ls [.int s0]) := by
    intro H locs ls I_p0 f_p0_bytes s0 hP hD hS hl hw
    unfold wp_St_restart_b11 at hw
    refine lv_istore_n (lv' := [(2, .int s0), (0, .ref a_p0)]) hx hb d_St_restart_11 rfl hl (by decide) rfl (fun ls hl => ?_)
    refine lv_aload_n hx hb d_St_restart_12 rfl (lv_at hl 1 rfl) ?_
    refine lv_iconst (v := 0) hx hb d_St_restart_13 (by decide) ?_
    refine va_put (D := (dC, dI)) (ci := 7) (v := .int 0) (ty := .int) (C := R_St) (T := T_St) (N := 3) hx hb hg in_St t_St tok_St nok_St hown hK hP hD hS 0 rfl rfl 2 (by decide) (hg _ t_96) (fun _ h9 => h9) rfl (by decide +kernel) rfl rfl (Nat.le_of_ble_eq_true rfl) d_St_restart_14 (fun H locs hP hD hS => ?_)
    have hP : va_P (dC, dI) vwCl [oSt a_p0 A_p0 (upd I_p0 2 0), gz cI (A_p0 0) 900 f_p0_bytes] H := hP
    have hD : va_D A [oSt a_p0 A_p0 (upd I_p0 2 0), gz cI (A_p0 0) 900 f_p0_bytes] := hD
    refine lv_aload_n hx hb d_St_restart_17 rfl (lv_at hl 1 rfl) ?_
    refine lv_iload_n hx hb d_St_restart_18 rfl (lv_at hl 0 rfl) ?_
    refine gc_v (wn := fun u => [oSt a_p0 A_p0 u.1, gz cI (A_p0 0) 900 u.2]) (wr := []) (gr_V (As := [.int s0]) (rest := []) ⟨hx, hb, hml, hown, hg⟩ (c_St_append l dC dI cI a_p0 A_p0 (upd I_p0 2 0) f_p0_bytes s0 hw _) (cwV 1 hg (gg_V t_284 t_285 t_286 t_61 t_287) rfl rfl rfl (by decide +kernel) ⟨Nat.le_of_ble_eq_true rfl, Nat.le_of_ble_eq_true rfl⟩) hK hN hP hD [0, 1] (by decide) rfl 0 7 rfl rfl rfl rfl hl.1 rfl (Nat.le_of_ble_eq_true rfl) d_St_restart_19 ⟨Nat.le_of_ble_eq_true rfl, Nat.le_of_ble_eq_true rfl⟩) rfl rfl hP hD hS hA [0, 1] [] [0, 1] rfl rfl (by decide) (by decide) (by decide) (fun _ => rfl) ?_
    intro u9 H locs hw hP hD hS
    obtain ⟨I_p0_19, f_p0_bytes_19⟩ := u9
    try dsimp only at hw
    have hP : va_P (dC, dI) vwCl [oSt a_p0 A_p0 I_p0_19, gz cI (A_p0 0) 900 f_p0_bytes_19] H := hP
    have hD : va_D A [oSt a_p0 A_p0 I_p0_19, gz cI (A_p0 0) 900 f_p0_bytes_19] := hD
    refine lv_aload_n hx hb d_St_restart_22 rfl (lv_at hl 1 rfl) ?_
    refine lv_iload_n hx hb d_St_restart_23 rfl (lv_at hl 0 rfl) ?_
    refine gc_v (wn := fun u => [oSt a_p0 A_p0 u.1, gz cI (A_p0 0) 900 u.2]) (wr := []) (gr_V (As := [.int s0]) (rest := []) ⟨hx, hb, hml, hown, hg⟩ (c_St_append l dC dI cI a_p0 A_p0 I_p0_19 f_p0_bytes_19 s0 hw _) (cwV 1 hg (gg_V t_284 t_285 t_286 t_61 t_287) rfl rfl rfl (by decide +kernel) ⟨Nat.le_of_ble_eq_true rfl, Nat.le_of_ble_eq_true rfl⟩) hK hN hP hD [0, 1] (by decide) rfl 0 7 rfl rfl rfl rfl hl.1 rfl (Nat.le_of_ble_eq_true rfl) d_St_restart_24 ⟨Nat.le_of_ble_eq_true rfl, Nat.le_of_ble_eq_true rfl⟩) rfl rfl hP hD hS hA [0, 1] [] [0, 1] rfl rfl (by decide) (by decide) (by decide) (fun _ => rfl) ?_
    intro u9 H locs hw hP hD hS
    obtain ⟨I_p0_24, f_p0_bytes_24⟩ := u9
    try dsimp only at hw
    have hP : va_P (dC, dI) vwCl [oSt a_p0 A_p0 I_p0_24, gz cI (A_p0 0) 900 f_p0_bytes_24] H := hP
    have hD : va_D A [oSt a_p0 A_p0 I_p0_24, gz cI (A_p0 0) 900 f_p0_bytes_24] := hD
    refine lv_aload_n hx hb d_St_restart_27 rfl (lv_at hl 1 rfl) ?_
    refine lv_bipush (v := 42) hx hb d_St_restart_28 (by decide) ?_
    refine gc_v (wn := fun u => [oSt a_p0 A_p0 u.1, gz cI (A_p0 0) 900 u.2]) (wr := []) (gr_V (As := [.int 42]) (rest := []) ⟨hx, hb, hml, hown, hg⟩ (c_St_appendShort l dC dI cI a_p0 A_p0 I_p0_24 f_p0_bytes_24 42 hw _) (cwV 1 hg (gg_V t_288 t_289 t_290 t_61 t_291) rfl rfl rfl (by decide +kernel) ⟨Nat.le_of_ble_eq_true rfl, Nat.le_of_ble_eq_true rfl⟩) hK hN hP hD [0, 1] (by decide) rfl 0 7 rfl rfl rfl rfl hl.1 rfl (Nat.le_of_ble_eq_true rfl) d_St_restart_30 ⟨Nat.le_of_ble_eq_true rfl, Nat.le_of_ble_eq_true rfl⟩) rfl rfl hP hD hS hA [0, 1] [] [0, 1] rfl rfl (by decide) (by decide) (by decide) (fun _ => rfl) ?_
    intro u9 H locs hw hP hD hS
    obtain ⟨I_p0_30, f_p0_bytes_30⟩ := u9
    try dsimp only at hw
    have hP : va_P (dC, dI) vwCl [oSt a_p0 A_p0 I_p0_30, gz cI (A_p0 0) 900 f_p0_bytes_30] H := hP
    have hD : va_D A [oSt a_p0 A_p0 I_p0_30, gz cI (A_p0 0) 900 f_p0_bytes_30] := hD
    refine lv_aload_n hx hb d_St_restart_33 rfl (lv_at hl 1 rfl) ?_
    refine lv_iconst (v := 0) hx hb d_St_restart_34 (by decide) ?_
    refine gc_v (wn := fun u => [oSt a_p0 A_p0 u.1, gz cI (A_p0 0) 900 u.2]) (wr := []) (gr_V (As := [.int 0]) (rest := []) ⟨hx, hb, hml, hown, hg⟩ (c_St_appendLong l dC dI cI a_p0 A_p0 I_p0_30 f_p0_bytes_30 0 hw _) (cwV 1 hg (gg_V t_292 t_293 t_294 t_61 t_295) rfl rfl rfl (by decide +kernel) ⟨Nat.le_of_ble_eq_true rfl, Nat.le_of_ble_eq_true rfl⟩) hK hN hP hD [0, 1] (by decide) rfl 0 7 rfl rfl rfl rfl hl.1 rfl (Nat.le_of_ble_eq_true rfl) d_St_restart_35 ⟨Nat.le_of_ble_eq_true rfl, Nat.le_of_ble_eq_true rfl⟩) rfl rfl hP hD hS hA [0, 1] [] [0, 1] rfl rfl (by decide) (by decide) (by decide) (fun _ => rfl) ?_
    intro u9 H locs hw hP hD hS
    obtain ⟨I_p0_35, f_p0_bytes_35⟩ := u9
    try dsimp only at hw
    have hP : va_P (dC, dI) vwCl [oSt a_p0 A_p0 I_p0_35, gz cI (A_p0 0) 900 f_p0_bytes_35] H := hP
    have hD : va_D A [oSt a_p0 A_p0 I_p0_35, gz cI (A_p0 0) 900 f_p0_bytes_35] := hD
    refine lv_aload_n hx hb d_St_restart_38 rfl (lv_at hl 1 rfl) ?_
    refine lv_aload_n hx hb d_St_restart_39 rfl (lv_at hl 1 rfl) ?_
    refine va_get (D := (dC, dI)) (ci := 7) (v := .int (I_p0_35 2)) (C := R_St) (T := T_St) (N := 3) hx hb hg in_St hown hK hP 0 rfl rfl 2 (by decide) (hg _ t_96) (fun _ h9 => h9) rfl d_St_restart_40 ?_
    refine va_put (D := (dC, dI)) (ci := 7) (v := .int (I_p0_35 2)) (ty := .int) (C := R_St) (T := T_St) (N := 3) hx hb hg in_St t_St tok_St nok_St hown hK hP hD hS 0 rfl rfl 1 (by decide) (hg _ t_94) (fun _ h9 => h9) rfl (by decide +kernel) rfl rfl (Nat.le_of_ble_eq_true rfl) d_St_restart_43 (fun H locs hP hD hS => ?_)
    have hP : va_P (dC, dI) vwCl [oSt a_p0 A_p0 (upd I_p0_35 1 (I_p0_35 2)), gz cI (A_p0 0) 900 f_p0_bytes_35] H := hP
    have hD : va_D A [oSt a_p0 A_p0 (upd I_p0_35 1 (I_p0_35 2)), gz cI (A_p0 0) 900 f_p0_bytes_35] := hD
    exact hret _ _ _ _ ((upd I_p0_35 1 (I_p0_35 2)), f_p0_bytes_35) d_St_restart_46 hP hD hS hw
  intro ls hl hP hD hS
  have hl : lv_has ls 3 [(0, .ref a_p0), (1, .int x1)] := hl
  unfold wp_St_restart at hw
  refine lv_iload_n hx hb d_St_restart_0 rfl (lv_at hl 1 rfl) ?_
  refine lv_if_eq hx hb d_St_restart_1 rfl (fun hc => ?_) (fun hc => ?_)
  · have hw := hw.1 hc
    refine lv_bipush (v := 73) hx hb d_St_restart_9 (by decide) ?_
    exact b11 _ _ _ I_p0 f_p0_bytes 73 hP hD hS (lv_sub hl [0] rfl) hw
  · have hw := hw.2 hc
    refine lv_bipush (v := 77) hx hb d_St_restart_4 (by decide) ?_
    refine lv_goto hx hb d_St_restart_6 rfl ?_
    exact b11 _ _ _ I_p0 f_p0_bytes 77 hP hD hS (lv_sub hl [0] rfl) hw
theorem d_J_fill_0 : decode b_J_fill 0 = .ok (.iconst 0, 1) := by decide +kernel
theorem d_J_fill_1 : decode b_J_fill 1 = .ok (.istore_n 2, 1) := by decide +kernel
theorem d_J_fill_2 : decode b_J_fill 2 = .ok (.aload_n 0, 1) := by decide +kernel
theorem d_J_fill_3 : decode b_J_fill 3 = .ok (.arraylength, 1) := by decide +kernel
theorem d_J_fill_4 : decode b_J_fill 4 = .ok (.istore_n 3, 1) := by decide +kernel
theorem d_J_fill_5 : decode b_J_fill 5 = .ok (.iload_n 2, 1) := by decide +kernel
theorem d_J_fill_6 : decode b_J_fill 6 = .ok (.iload_n 3, 1) := by decide +kernel
theorem d_J_fill_7 : decode b_J_fill 7 = .ok (.if_icmp .ge 13, 3) := by decide +kernel
theorem d_J_fill_10 : decode b_J_fill 10 = .ok (.aload_n 0, 1) := by decide +kernel
theorem d_J_fill_11 : decode b_J_fill 11 = .ok (.iload_n 2, 1) := by decide +kernel
theorem d_J_fill_12 : decode b_J_fill 12 = .ok (.iload_n 1, 1) := by decide +kernel
theorem d_J_fill_13 : decode b_J_fill 13 = .ok (.iastore, 1) := by decide +kernel
theorem d_J_fill_14 : decode b_J_fill 14 = .ok (.iinc 2 1, 3) := by decide +kernel
theorem d_J_fill_17 : decode b_J_fill 17 = .ok (.goto (-12), 3) := by decide +kernel
theorem d_J_fill_20 : decode b_J_fill 20 = .ok (.return_, 1) := by decide +kernel
def wp_J_fill_l5 (post : (Nat → Int32) → Prop) : Nat → (Nat → Int32) → Int32 → Int32 → Int32 → Prop
  | 0, _, _, _, _ => False
  | n + 1, f_p0, x1, x2, x3 =>
    ((x3 ≤ x2 →
      post f_p0) ∧
     (¬ x3 ≤ x2 →
      vp_in x2 256 ∧
      wp_J_fill_l5 post n (upd f_p0 (x2).toNatClampNeg x1) x1 (x2 + 1) x3))
def wp_J_fill (post : (Nat → Int32) → Prop) (f_p0 : Nat → Int32) (x1 : Int32) : Prop :=
  (∃ n1 : Nat, wp_J_fill_l5 post n1 f_p0 x1 0 256)
set_option maxRecDepth 100000 in
set_option maxHeartbeats 4000000 in
theorem c_J_fill (l : Launch) (dC : Nat → ClassId) (dI : Nat → Nat → Nat) (cI : ClassId) (a_p0 : Nat) (f_p0 : Nat → Int32) (x1 : Int32) {post : (Nat → Int32) → Prop} (hw : wp_J_fill post f_p0 x1) : gm_v l y_J_fill ws_J_fill ({ frames := 0, cells := 0, slots := 0, locals := 0 } : Room) (dC, dI) vwCl [(cI, .int)] [.ref a_p0, .int x1] [gz cI a_p0 256 f_p0] (fun (u : (Nat → Int32)) => [gz cI a_p0 256 u]) (fun (u : (Nat → Int32)) => post  u) := by
  refine gm_vof (cc := b_J_fill) (maxL := 4) (by decide) rfl (Nat.le_of_ble_eq_true rfl) ?_
  intro p e s m args below meth c A Q hx hb hml hown hg hK hN hA hnm hret
  have hown : s.vm.findClass R_J = some m.cls := hown
  have l5 : ∀ n : Nat, ∀ (H : Heap) (locs : List Loc) (ls : Array Slot) (f_p0 : Nat → Int32) (x1 : Int32) (x2 : Int32) (x3 : Int32), va_P (dC, dI) vwCl [gz cI a_p0 256 f_p0] H → va_D A [gz cI a_p0 256 f_p0] → va_S A s.heap H locs → lv_has ls 4 [(0, .ref a_p0), (1, .int x1), (2, .int x2), (3, .int x3)] → wp_J_fill_l5 post n f_p0 x1 x2 x3 → W p l e ({ frames := 0, cells := 0, slots := 0, locals := 0 } : Room) s m args below meth c H locs 0 0 Q (F0 m 5 ls []) := by
    intro n
    induction n with
    | zero => intro H locs ls f_p0 x1 x2 x3 hP hD hS hl hw; exact hw.elim
    | succ n ih =>
      intro H locs ls f_p0 x1 x2 x3 hP hD hS hl hw
      unfold wp_J_fill_l5 at hw
      refine lv_iload_n hx hb d_J_fill_5 rfl (lv_at hl 2 rfl) ?_
      refine lv_iload_n hx hb d_J_fill_6 rfl (lv_at hl 3 rfl) ?_
      refine lv_icmp_ge hx hb d_J_fill_7 rfl (fun hc => ?_) (fun hc => ?_)
      · have hw := hw.1 hc
        exact hret _ _ _ _ f_p0 d_J_fill_20 hP hD hS hw
      · have hw := hw.2 hc
        refine lv_aload_n hx hb d_J_fill_10 rfl (lv_at hl 0 rfl) ?_
        refine lv_iload_n hx hb d_J_fill_11 rfl (lv_at hl 2 rfl) ?_
        refine lv_iload_n hx hb d_J_fill_12 rfl (lv_at hl 1 rfl) ?_
        obtain ⟨hin, hw⟩ := hw
        refine va_iast hx hb hK hP hD hS 0 0 rfl rfl hin d_J_fill_13 (fun H locs hP hD hS => ?_)
        have hP : va_P (dC, dI) vwCl [gz cI a_p0 256 (upd f_p0 (x2).toNatClampNeg x1)] H := hP
        have hD : va_D A [gz cI a_p0 256 (upd f_p0 (x2).toNatClampNeg x1)] := hD
        refine lv_iinc (k := 2) (v := (x2 + 1)) (lv' := [(2, .int (x2 + 1)), (0, .ref a_p0), (1, .int x1), (3, .int x3)]) hx hb d_J_fill_14 hl rfl (congrArg (fun z => x2 + z) (by decide : Int32.ofInt 1 = 1)) (by decide) rfl (fun ls hl => ?_)
        refine lv_goto hx hb d_J_fill_17 rfl ?_
        exact ih _ _ _ (upd f_p0 (x2).toNatClampNeg x1) x1 (x2 + 1) x3 hP hD hS (lv_sub hl [1, 2, 0, 3] rfl) hw
  intro ls hl hP hD hS
  have hl : lv_has ls 4 [(0, .ref a_p0), (1, .int x1)] := hl
  unfold wp_J_fill at hw
  refine lv_iconst (v := 0) hx hb d_J_fill_0 (by decide) ?_
  refine lv_istore_n (lv' := [(2, .int 0), (0, .ref a_p0), (1, .int x1)]) hx hb d_J_fill_1 rfl hl (by decide) rfl (fun ls hl => ?_)
  refine lv_aload_n hx hb d_J_fill_2 rfl (lv_at hl 1 rfl) ?_
  refine va_alen (v := 256) hx hb hK hP 0 0 rfl rfl rfl d_J_fill_3 ?_
  refine lv_istore_n (lv' := [(3, .int 256), (2, .int 0), (0, .ref a_p0), (1, .int x1)]) hx hb d_J_fill_4 rfl hl (by decide) rfl (fun ls hl => ?_)
  obtain ⟨n1, hw⟩ := hw
  exact l5 n1 _ _ _ f_p0 x1 0 256 hP hD hS (lv_sub hl [2, 3, 1, 0] rfl) hw
theorem d_Pi_become_0 : decode b_Pi_become 0 = .ok (.aload_n 0, 1) := by decide +kernel
theorem d_Pi_become_1 : decode b_Pi_become 1 = .ok (.iload_n 1, 1) := by decide +kernel
theorem d_Pi_become_2 : decode b_Pi_become 2 = .ok (.putfield 15, 3) := by decide +kernel
theorem d_Pi_become_5 : decode b_Pi_become 5 = .ok (.aload_n 0, 1) := by decide +kernel
theorem d_Pi_become_6 : decode b_Pi_become 6 = .ok (.iload_n 2, 1) := by decide +kernel
theorem d_Pi_become_7 : decode b_Pi_become 7 = .ok (.putfield 19, 3) := by decide +kernel
theorem d_Pi_become_10 : decode b_Pi_become 10 = .ok (.aload_n 0, 1) := by decide +kernel
theorem d_Pi_become_11 : decode b_Pi_become 11 = .ok (.iload_n 3, 1) := by decide +kernel
theorem d_Pi_become_12 : decode b_Pi_become 12 = .ok (.putfield 22, 3) := by decide +kernel
theorem d_Pi_become_15 : decode b_Pi_become 15 = .ok (.aload_n 0, 1) := by decide +kernel
theorem d_Pi_become_16 : decode b_Pi_become 16 = .ok (.getfield 9, 3) := by decide +kernel
theorem d_Pi_become_19 : decode b_Pi_become 19 = .ok (.iconst 0, 1) := by decide +kernel
theorem d_Pi_become_20 : decode b_Pi_become 20 = .ok (.invokestatic 25, 3) := by decide +kernel
theorem d_Pi_become_23 : decode b_Pi_become 23 = .ok (.return_, 1) := by decide +kernel
def wp_Pi_become (post : (Nat → Int32) → (Nat → Int32) → Prop) (I_p0 : Nat → Int32) (f_p0_samples : Nat → Int32) (x1 : Int32) (x2 : Int32) (x3 : Int32) : Prop :=
  wp_J_fill (fun (f_p0_samples_20 : Nat → Int32) =>
    post (upd (upd (upd I_p0 1 x1) 2 x2) 3 x3) f_p0_samples_20) f_p0_samples 0
set_option maxRecDepth 100000 in
set_option maxHeartbeats 4000000 in
theorem c_Pi_become (l : Launch) (dC : Nat → ClassId) (dI : Nat → Nat → Nat) (cI : ClassId) (a_p0 : Nat) (A_p0 : Nat → Nat) (I_p0 : Nat → Int32) (f_p0_samples : Nat → Int32) (x1 : Int32) (x2 : Int32) (x3 : Int32) {post : (Nat → Int32) → (Nat → Int32) → Prop} (hw : wp_Pi_become post I_p0 f_p0_samples x1 x2 x3) : gm_v l y_Pi_become ws_Pi_become ({ frames := 1, cells := 0, slots := 0, locals := 23 } : Room) (dC, dI) vwCl [(cI, .int)] [.ref a_p0, .int x1, .int x2, .int x3] [oPi a_p0 A_p0 I_p0, gz cI (A_p0 0) 256 f_p0_samples] (fun (u : (Nat → Int32) × (Nat → Int32)) => [oPi a_p0 A_p0 u.1, gz cI (A_p0 0) 256 u.2]) (fun (u : (Nat → Int32) × (Nat → Int32)) => post  u.1 u.2) := by
  refine gm_vof (cc := b_Pi_become) (maxL := 4) (by decide) rfl (Nat.le_of_ble_eq_true rfl) ?_
  intro p e s m args below meth c A Q hx hb hml hown hg hK hN hA hnm hret
  have hown : s.vm.findClass R_Pi = some m.cls := hown
  intro ls hl hP hD hS
  have hl : lv_has ls 4 [(0, .ref a_p0), (1, .int x1), (2, .int x2), (3, .int x3)] := hl
  unfold wp_Pi_become at hw
  refine lv_aload_n hx hb d_Pi_become_0 rfl (lv_at hl 0 rfl) ?_
  refine lv_iload_n hx hb d_Pi_become_1 rfl (lv_at hl 1 rfl) ?_
  refine va_put (D := (dC, dI)) (ci := 6) (v := .int x1) (ty := .int) (C := R_Pi) (T := T_Pi) (N := 4) hx hb hg in_Pi t_Pi tok_Pi nok_Pi hown hK hP hD hS 0 rfl rfl 1 (by decide) (hg _ t_136) (fun _ h9 => h9) rfl (by decide +kernel) rfl rfl (Nat.le_of_ble_eq_true rfl) d_Pi_become_2 (fun H locs hP hD hS => ?_)
  have hP : va_P (dC, dI) vwCl [oPi a_p0 A_p0 (upd I_p0 1 x1), gz cI (A_p0 0) 256 f_p0_samples] H := hP
  have hD : va_D A [oPi a_p0 A_p0 (upd I_p0 1 x1), gz cI (A_p0 0) 256 f_p0_samples] := hD
  refine lv_aload_n hx hb d_Pi_become_5 rfl (lv_at hl 0 rfl) ?_
  refine lv_iload_n hx hb d_Pi_become_6 rfl (lv_at hl 2 rfl) ?_
  refine va_put (D := (dC, dI)) (ci := 6) (v := .int x2) (ty := .int) (C := R_Pi) (T := T_Pi) (N := 4) hx hb hg in_Pi t_Pi tok_Pi nok_Pi hown hK hP hD hS 0 rfl rfl 2 (by decide) (hg _ t_138) (fun _ h9 => h9) rfl (by decide +kernel) rfl rfl (Nat.le_of_ble_eq_true rfl) d_Pi_become_7 (fun H locs hP hD hS => ?_)
  have hP : va_P (dC, dI) vwCl [oPi a_p0 A_p0 (upd (upd I_p0 1 x1) 2 x2), gz cI (A_p0 0) 256 f_p0_samples] H := hP
  have hD : va_D A [oPi a_p0 A_p0 (upd (upd I_p0 1 x1) 2 x2), gz cI (A_p0 0) 256 f_p0_samples] := hD
  refine lv_aload_n hx hb d_Pi_become_10 rfl (lv_at hl 0 rfl) ?_
  refine lv_iload_n hx hb d_Pi_become_11 rfl (lv_at hl 3 rfl) ?_
  refine va_put (D := (dC, dI)) (ci := 6) (v := .int x3) (ty := .int) (C := R_Pi) (T := T_Pi) (N := 4) hx hb hg in_Pi t_Pi tok_Pi nok_Pi hown hK hP hD hS 0 rfl rfl 3 (by decide) (hg _ t_140) (fun _ h9 => h9) rfl (by decide +kernel) rfl rfl (Nat.le_of_ble_eq_true rfl) d_Pi_become_12 (fun H locs hP hD hS => ?_)
  have hP : va_P (dC, dI) vwCl [oPi a_p0 A_p0 (upd (upd (upd I_p0 1 x1) 2 x2) 3 x3), gz cI (A_p0 0) 256 f_p0_samples] H := hP
  have hD : va_D A [oPi a_p0 A_p0 (upd (upd (upd I_p0 1 x1) 2 x2) 3 x3), gz cI (A_p0 0) 256 f_p0_samples] := hD
  refine lv_aload_n hx hb d_Pi_become_15 rfl (lv_at hl 0 rfl) ?_
  refine va_get (D := (dC, dI)) (ci := 6) (v := .ref (A_p0 0)) (C := R_Pi) (T := T_Pi) (N := 4) hx hb hg in_Pi hown hK hP 0 rfl rfl 0 (by decide) (hg _ t_135) (fun _ h9 => h9) rfl d_Pi_become_16 ?_
  refine lv_iconst (v := 0) hx hb d_Pi_become_19 (by decide) ?_
  refine gc_v (wn := fun u => [oPi a_p0 A_p0 (upd (upd (upd I_p0 1 x1) 2 x2) 3 x3), gz cI (A_p0 0) 256 u]) (wr := [oPi a_p0 A_p0 (upd (upd (upd I_p0 1 x1) 2 x2) 3 x3)]) (gr_S (As := [.ref (A_p0 0), .int 0]) (rest := []) ⟨hx, hb, hml, hown, hg⟩ (c_J_fill l dC dI cI (A_p0 0) f_p0_samples 0 hw _) (va_cwS 2 hg (gg_S t_304 t_305 t_70 t_306) rfl rfl rfl (by decide +kernel) ⟨Nat.le_of_ble_eq_true rfl, Nat.le_of_ble_eq_true rfl⟩) hK hN hP hD [1] (by decide) rfl rfl hl.1 rfl (Nat.le_of_ble_eq_true rfl) d_Pi_become_20 ⟨Nat.le_of_ble_eq_true rfl, Nat.le_of_ble_eq_true rfl⟩) rfl rfl hP hD hS hA [1] [0] [0, 1] rfl rfl (by decide) (by decide) (by decide) (fun _ => rfl) ?_
  intro f_p0_samples_20 H locs hw hP hD hS
  try dsimp only at hw
  have hP : va_P (dC, dI) vwCl [oPi a_p0 A_p0 (upd (upd (upd I_p0 1 x1) 2 x2) 3 x3), gz cI (A_p0 0) 256 f_p0_samples_20] H := hP
  have hD : va_D A [oPi a_p0 A_p0 (upd (upd (upd I_p0 1 x1) 2 x2) 3 x3), gz cI (A_p0 0) 256 f_p0_samples_20] := hD
  exact hret _ _ _ _ ((upd (upd (upd I_p0 1 x1) 2 x2) 3 x3), f_p0_samples_20) d_Pi_become_23 hP hD hS hw
