theorem d_X_appendRowsAsPackets_0 : decode b_X_appendRowsAsPackets 0 = .ok (.aload_n 0, 1) := by decide +kernel
theorem d_X_appendRowsAsPackets_1 : decode b_X_appendRowsAsPackets 1 = .ok (.getfield 40, 3) := by decide +kernel
theorem d_X_appendRowsAsPackets_4 : decode b_X_appendRowsAsPackets 4 = .ok (.invokevirtual 276, 3) := by decide +kernel
theorem d_X_appendRowsAsPackets_7 : decode b_X_appendRowsAsPackets 7 = .ok (.istore_n 3, 1) := by decide +kernel
theorem d_X_appendRowsAsPackets_8 : decode b_X_appendRowsAsPackets 8 = .ok (.iload_n 1, 1) := by decide +kernel
theorem d_X_appendRowsAsPackets_9 : decode b_X_appendRowsAsPackets 9 = .ok (.istore 4, 2) := by decide +kernel
theorem d_X_appendRowsAsPackets_11 : decode b_X_appendRowsAsPackets 11 = .ok (.iload 4, 2) := by decide +kernel
theorem d_X_appendRowsAsPackets_13 : decode b_X_appendRowsAsPackets 13 = .ok (.iload_n 2, 1) := by decide +kernel
theorem d_X_appendRowsAsPackets_14 : decode b_X_appendRowsAsPackets 14 = .ok (.if_icmp .ge 33, 3) := by decide +kernel
theorem d_X_appendRowsAsPackets_17 : decode b_X_appendRowsAsPackets 17 = .ok (.aload_n 0, 1) := by decide +kernel
theorem d_X_appendRowsAsPackets_18 : decode b_X_appendRowsAsPackets 18 = .ok (.getfield 47, 3) := by decide +kernel
theorem d_X_appendRowsAsPackets_21 : decode b_X_appendRowsAsPackets 21 = .ok (.getfield 279, 3) := by decide +kernel
theorem d_X_appendRowsAsPackets_24 : decode b_X_appendRowsAsPackets 24 = .ok (.iload 4, 2) := by decide +kernel
theorem d_X_appendRowsAsPackets_26 : decode b_X_appendRowsAsPackets 26 = .ok (.iload_n 3, 1) := by decide +kernel
theorem d_X_appendRowsAsPackets_27 : decode b_X_appendRowsAsPackets 27 = .ok (.imul, 1) := by decide +kernel
theorem d_X_appendRowsAsPackets_28 : decode b_X_appendRowsAsPackets 28 = .ok (.iload 4, 2) := by decide +kernel
theorem d_X_appendRowsAsPackets_30 : decode b_X_appendRowsAsPackets 30 = .ok (.iload_n 3, 1) := by decide +kernel
theorem d_X_appendRowsAsPackets_31 : decode b_X_appendRowsAsPackets 31 = .ok (.imul, 1) := by decide +kernel
theorem d_X_appendRowsAsPackets_32 : decode b_X_appendRowsAsPackets 32 = .ok (.iload_n 3, 1) := by decide +kernel
theorem d_X_appendRowsAsPackets_33 : decode b_X_appendRowsAsPackets 33 = .ok (.iadd, 1) := by decide +kernel
theorem d_X_appendRowsAsPackets_34 : decode b_X_appendRowsAsPackets 34 = .ok (.aload_n 0, 1) := by decide +kernel
theorem d_X_appendRowsAsPackets_35 : decode b_X_appendRowsAsPackets 35 = .ok (.getfield 10, 3) := by decide +kernel
theorem d_X_appendRowsAsPackets_38 : decode b_X_appendRowsAsPackets 38 = .ok (.invokestatic 280, 3) := by decide +kernel
theorem d_X_appendRowsAsPackets_41 : decode b_X_appendRowsAsPackets 41 = .ok (.iinc 4 1, 3) := by decide +kernel
theorem d_X_appendRowsAsPackets_44 : decode b_X_appendRowsAsPackets 44 = .ok (.goto (-33), 3) := by decide +kernel
theorem d_X_appendRowsAsPackets_47 : decode b_X_appendRowsAsPackets 47 = .ok (.return_, 1) := by decide +kernel
def wp_X_appendRowsAsPackets_l11 (post : (Nat → Int32) → (Nat → Int32) → Prop) (f_p0_data_bytes : Nat → Int32) (I_p0_layout : Nat → Int32) : Nat → (Nat → Int32) → (Nat → Int32) → Int32 → Int32 → Int32 → Prop
  | 0, _, _, _, _, _ => False
  | n + 1, I_p0_file, f_p0_file_bytes, x2, x3, x4 =>
    ((x2 ≤ x4 →
      post I_p0_file f_p0_file_bytes) ∧
     (¬ x2 ≤ x4 →
      wp_Pk_encodeRow (fun (I_p0_file_38 : Nat → Int32) (f_p0_file_bytes_38 : Nat → Int32) =>
        wp_X_appendRowsAsPackets_l11 post f_p0_data_bytes I_p0_layout n I_p0_file_38 f_p0_file_bytes_38 x2 x3 (x4 + 1)) f_p0_data_bytes I_p0_file f_p0_file_bytes (x4 * x3) ((x4 * x3) + x3)))
def wp_X_appendRowsAsPackets (post : (Nat → Int32) → (Nat → Int32) → Prop) (f_p0_data_bytes : Nat → Int32) (I_p0_layout : Nat → Int32) (I_p0_file : Nat → Int32) (f_p0_file_bytes : Nat → Int32) (x1 : Int32) (x2 : Int32) : Prop :=
  wp_Ly_bytesARow (fun (r4 : Int32) =>
    (∃ n1 : Nat, wp_X_appendRowsAsPackets_l11 post f_p0_data_bytes I_p0_layout n1 I_p0_file f_p0_file_bytes x2 r4 x1)) I_p0_layout
set_option maxRecDepth 100000 in
set_option maxHeartbeats 4000000 in
theorem c_X_appendRowsAsPackets (l : Launch) (dC : Nat → ClassId) (dI : Nat → Nat → Nat) (cI : ClassId) (a_p0 : Nat) (A_p0 : Nat → Nat) (A_p0_data : Nat → Nat) (A_p0_file : Nat → Nat) (f_p0_data_bytes : Nat → Int32) (I_p0_layout : Nat → Int32) (I_p0_file : Nat → Int32) (f_p0_file_bytes : Nat → Int32) (x1 : Int32) (x2 : Int32) {post : (Nat → Int32) → (Nat → Int32) → Prop} (hw : wp_X_appendRowsAsPackets post f_p0_data_bytes I_p0_layout I_p0_file f_p0_file_bytes x1 x2) : gm_v l y_X_appendRowsAsPackets ws_X_appendRowsAsPackets ({ frames := 3, cells := 0, slots := 0, locals := 72 } : Room) (dC, dI) vwCl [(cI, .int)] [.ref a_p0, .int x1, .int x2] [oX a_p0 A_p0, oDa (A_p0 5) A_p0_data, gz cI (A_p0_data 0) 256 f_p0_data_bytes, oSt (A_p0 0) A_p0_file I_p0_file, gz cI (A_p0_file 0) 900 f_p0_file_bytes, oLy (A_p0 4) I_p0_layout] (fun (u : (Nat → Int32) × (Nat → Int32)) => [oX a_p0 A_p0, oDa (A_p0 5) A_p0_data, gz cI (A_p0_data 0) 256 f_p0_data_bytes, oSt (A_p0 0) A_p0_file u.1, gz cI (A_p0_file 0) 900 u.2, oLy (A_p0 4) I_p0_layout]) (fun (u : (Nat → Int32) × (Nat → Int32)) => post  u.1 u.2) := by
  refine gm_vof (cc := b_X_appendRowsAsPackets) (maxL := 5) (by decide) rfl (Nat.le_of_ble_eq_true rfl) ?_
  intro p e s m args below meth c A Q hx hb hml hown hg hK hN hA hnm hret
  have hown : s.vm.findClass R_X = some m.cls := hown
  have l11 : ∀ n : Nat, ∀ (H : Heap) (locs : List Loc) (ls : Array Slot) (I_p0_file : Nat → Int32) (f_p0_file_bytes : Nat → Int32) (x2 : Int32) (x3 : Int32) (x4 : Int32), va_P (dC, dI) vwCl [oX a_p0 A_p0, oDa (A_p0 5) A_p0_data, gz cI (A_p0_data 0) 256 f_p0_data_bytes, oSt (A_p0 0) A_p0_file I_p0_file, gz cI (A_p0_file 0) 900 f_p0_file_bytes, oLy (A_p0 4) I_p0_layout] H → va_D A [oX a_p0 A_p0, oDa (A_p0 5) A_p0_data, gz cI (A_p0_data 0) 256 f_p0_data_bytes, oSt (A_p0 0) A_p0_file I_p0_file, gz cI (A_p0_file 0) 900 f_p0_file_bytes, oLy (A_p0 4) I_p0_layout] → va_S A s.heap H locs → lv_has ls 5 [(0, .ref a_p0), (2, .int x2), (3, .int x3), (4, .int x4)] → wp_X_appendRowsAsPackets_l11 post f_p0_data_bytes I_p0_layout n I_p0_file f_p0_file_bytes x2 x3 x4 → W p l e ({ frames := 3, cells := 0, slots := 0, locals := 72 } : Room) s m args below meth c H locs 0 0 Q (F0 m 11 ls []) := by
    intro n
    induction n with
    | zero => intro H locs ls I_p0_file f_p0_file_bytes x2 x3 x4 hP hD hS hl hw; exact hw.elim
    | succ n ih =>
      intro H locs ls I_p0_file f_p0_file_bytes x2 x3 x4 hP hD hS hl hw
      unfold wp_X_appendRowsAsPackets_l11 at hw
      refine lv_iload hx hb d_X_appendRowsAsPackets_11 (lv_at hl 3 rfl) ?_
      refine lv_iload_n hx hb d_X_appendRowsAsPackets_13 rfl (lv_at hl 1 rfl) ?_
      refine lv_icmp_ge hx hb d_X_appendRowsAsPackets_14 rfl (fun hc => ?_) (fun hc => ?_)
      · have hw := hw.1 hc
        exact hret _ _ _ _ (I_p0_file, f_p0_file_bytes) d_X_appendRowsAsPackets_47 hP hD hS hw
      · have hw := hw.2 hc
        refine lv_aload_n hx hb d_X_appendRowsAsPackets_17 rfl (lv_at hl 0 rfl) ?_
        refine va_get (D := (dC, dI)) (ci := 9) (v := .ref (A_p0 5)) (C := R_X) (T := T_X) (N := 14) hx hb hg in_X hown hK hP 0 rfl rfl 5 (by decide) (hg _ t_312) (fun _ h9 => h9) rfl d_X_appendRowsAsPackets_18 ?_
        refine va_get (D := (dC, dI)) (ci := 0) (v := .ref (A_p0_data 0)) (C := R_Da) (T := T_Da) (N := 1) hx hb hg in_Da hown hK hP 1 rfl rfl 0 (by decide) (hg _ t_214) (fun _ h9 => h9) rfl d_X_appendRowsAsPackets_21 ?_
        refine lv_iload hx hb d_X_appendRowsAsPackets_24 (lv_at hl 3 rfl) ?_
        refine lv_iload_n hx hb d_X_appendRowsAsPackets_26 rfl (lv_at hl 2 rfl) ?_
        refine lv_imul hx hb d_X_appendRowsAsPackets_27 ?_
        refine lv_iload hx hb d_X_appendRowsAsPackets_28 (lv_at hl 3 rfl) ?_
        refine lv_iload_n hx hb d_X_appendRowsAsPackets_30 rfl (lv_at hl 2 rfl) ?_
        refine lv_imul hx hb d_X_appendRowsAsPackets_31 ?_
        refine lv_iload_n hx hb d_X_appendRowsAsPackets_32 rfl (lv_at hl 2 rfl) ?_
        refine lv_iadd hx hb d_X_appendRowsAsPackets_33 ?_
        refine lv_aload_n hx hb d_X_appendRowsAsPackets_34 rfl (lv_at hl 0 rfl) ?_
        refine va_get (D := (dC, dI)) (ci := 9) (v := .ref (A_p0 0)) (C := R_X) (T := T_X) (N := 14) hx hb hg in_X hown hK hP 0 rfl rfl 0 (by decide) (hg _ t_307) (fun _ h9 => h9) rfl d_X_appendRowsAsPackets_35 ?_
        refine gc_v (wn := fun u => [oX a_p0 A_p0, oDa (A_p0 5) A_p0_data, gz cI (A_p0_data 0) 256 f_p0_data_bytes, oSt (A_p0 0) A_p0_file u.1, gz cI (A_p0_file 0) 900 u.2, oLy (A_p0 4) I_p0_layout]) (wr := [oX a_p0 A_p0, oDa (A_p0 5) A_p0_data, oLy (A_p0 4) I_p0_layout]) (gr_S (As := [.ref (A_p0_data 0), .int (x4 * x3), .int ((x4 * x3) + x3), .ref (A_p0 0)]) (rest := []) ⟨hx, hb, hml, hown, hg⟩ (c_Pk_encodeRow l dC dI cI (A_p0_data 0) (A_p0 0) A_p0_file f_p0_data_bytes I_p0_file f_p0_file_bytes (x4 * x3) ((x4 * x3) + x3) hw _) (va_cwS 4 hg (gg_S t_543 t_544 t_73 t_545) rfl rfl rfl (by decide +kernel) ⟨Nat.le_of_ble_eq_true rfl, Nat.le_of_ble_eq_true rfl⟩) hK hN hP hD [2, 3, 4] (by decide) rfl rfl hl.1 rfl (Nat.le_of_ble_eq_true rfl) d_X_appendRowsAsPackets_38 ⟨Nat.le_of_ble_eq_true rfl, Nat.le_of_ble_eq_true rfl⟩) rfl rfl hP hD hS hA [2, 3, 4] [0, 1, 5] [0, 1, 3, 4, 5, 2] rfl rfl (by decide) (by decide) (by decide) (fun _ => rfl) ?_
        intro u9 H locs hw hP hD hS
        obtain ⟨I_p0_file_38, f_p0_file_bytes_38⟩ := u9
        try dsimp only at hw
        have hP : va_P (dC, dI) vwCl [oX a_p0 A_p0, oDa (A_p0 5) A_p0_data, gz cI (A_p0_data 0) 256 f_p0_data_bytes, oSt (A_p0 0) A_p0_file I_p0_file_38, gz cI (A_p0_file 0) 900 f_p0_file_bytes_38, oLy (A_p0 4) I_p0_layout] H := hP
        have hD : va_D A [oX a_p0 A_p0, oDa (A_p0 5) A_p0_data, gz cI (A_p0_data 0) 256 f_p0_data_bytes, oSt (A_p0 0) A_p0_file I_p0_file_38, gz cI (A_p0_file 0) 900 f_p0_file_bytes_38, oLy (A_p0 4) I_p0_layout] := hD
        refine lv_iinc (k := 3) (v := (x4 + 1)) (lv' := [(4, .int (x4 + 1)), (0, .ref a_p0), (2, .int x2), (3, .int x3)]) hx hb d_X_appendRowsAsPackets_41 hl rfl (congrArg (fun z => x4 + z) (by decide : Int32.ofInt 1 = 1)) (by decide) rfl (fun ls hl => ?_)
        refine lv_goto hx hb d_X_appendRowsAsPackets_44 rfl ?_
        exact ih _ _ _ I_p0_file_38 f_p0_file_bytes_38 x2 x3 (x4 + 1) hP hD hS (lv_sub hl [1, 2, 3, 0] rfl) hw
  intro ls hl hP hD hS
  have hl : lv_has ls 5 [(0, .ref a_p0), (1, .int x1), (2, .int x2)] := hl
  unfold wp_X_appendRowsAsPackets at hw
  refine lv_aload_n hx hb d_X_appendRowsAsPackets_0 rfl (lv_at hl 0 rfl) ?_
  refine va_get (D := (dC, dI)) (ci := 9) (v := .ref (A_p0 4)) (C := R_X) (T := T_X) (N := 14) hx hb hg in_X hown hK hP 0 rfl rfl 4 (by decide) (hg _ t_311) (fun _ h9 => h9) rfl d_X_appendRowsAsPackets_1 ?_
  refine gc_i (wn := fun (_ : Unit) => [oX a_p0 A_p0, oDa (A_p0 5) A_p0_data, gz cI (A_p0_data 0) 256 f_p0_data_bytes, oSt (A_p0 0) A_p0_file I_p0_file, gz cI (A_p0_file 0) 900 f_p0_file_bytes, oLy (A_p0 4) I_p0_layout]) (wr := [oX a_p0 A_p0, oDa (A_p0 5) A_p0_data, gz cI (A_p0_data 0) 256 f_p0_data_bytes, oSt (A_p0 0) A_p0_file I_p0_file, gz cI (A_p0_file 0) 900 f_p0_file_bytes]) (gr_V (As := []) (rest := []) ⟨hx, hb, hml, hown, hg⟩ (c_Ly_bytesARow l dC dI cI (A_p0 4) I_p0_layout hw _) (cwV 0 hg (gg_V t_542 t_504 t_505 t_65 t_506) rfl rfl rfl (by decide +kernel) ⟨Nat.le_of_ble_eq_true rfl, Nat.le_of_ble_eq_true rfl⟩) hK hN hP hD [5] (by decide) rfl 5 3 rfl rfl rfl rfl hl.1 rfl (Nat.le_of_ble_eq_true rfl) d_X_appendRowsAsPackets_4 ⟨Nat.le_of_ble_eq_true rfl, Nat.le_of_ble_eq_true rfl⟩) rfl rfl hP hD hS hA [5] [0, 1, 2, 3, 4] [0, 1, 2, 3, 4, 5] rfl rfl (by decide) (by decide) (by decide) (fun _ => rfl) ?_
  intro r4 _ H locs hw hP hD hS
  try dsimp only at hw
  have hP : va_P (dC, dI) vwCl [oX a_p0 A_p0, oDa (A_p0 5) A_p0_data, gz cI (A_p0_data 0) 256 f_p0_data_bytes, oSt (A_p0 0) A_p0_file I_p0_file, gz cI (A_p0_file 0) 900 f_p0_file_bytes, oLy (A_p0 4) I_p0_layout] H := hP
  have hD : va_D A [oX a_p0 A_p0, oDa (A_p0 5) A_p0_data, gz cI (A_p0_data 0) 256 f_p0_data_bytes, oSt (A_p0 0) A_p0_file I_p0_file, gz cI (A_p0_file 0) 900 f_p0_file_bytes, oLy (A_p0 4) I_p0_layout] := hD
  refine lv_istore_n (lv' := [(3, .int r4), (0, .ref a_p0), (1, .int x1), (2, .int x2)]) hx hb d_X_appendRowsAsPackets_7 rfl hl (by decide) rfl (fun ls hl => ?_)
  refine lv_iload_n hx hb d_X_appendRowsAsPackets_8 rfl (lv_at hl 2 rfl) ?_
  refine lv_istore (lv' := [(4, .int x1), (3, .int r4), (0, .ref a_p0), (1, .int x1), (2, .int x2)]) hx hb d_X_appendRowsAsPackets_9 hl (by decide) rfl (fun ls hl => ?_)
  obtain ⟨n1, hw⟩ := hw
  exact l11 n1 _ _ _ I_p0_file f_p0_file_bytes x2 r4 x1 hP hD hS (lv_sub hl [2, 4, 1, 0] rfl) hw
theorem d_Da_appendPlain_0 : decode b_Da_appendPlain 0 = .ok (.iload_n 1, 1) := by decide +kernel
theorem d_Da_appendPlain_1 : decode b_Da_appendPlain 1 = .ok (.istore 4, 2) := by decide +kernel
theorem d_Da_appendPlain_3 : decode b_Da_appendPlain 3 = .ok (.iload 4, 2) := by decide +kernel
theorem d_Da_appendPlain_5 : decode b_Da_appendPlain 5 = .ok (.iload_n 2, 1) := by decide +kernel
theorem d_Da_appendPlain_6 : decode b_Da_appendPlain 6 = .ok (.if_icmp .ge 20, 3) := by decide +kernel
theorem d_Da_appendPlain_9 : decode b_Da_appendPlain 9 = .ok (.aload_n 3, 1) := by decide +kernel
theorem d_Da_appendPlain_10 : decode b_Da_appendPlain 10 = .ok (.aload_n 0, 1) := by decide +kernel
theorem d_Da_appendPlain_11 : decode b_Da_appendPlain 11 = .ok (.getfield 9, 3) := by decide +kernel
theorem d_Da_appendPlain_14 : decode b_Da_appendPlain 14 = .ok (.iload 4, 2) := by decide +kernel
theorem d_Da_appendPlain_16 : decode b_Da_appendPlain 16 = .ok (.iaload, 1) := by decide +kernel
theorem d_Da_appendPlain_17 : decode b_Da_appendPlain 17 = .ok (.invokevirtual 53, 3) := by decide +kernel
theorem d_Da_appendPlain_20 : decode b_Da_appendPlain 20 = .ok (.iinc 4 1, 3) := by decide +kernel
theorem d_Da_appendPlain_23 : decode b_Da_appendPlain 23 = .ok (.goto (-20), 3) := by decide +kernel
theorem d_Da_appendPlain_26 : decode b_Da_appendPlain 26 = .ok (.return_, 1) := by decide +kernel
def wp_Da_appendPlain_l3 (post : (Nat → Int32) → (Nat → Int32) → Prop) (f_p0_bytes : Nat → Int32) : Nat → (Nat → Int32) → (Nat → Int32) → Int32 → Int32 → Prop
  | 0, _, _, _, _ => False
  | n + 1, I_p3, f_p3_bytes, x2, x4 =>
    ((x2 ≤ x4 →
      post I_p3 f_p3_bytes) ∧
     (¬ x2 ≤ x4 →
      vp_in x4 256 ∧
      wp_St_append (fun (I_p3_17 : Nat → Int32) (f_p3_bytes_17 : Nat → Int32) =>
        wp_Da_appendPlain_l3 post f_p0_bytes n I_p3_17 f_p3_bytes_17 x2 (x4 + 1)) I_p3 f_p3_bytes (f_p0_bytes (x4).toNatClampNeg)))
def wp_Da_appendPlain (post : (Nat → Int32) → (Nat → Int32) → Prop) (f_p0_bytes : Nat → Int32) (I_p3 : Nat → Int32) (f_p3_bytes : Nat → Int32) (x1 : Int32) (x2 : Int32) : Prop :=
  (∃ n1 : Nat, wp_Da_appendPlain_l3 post f_p0_bytes n1 I_p3 f_p3_bytes x2 x1)
set_option maxRecDepth 100000 in
set_option maxHeartbeats 4000000 in
theorem c_Da_appendPlain (l : Launch) (dC : Nat → ClassId) (dI : Nat → Nat → Nat) (cI : ClassId) (a_p0 : Nat) (a_p3 : Nat) (A_p0 : Nat → Nat) (A_p3 : Nat → Nat) (f_p0_bytes : Nat → Int32) (I_p3 : Nat → Int32) (f_p3_bytes : Nat → Int32) (x1 : Int32) (x2 : Int32) {post : (Nat → Int32) → (Nat → Int32) → Prop} (hw : wp_Da_appendPlain post f_p0_bytes I_p3 f_p3_bytes x1 x2) : gm_v l y_Da_appendPlain ws_Da_appendPlain ({ frames := 1, cells := 0, slots := 0, locals := 21 } : Room) (dC, dI) vwCl [(cI, .int)] [.ref a_p0, .int x1, .int x2, .ref a_p3] [oDa a_p0 A_p0, gz cI (A_p0 0) 256 f_p0_bytes, oSt a_p3 A_p3 I_p3, gz cI (A_p3 0) 900 f_p3_bytes] (fun (u : (Nat → Int32) × (Nat → Int32)) => [oDa a_p0 A_p0, gz cI (A_p0 0) 256 f_p0_bytes, oSt a_p3 A_p3 u.1, gz cI (A_p3 0) 900 u.2]) (fun (u : (Nat → Int32) × (Nat → Int32)) => post  u.1 u.2) := by
  refine gm_vof (cc := b_Da_appendPlain) (maxL := 5) (by decide) rfl (Nat.le_of_ble_eq_true rfl) ?_
  intro p e s m args below meth c A Q hx hb hml hown hg hK hN hA hnm hret
  have hown : s.vm.findClass R_Da = some m.cls := hown
  have l3 : ∀ n : Nat, ∀ (H : Heap) (locs : List Loc) (ls : Array Slot) (I_p3 : Nat → Int32) (f_p3_bytes : Nat → Int32) (x2 : Int32) (x4 : Int32), va_P (dC, dI) vwCl [oDa a_p0 A_p0, gz cI (A_p0 0) 256 f_p0_bytes, oSt a_p3 A_p3 I_p3, gz cI (A_p3 0) 900 f_p3_bytes] H → va_D A [oDa a_p0 A_p0, gz cI (A_p0 0) 256 f_p0_bytes, oSt a_p3 A_p3 I_p3, gz cI (A_p3 0) 900 f_p3_bytes] → va_S A s.heap H locs → lv_has ls 5 [(0, .ref a_p0), (2, .int x2), (3, .ref a_p3), (4, .int x4)] → wp_Da_appendPlain_l3 post f_p0_bytes n I_p3 f_p3_bytes x2 x4 → W p l e ({ frames := 1, cells := 0, slots := 0, locals := 21 } : Room) s m args below meth c H locs 0 0 Q (F0 m 3 ls []) := by
    intro n
    induction n with
    | zero => intro H locs ls I_p3 f_p3_bytes x2 x4 hP hD hS hl hw; exact hw.elim
    | succ n ih =>
      intro H locs ls I_p3 f_p3_bytes x2 x4 hP hD hS hl hw
      unfold wp_Da_appendPlain_l3 at hw
      refine lv_iload hx hb d_Da_appendPlain_3 (lv_at hl 3 rfl) ?_
      refine lv_iload_n hx hb d_Da_appendPlain_5 rfl (lv_at hl 1 rfl) ?_
      refine lv_icmp_ge hx hb d_Da_appendPlain_6 rfl (fun hc => ?_) (fun hc => ?_)
      · have hw := hw.1 hc
        exact hret _ _ _ _ (I_p3, f_p3_bytes) d_Da_appendPlain_26 hP hD hS hw
      · have hw := hw.2 hc
        refine lv_aload_n hx hb d_Da_appendPlain_9 rfl (lv_at hl 2 rfl) ?_
        refine lv_aload_n hx hb d_Da_appendPlain_10 rfl (lv_at hl 0 rfl) ?_
        refine va_get (D := (dC, dI)) (ci := 0) (v := .ref (A_p0 0)) (C := R_Da) (T := T_Da) (N := 1) hx hb hg in_Da hown hK hP 0 rfl rfl 0 (by decide) (hg _ t_213) (fun _ h9 => h9) rfl d_Da_appendPlain_11 ?_
        refine lv_iload hx hb d_Da_appendPlain_14 (lv_at hl 3 rfl) ?_
        obtain ⟨hin, hw⟩ := hw
        refine va_iald hx hb hK hP 1 0 rfl rfl hin d_Da_appendPlain_16 ?_
        refine gc_v (wn := fun u => [oDa a_p0 A_p0, gz cI (A_p0 0) 256 f_p0_bytes, oSt a_p3 A_p3 u.1, gz cI (A_p3 0) 900 u.2]) (wr := [oDa a_p0 A_p0, gz cI (A_p0 0) 256 f_p0_bytes]) (gr_V (As := [.int (f_p0_bytes (x4).toNatClampNeg)]) (rest := []) ⟨hx, hb, hml, hown, hg⟩ (c_St_append l dC dI cI a_p3 A_p3 I_p3 f_p3_bytes (f_p0_bytes (x4).toNatClampNeg) hw _) (cwV 1 hg (gg_V t_535 t_285 t_286 t_61 t_287) rfl rfl rfl (by decide +kernel) ⟨Nat.le_of_ble_eq_true rfl, Nat.le_of_ble_eq_true rfl⟩) hK hN hP hD [2, 3] (by decide) rfl 2 7 rfl rfl rfl rfl hl.1 rfl (Nat.le_of_ble_eq_true rfl) d_Da_appendPlain_17 ⟨Nat.le_of_ble_eq_true rfl, Nat.le_of_ble_eq_true rfl⟩) rfl rfl hP hD hS hA [2, 3] [0, 1] [0, 1, 2, 3] rfl rfl (by decide) (by decide) (by decide) (fun _ => rfl) ?_
        intro u9 H locs hw hP hD hS
        obtain ⟨I_p3_17, f_p3_bytes_17⟩ := u9
        try dsimp only at hw
        have hP : va_P (dC, dI) vwCl [oDa a_p0 A_p0, gz cI (A_p0 0) 256 f_p0_bytes, oSt a_p3 A_p3 I_p3_17, gz cI (A_p3 0) 900 f_p3_bytes_17] H := hP
        have hD : va_D A [oDa a_p0 A_p0, gz cI (A_p0 0) 256 f_p0_bytes, oSt a_p3 A_p3 I_p3_17, gz cI (A_p3 0) 900 f_p3_bytes_17] := hD
        refine lv_iinc (k := 3) (v := (x4 + 1)) (lv' := [(4, .int (x4 + 1)), (0, .ref a_p0), (2, .int x2), (3, .ref a_p3)]) hx hb d_Da_appendPlain_20 hl rfl (congrArg (fun z => x4 + z) (by decide : Int32.ofInt 1 = 1)) (by decide) rfl (fun ls hl => ?_)
        refine lv_goto hx hb d_Da_appendPlain_23 rfl ?_
        exact ih _ _ _ I_p3_17 f_p3_bytes_17 x2 (x4 + 1) hP hD hS (lv_sub hl [1, 2, 3, 0] rfl) hw
  intro ls hl hP hD hS
  have hl : lv_has ls 5 [(0, .ref a_p0), (1, .int x1), (2, .int x2), (3, .ref a_p3)] := hl
  unfold wp_Da_appendPlain at hw
  refine lv_iload_n hx hb d_Da_appendPlain_0 rfl (lv_at hl 1 rfl) ?_
  refine lv_istore (lv' := [(4, .int x1), (0, .ref a_p0), (1, .int x1), (2, .int x2), (3, .ref a_p3)]) hx hb d_Da_appendPlain_1 hl (by decide) rfl (fun ls hl => ?_)
  obtain ⟨n1, hw⟩ := hw
  exact l3 n1 _ _ _ I_p3 f_p3_bytes x2 x1 hP hD hS (lv_sub hl [1, 3, 4, 0] rfl) hw
theorem d_X_appendStrips_0 : decode b_X_appendStrips 0 = .ok (.iconst 0, 1) := by decide +kernel
theorem d_X_appendStrips_1 : decode b_X_appendStrips 1 = .ok (.istore_n 1, 1) := by decide +kernel
theorem d_X_appendStrips_2 : decode b_X_appendStrips 2 = .ok (.iload_n 1, 1) := by decide +kernel
theorem d_X_appendStrips_3 : decode b_X_appendStrips 3 = .ok (.aload_n 0, 1) := by decide +kernel
theorem d_X_appendStrips_4 : decode b_X_appendStrips 4 = .ok (.getfield 40, 3) := by decide +kernel
theorem d_X_appendStrips_7 : decode b_X_appendStrips 7 = .ok (.invokevirtual 197, 3) := by decide +kernel
theorem d_X_appendStrips_10 : decode b_X_appendStrips 10 = .ok (.if_icmp .ge 151, 3) := by decide +kernel
theorem d_X_appendStrips_13 : decode b_X_appendStrips 13 = .ok (.aload_n 0, 1) := by decide +kernel
theorem d_X_appendStrips_14 : decode b_X_appendStrips 14 = .ok (.getfield 40, 3) := by decide +kernel
theorem d_X_appendStrips_17 : decode b_X_appendStrips 17 = .ok (.iload_n 1, 1) := by decide +kernel
theorem d_X_appendStrips_18 : decode b_X_appendStrips 18 = .ok (.invokevirtual 251, 3) := by decide +kernel
theorem d_X_appendStrips_21 : decode b_X_appendStrips 21 = .ok (.istore_n 2, 1) := by decide +kernel
theorem d_X_appendStrips_22 : decode b_X_appendStrips 22 = .ok (.aload_n 0, 1) := by decide +kernel
theorem d_X_appendStrips_23 : decode b_X_appendStrips 23 = .ok (.getfield 40, 3) := by decide +kernel
theorem d_X_appendStrips_26 : decode b_X_appendStrips 26 = .ok (.iload_n 1, 1) := by decide +kernel
theorem d_X_appendStrips_27 : decode b_X_appendStrips 27 = .ok (.iconst 1, 1) := by decide +kernel
theorem d_X_appendStrips_28 : decode b_X_appendStrips 28 = .ok (.iadd, 1) := by decide +kernel
theorem d_X_appendStrips_29 : decode b_X_appendStrips 29 = .ok (.invokevirtual 251, 3) := by decide +kernel
theorem d_X_appendStrips_32 : decode b_X_appendStrips 32 = .ok (.istore_n 3, 1) := by decide +kernel
theorem d_X_appendStrips_33 : decode b_X_appendStrips 33 = .ok (.aload_n 0, 1) := by decide +kernel
theorem d_X_appendStrips_34 : decode b_X_appendStrips 34 = .ok (.getfield 10, 3) := by decide +kernel
theorem d_X_appendStrips_37 : decode b_X_appendStrips 37 = .ok (.invokevirtual 255, 3) := by decide +kernel
theorem d_X_appendStrips_40 : decode b_X_appendStrips 40 = .ok (.aload_n 0, 1) := by decide +kernel
theorem d_X_appendStrips_41 : decode b_X_appendStrips 41 = .ok (.getfield 78, 3) := by decide +kernel
theorem d_X_appendStrips_44 : decode b_X_appendStrips 44 = .ok (.iload_n 1, 1) := by decide +kernel
theorem d_X_appendStrips_45 : decode b_X_appendStrips 45 = .ok (.aload_n 0, 1) := by decide +kernel
theorem d_X_appendStrips_46 : decode b_X_appendStrips 46 = .ok (.getfield 10, 3) := by decide +kernel
theorem d_X_appendStrips_49 : decode b_X_appendStrips 49 = .ok (.getfield 174, 3) := by decide +kernel
theorem d_X_appendStrips_52 : decode b_X_appendStrips 52 = .ok (.iastore, 1) := by decide +kernel
theorem d_X_appendStrips_53 : decode b_X_appendStrips 53 = .ok (.aload_n 0, 1) := by decide +kernel
theorem d_X_appendStrips_54 : decode b_X_appendStrips 54 = .ok (.getfield 40, 3) := by decide +kernel
theorem d_X_appendStrips_57 : decode b_X_appendStrips 57 = .ok (.getfield 258, 3) := by decide +kernel
theorem d_X_appendStrips_60 : decode b_X_appendStrips 60 = .ok (.iconst 1, 1) := by decide +kernel
theorem d_X_appendStrips_61 : decode b_X_appendStrips 61 = .ok (.if_icmp .ne 19, 3) := by decide +kernel
theorem d_X_appendStrips_64 : decode b_X_appendStrips 64 = .ok (.aload_n 0, 1) := by decide +kernel
theorem d_X_appendStrips_65 : decode b_X_appendStrips 65 = .ok (.getfield 47, 3) := by decide +kernel
theorem d_X_appendStrips_68 : decode b_X_appendStrips 68 = .ok (.iload_n 2, 1) := by decide +kernel
theorem d_X_appendStrips_69 : decode b_X_appendStrips 69 = .ok (.iload_n 3, 1) := by decide +kernel
theorem d_X_appendStrips_70 : decode b_X_appendStrips 70 = .ok (.aload_n 0, 1) := by decide +kernel
theorem d_X_appendStrips_71 : decode b_X_appendStrips 71 = .ok (.getfield 10, 3) := by decide +kernel
theorem d_X_appendStrips_74 : decode b_X_appendStrips 74 = .ok (.invokevirtual 261, 3) := by decide +kernel
theorem d_X_appendStrips_77 : decode b_X_appendStrips 77 = .ok (.goto 58, 3) := by decide +kernel
theorem d_X_appendStrips_80 : decode b_X_appendStrips 80 = .ok (.aload_n 0, 1) := by decide +kernel
theorem d_X_appendStrips_81 : decode b_X_appendStrips 81 = .ok (.getfield 40, 3) := by decide +kernel
theorem d_X_appendStrips_84 : decode b_X_appendStrips 84 = .ok (.getfield 258, 3) := by decide +kernel
theorem d_X_appendStrips_87 : decode b_X_appendStrips 87 = .ok (.ldc_w 265, 3) := by decide +kernel
theorem d_X_appendStrips_90 : decode b_X_appendStrips 90 = .ok (.if_icmp .ne 28, 3) := by decide +kernel
theorem d_X_appendStrips_93 : decode b_X_appendStrips 93 = .ok (.aload_n 0, 1) := by decide +kernel
theorem d_X_appendStrips_94 : decode b_X_appendStrips 94 = .ok (.aload_n 0, 1) := by decide +kernel
theorem d_X_appendStrips_95 : decode b_X_appendStrips 95 = .ok (.getfield 40, 3) := by decide +kernel
theorem d_X_appendStrips_98 : decode b_X_appendStrips 98 = .ok (.iload_n 1, 1) := by decide +kernel
theorem d_X_appendStrips_99 : decode b_X_appendStrips 99 = .ok (.invokevirtual 266, 3) := by decide +kernel
theorem d_X_appendStrips_102 : decode b_X_appendStrips 102 = .ok (.aload_n 0, 1) := by decide +kernel
theorem d_X_appendStrips_103 : decode b_X_appendStrips 103 = .ok (.getfield 40, 3) := by decide +kernel
theorem d_X_appendStrips_106 : decode b_X_appendStrips 106 = .ok (.iload_n 1, 1) := by decide +kernel
theorem d_X_appendStrips_107 : decode b_X_appendStrips 107 = .ok (.iconst 1, 1) := by decide +kernel
theorem d_X_appendStrips_108 : decode b_X_appendStrips 108 = .ok (.iadd, 1) := by decide +kernel
theorem d_X_appendStrips_109 : decode b_X_appendStrips 109 = .ok (.invokevirtual 266, 3) := by decide +kernel
theorem d_X_appendStrips_112 : decode b_X_appendStrips 112 = .ok (.invokevirtual 269, 3) := by decide +kernel
theorem d_X_appendStrips_115 : decode b_X_appendStrips 115 = .ok (.goto 20, 3) := by decide +kernel
theorem d_X_appendStrips_118 : decode b_X_appendStrips 118 = .ok (.aload_n 0, 1) := by decide +kernel
theorem d_X_appendStrips_119 : decode b_X_appendStrips 119 = .ok (.getfield 54, 3) := by decide +kernel
theorem d_X_appendStrips_122 : decode b_X_appendStrips 122 = .ok (.aload_n 0, 1) := by decide +kernel
theorem d_X_appendStrips_123 : decode b_X_appendStrips 123 = .ok (.getfield 47, 3) := by decide +kernel
theorem d_X_appendStrips_126 : decode b_X_appendStrips 126 = .ok (.iload_n 2, 1) := by decide +kernel
theorem d_X_appendStrips_127 : decode b_X_appendStrips 127 = .ok (.iload_n 3, 1) := by decide +kernel
theorem d_X_appendStrips_128 : decode b_X_appendStrips 128 = .ok (.aload_n 0, 1) := by decide +kernel
theorem d_X_appendStrips_129 : decode b_X_appendStrips 129 = .ok (.getfield 10, 3) := by decide +kernel
theorem d_X_appendStrips_132 : decode b_X_appendStrips 132 = .ok (.invokevirtual 272, 3) := by decide +kernel
theorem d_X_appendStrips_135 : decode b_X_appendStrips 135 = .ok (.aload_n 0, 1) := by decide +kernel
theorem d_X_appendStrips_136 : decode b_X_appendStrips 136 = .ok (.getfield 82, 3) := by decide +kernel
theorem d_X_appendStrips_139 : decode b_X_appendStrips 139 = .ok (.iload_n 1, 1) := by decide +kernel
theorem d_X_appendStrips_140 : decode b_X_appendStrips 140 = .ok (.aload_n 0, 1) := by decide +kernel
theorem d_X_appendStrips_141 : decode b_X_appendStrips 141 = .ok (.getfield 10, 3) := by decide +kernel
theorem d_X_appendStrips_144 : decode b_X_appendStrips 144 = .ok (.getfield 174, 3) := by decide +kernel
theorem d_X_appendStrips_147 : decode b_X_appendStrips 147 = .ok (.aload_n 0, 1) := by decide +kernel
theorem d_X_appendStrips_148 : decode b_X_appendStrips 148 = .ok (.getfield 78, 3) := by decide +kernel
theorem d_X_appendStrips_151 : decode b_X_appendStrips 151 = .ok (.iload_n 1, 1) := by decide +kernel
theorem d_X_appendStrips_152 : decode b_X_appendStrips 152 = .ok (.iaload, 1) := by decide +kernel
theorem d_X_appendStrips_153 : decode b_X_appendStrips 153 = .ok (.isub, 1) := by decide +kernel
theorem d_X_appendStrips_154 : decode b_X_appendStrips 154 = .ok (.iastore, 1) := by decide +kernel
theorem d_X_appendStrips_155 : decode b_X_appendStrips 155 = .ok (.iinc 1 1, 3) := by decide +kernel
theorem d_X_appendStrips_158 : decode b_X_appendStrips 158 = .ok (.goto (-156), 3) := by decide +kernel
theorem d_X_appendStrips_161 : decode b_X_appendStrips 161 = .ok (.return_, 1) := by decide +kernel
def wp_X_appendStrips_b135 (post : (Nat → Int32) → (Nat → Int32) → (Nat → Int32) → (Nat → Int32) → (Nat → Int32) → (Nat → Int32) → (Nat → Int32) → (Nat → Int32) → Prop) (k2 : (Nat → Int32) → (Nat → Int32) → (Nat → Int32) → (Nat → Int32) → (Nat → Int32) → (Nat → Int32) → (Nat → Int32) → (Nat → Int32) → Int32 → Prop) (f_p0_data_bytes : Nat → Int32) (I_p0_layout : Nat → Int32) (I_p0_encoder : Nat → Int32) (f_p0_encoder_firstChild : Nat → Int32) (f_p0_encoder_lastNibble : Nat → Int32) (f_p0_encoder_nextSibling : Nat → Int32) (I_p0_file : Nat → Int32) (f_p0_file_bytes : Nat → Int32) (f_p0_writtenLengths : Nat → Int32) (f_p0_writtenPlaces : Nat → Int32) (x1 : Int32) : Prop :=
  vp_in x1 16 ∧
  vp_in x1 16 ∧
  k2 I_p0_encoder f_p0_encoder_firstChild f_p0_encoder_lastNibble f_p0_encoder_nextSibling I_p0_file f_p0_file_bytes (upd f_p0_writtenLengths (x1).toNatClampNeg ((I_p0_file 2) - (f_p0_writtenPlaces (x1).toNatClampNeg))) f_p0_writtenPlaces (x1 + 1)
def wp_X_appendStrips_l2 (post : (Nat → Int32) → (Nat → Int32) → (Nat → Int32) → (Nat → Int32) → (Nat → Int32) → (Nat → Int32) → (Nat → Int32) → (Nat → Int32) → Prop) (f_p0_data_bytes : Nat → Int32) (I_p0_layout : Nat → Int32) : Nat → (Nat → Int32) → (Nat → Int32) → (Nat → Int32) → (Nat → Int32) → (Nat → Int32) → (Nat → Int32) → (Nat → Int32) → (Nat → Int32) → Int32 → Prop
  | 0, _, _, _, _, _, _, _, _, _ => False
  | n + 1, I_p0_encoder, f_p0_encoder_firstChild, f_p0_encoder_lastNibble, f_p0_encoder_nextSibling, I_p0_file, f_p0_file_bytes, f_p0_writtenLengths, f_p0_writtenPlaces, x1 =>
    wp_Ly_strips (fun (r7 : Int32) =>
      ((r7 ≤ x1 →
        post I_p0_encoder f_p0_encoder_firstChild f_p0_encoder_lastNibble f_p0_encoder_nextSibling I_p0_file f_p0_file_bytes f_p0_writtenLengths f_p0_writtenPlaces) ∧
       (¬ r7 ≤ x1 →
        wp_Ly_firstByte (fun (r18 : Int32) =>
          wp_Ly_firstByte (fun (r29 : Int32) =>
            wp_St_appendToEven (fun (I_p0_file_37 : Nat → Int32) (f_p0_file_bytes_37 : Nat → Int32) =>
              vp_in x1 16 ∧
              (((I_p0_layout 3) = 1 →
                wp_Da_appendPlain (fun (I_p0_file_74 : Nat → Int32) (f_p0_file_bytes_74 : Nat → Int32) =>
                  wp_X_appendStrips_b135 post (wp_X_appendStrips_l2 post f_p0_data_bytes I_p0_layout n) f_p0_data_bytes I_p0_layout I_p0_encoder f_p0_encoder_firstChild f_p0_encoder_lastNibble f_p0_encoder_nextSibling I_p0_file_74 f_p0_file_bytes_74 f_p0_writtenLengths (upd f_p0_writtenPlaces (x1).toNatClampNeg (I_p0_file_37 2)) x1) f_p0_data_bytes I_p0_file_37 f_p0_file_bytes_37 r18 r29) ∧
               (¬ (I_p0_layout 3) = 1 →
                (((I_p0_layout 3) = 32773 →
                  wp_Ly_firstRow (fun (r99 : Int32) =>
                    wp_Ly_firstRow (fun (r109 : Int32) =>
                      wp_X_appendRowsAsPackets (fun (I_p0_file_112 : Nat → Int32) (f_p0_file_bytes_112 : Nat → Int32) =>
                        wp_X_appendStrips_b135 post (wp_X_appendStrips_l2 post f_p0_data_bytes I_p0_layout n) f_p0_data_bytes I_p0_layout I_p0_encoder f_p0_encoder_firstChild f_p0_encoder_lastNibble f_p0_encoder_nextSibling I_p0_file_112 f_p0_file_bytes_112 f_p0_writtenLengths (upd f_p0_writtenPlaces (x1).toNatClampNeg (I_p0_file_37 2)) x1) f_p0_data_bytes I_p0_layout I_p0_file_37 f_p0_file_bytes_37 r99 r109) I_p0_layout (x1 + 1)) I_p0_layout x1) ∧
                 (¬ (I_p0_layout 3) = 32773 →
                  wp_Ne_encode (fun (I_p0_encoder_132 : Nat → Int32) (f_p0_encoder_firstChild_132 : Nat → Int32) (f_p0_encoder_lastNibble_132 : Nat → Int32) (f_p0_encoder_nextSibling_132 : Nat → Int32) (I_p0_file_132 : Nat → Int32) (f_p0_file_bytes_132 : Nat → Int32) =>
                    wp_X_appendStrips_b135 post (wp_X_appendStrips_l2 post f_p0_data_bytes I_p0_layout n) f_p0_data_bytes I_p0_layout I_p0_encoder_132 f_p0_encoder_firstChild_132 f_p0_encoder_lastNibble_132 f_p0_encoder_nextSibling_132 I_p0_file_132 f_p0_file_bytes_132 f_p0_writtenLengths (upd f_p0_writtenPlaces (x1).toNatClampNeg (I_p0_file_37 2)) x1) f_p0_data_bytes I_p0_encoder f_p0_encoder_firstChild f_p0_encoder_lastNibble f_p0_encoder_nextSibling I_p0_file_37 f_p0_file_bytes_37 r18 r29))))) I_p0_file f_p0_file_bytes) I_p0_layout (x1 + 1)) I_p0_layout x1))) I_p0_layout
def wp_X_appendStrips (post : (Nat → Int32) → (Nat → Int32) → (Nat → Int32) → (Nat → Int32) → (Nat → Int32) → (Nat → Int32) → (Nat → Int32) → (Nat → Int32) → Prop) (f_p0_data_bytes : Nat → Int32) (I_p0_layout : Nat → Int32) (I_p0_encoder : Nat → Int32) (f_p0_encoder_firstChild : Nat → Int32) (f_p0_encoder_lastNibble : Nat → Int32) (f_p0_encoder_nextSibling : Nat → Int32) (I_p0_file : Nat → Int32) (f_p0_file_bytes : Nat → Int32) (f_p0_writtenLengths : Nat → Int32) (f_p0_writtenPlaces : Nat → Int32) : Prop :=
  (∃ n1 : Nat, wp_X_appendStrips_l2 post f_p0_data_bytes I_p0_layout n1 I_p0_encoder f_p0_encoder_firstChild f_p0_encoder_lastNibble f_p0_encoder_nextSibling I_p0_file f_p0_file_bytes f_p0_writtenLengths f_p0_writtenPlaces 0)
set_option maxRecDepth 100000 in
set_option maxHeartbeats 4000000 in
theorem c_X_appendStrips (l : Launch) (dC : Nat → ClassId) (dI : Nat → Nat → Nat) (cI : ClassId) (a_p0 : Nat) (A_p0 : Nat → Nat) (A_p0_data : Nat → Nat) (A_p0_encoder : Nat → Nat) (A_p0_file : Nat → Nat) (f_p0_data_bytes : Nat → Int32) (I_p0_layout : Nat → Int32) (I_p0_encoder : Nat → Int32) (f_p0_encoder_firstChild : Nat → Int32) (f_p0_encoder_lastNibble : Nat → Int32) (f_p0_encoder_nextSibling : Nat → Int32) (I_p0_file : Nat → Int32) (f_p0_file_bytes : Nat → Int32) (f_p0_writtenLengths : Nat → Int32) (f_p0_writtenPlaces : Nat → Int32) {post : (Nat → Int32) → (Nat → Int32) → (Nat → Int32) → (Nat → Int32) → (Nat → Int32) → (Nat → Int32) → (Nat → Int32) → (Nat → Int32) → Prop} (hw : wp_X_appendStrips post f_p0_data_bytes I_p0_layout I_p0_encoder f_p0_encoder_firstChild f_p0_encoder_lastNibble f_p0_encoder_nextSibling I_p0_file f_p0_file_bytes f_p0_writtenLengths f_p0_writtenPlaces) : gm_v l y_X_appendStrips ws_X_appendStrips ({ frames := 4, cells := 0, slots := 0, locals := 96 } : Room) (dC, dI) vwCl [(cI, .int)] [.ref a_p0] [oX a_p0 A_p0, oDa (A_p0 5) A_p0_data, gz cI (A_p0_data 0) 256 f_p0_data_bytes, oNe (A_p0 6) A_p0_encoder I_p0_encoder, gz cI (A_p0_encoder 0) 127 f_p0_encoder_firstChild, gz cI (A_p0_encoder 2) 127 f_p0_encoder_lastNibble, gz cI (A_p0_encoder 1) 127 f_p0_encoder_nextSibling, oSt (A_p0 0) A_p0_file I_p0_file, gz cI (A_p0_file 0) 900 f_p0_file_bytes, oLy (A_p0 4) I_p0_layout, gz cI (A_p0 12) 16 f_p0_writtenLengths, gz cI (A_p0 11) 16 f_p0_writtenPlaces] (fun (u : (Nat → Int32) × (Nat → Int32) × (Nat → Int32) × (Nat → Int32) × (Nat → Int32) × (Nat → Int32) × (Nat → Int32) × (Nat → Int32)) => [oX a_p0 A_p0, oDa (A_p0 5) A_p0_data, gz cI (A_p0_data 0) 256 f_p0_data_bytes, oNe (A_p0 6) A_p0_encoder u.1, gz cI (A_p0_encoder 0) 127 u.2.1, gz cI (A_p0_encoder 2) 127 u.2.2.1, gz cI (A_p0_encoder 1) 127 u.2.2.2.1, oSt (A_p0 0) A_p0_file u.2.2.2.2.1, gz cI (A_p0_file 0) 900 u.2.2.2.2.2.1, oLy (A_p0 4) I_p0_layout, gz cI (A_p0 12) 16 u.2.2.2.2.2.2.1, gz cI (A_p0 11) 16 u.2.2.2.2.2.2.2]) (fun (u : (Nat → Int32) × (Nat → Int32) × (Nat → Int32) × (Nat → Int32) × (Nat → Int32) × (Nat → Int32) × (Nat → Int32) × (Nat → Int32)) => post  u.1 u.2.1 u.2.2.1 u.2.2.2.1 u.2.2.2.2.1 u.2.2.2.2.2.1 u.2.2.2.2.2.2.1 u.2.2.2.2.2.2.2) := by
  refine gm_vof (cc := b_X_appendStrips) (maxL := 4) (by decide) rfl (Nat.le_of_ble_eq_true rfl) ?_
  intro p e s m args below meth c A Q hx hb hml hown hg hK hN hA hnm hret
  have hown : s.vm.findClass R_X = some m.cls := hown
  have b135 : ∀ (k2 : (Nat → Int32) → (Nat → Int32) → (Nat → Int32) → (Nat → Int32) → (Nat → Int32) → (Nat → Int32) → (Nat → Int32) → (Nat → Int32) → Int32 → Prop), (∀ (H : Heap) (locs : List Loc) (ls : Array Slot) (I_p0_encoder : Nat → Int32) (f_p0_encoder_firstChild : Nat → Int32) (f_p0_encoder_lastNibble : Nat → Int32) (f_p0_encoder_nextSibling : Nat → Int32) (I_p0_file : Nat → Int32) (f_p0_file_bytes : Nat → Int32) (f_p0_writtenLengths : Nat → Int32) (f_p0_writtenPlaces : Nat → Int32) (x1 : Int32), va_P (dC, dI) vwCl [oX a_p0 A_p0, oDa (A_p0 5) A_p0_data, gz cI (A_p0_data 0) 256 f_p0_data_bytes, oNe (A_p0 6) A_p0_encoder I_p0_encoder, gz cI (A_p0_encoder 0) 127 f_p0_encoder_firstChild, gz cI (A_p0_encoder 2) 127 f_p0_encoder_lastNibble, gz cI (A_p0_encoder 1) 127 f_p0_encoder_nextSibling, oSt (A_p0 0) A_p0_file I_p0_file, gz cI (A_p0_file 0) 900 f_p0_file_bytes, oLy (A_p0 4) I_p0_layout, gz cI (A_p0 12) 16 f_p0_writtenLengths, gz cI (A_p0 11) 16 f_p0_writtenPlaces] H → va_D A [oX a_p0 A_p0, oDa (A_p0 5) A_p0_data, gz cI (A_p0_data 0) 256 f_p0_data_bytes, oNe (A_p0 6) A_p0_encoder I_p0_encoder, gz cI (A_p0_encoder 0) 127 f_p0_encoder_firstChild, gz cI (A_p0_encoder 2) 127 f_p0_encoder_lastNibble, gz cI (A_p0_encoder 1) 127 f_p0_encoder_nextSibling, oSt (A_p0 0) A_p0_file I_p0_file, gz cI (A_p0_file 0) 900 f_p0_file_bytes, oLy (A_p0 4) I_p0_layout, gz cI (A_p0 12) 16 f_p0_writtenLengths, gz cI (A_p0 11) 16 f_p0_writtenPlaces] → va_S A s.heap H locs → lv_has ls 4 [(0, .ref a_p0), (1, .int x1)] → k2 I_p0_encoder f_p0_encoder_firstChild f_p0_encoder_lastNibble f_p0_encoder_nextSibling I_p0_file f_p0_file_bytes f_p0_writtenLengths f_p0_writtenPlaces x1 → W p l e ({ frames := 4, cells := 0, slots := 0, locals := 96 } : Room) s m args below meth c H locs 0 0 Q (F0 m 2 ls [])) → ∀ (H : Heap) (locs : List Loc) (ls : Array Slot) (I_p0_encoder : Nat → Int32) (f_p0_encoder_firstChild : Nat → Int32) (f_p0_encoder_lastNibble : Nat → Int32) (f_p0_encoder_nextSibling : Nat → Int32) (I_p0_file : Nat → Int32) (f_p0_file_bytes : Nat → Int32) (f_p0_writtenLengths : Nat → Int32) (f_p0_writtenPlaces : Nat → Int32) (x1 : Int32), va_P (dC, dI) vwCl [oX a_p0 A_p0, oDa (A_p0 5) A_p0_data, gz cI (A_p0_data 0) 256 f_p0_data_bytes, oNe (A_p0 6) A_p0_encoder I_p0_encoder, gz cI (A_p0_encoder 0) 127 f_p0_encoder_firstChild, gz cI (A_p0_encoder 2) 127 f_p0_encoder_lastNibble, gz cI (A_p0_encoder 1) 127 f_p0_encoder_nextSibling, oSt (A_p0 0) A_p0_file I_p0_file, gz cI (A_p0_file 0) 900 f_p0_file_bytes, oLy (A_p0 4) I_p0_layout, gz cI (A_p0 12) 16 f_p0_writtenLengths, gz cI (A_p0 11) 16 f_p0_writtenPlaces] H → va_D A [oX a_p0 A_p0, oDa (A_p0 5) A_p0_data, gz cI (A_p0_data 0) 256 f_p0_data_bytes, oNe (A_p0 6) A_p0_encoder I_p0_encoder, gz cI (A_p0_encoder 0) 127 f_p0_encoder_firstChild, gz cI (A_p0_encoder 2) 127 f_p0_encoder_lastNibble, gz cI (A_p0_encoder 1) 127 f_p0_encoder_nextSibling, oSt (A_p0 0) A_p0_file I_p0_file, gz cI (A_p0_file 0) 900 f_p0_file_bytes, oLy (A_p0 4) I_p0_layout, gz cI (A_p0 12) 16 f_p0_writtenLengths, gz cI (A_p0 11) 16 f_p0_writtenPlaces] → va_S A s.heap H locs → lv_has ls 4 [(0, .ref a_p0), (1, .int x1)] → wp_X_appendStrips_b135 post k2 f_p0_data_bytes I_p0_layout I_p0_encoder f_p0_encoder_firstChild f_p0_encoder_lastNibble f_p0_encoder_nextSibling I_p0_file f_p0_file_bytes f_p0_writtenLengths f_p0_writtenPlaces x1 → W p l e ({ frames := 4, cells := 0, slots := 0, locals := 96 } : Room) s m args below meth c H locs 0 0 Q (F0 m 135 ls []) := by
    intro k2 hk2 H locs ls I_p0_encoder f_p0_encoder_firstChild f_p0_encoder_lastNibble f_p0_encoder_nextSibling I_p0_file f_p0_file_bytes f_p0_writtenLengths f_p0_writtenPlaces x1 hP hD hS hl hw
    unfold wp_X_appendStrips_b135 at hw
    refine lv_aload_n hx hb d_X_appendStrips_135 rfl (lv_at hl 0 rfl) ?_
    refine va_get (D := (dC, dI)) (ci := 9) (v := .ref (A_p0 12)) (C := R_X) (T := T_X) (N := 14) hx hb hg in_X hown hK hP 0 rfl rfl 12 (by decide) (hg _ t_319) (fun _ h9 => h9) rfl d_X_appendStrips_136 ?_
    refine lv_iload_n hx hb d_X_appendStrips_139 rfl (lv_at hl 1 rfl) ?_
    refine lv_aload_n hx hb d_X_appendStrips_140 rfl (lv_at hl 0 rfl) ?_
    refine va_get (D := (dC, dI)) (ci := 9) (v := .ref (A_p0 0)) (C := R_X) (T := T_X) (N := 14) hx hb hg in_X hown hK hP 0 rfl rfl 0 (by decide) (hg _ t_307) (fun _ h9 => h9) rfl d_X_appendStrips_141 ?_
    refine va_get (D := (dC, dI)) (ci := 7) (v := .int (I_p0_file 2)) (C := R_St) (T := T_St) (N := 3) hx hb hg in_St hown hK hP 7 rfl rfl 2 (by decide) (hg _ t_97) (fun _ h9 => h9) rfl d_X_appendStrips_144 ?_
    refine lv_aload_n hx hb d_X_appendStrips_147 rfl (lv_at hl 0 rfl) ?_
    refine va_get (D := (dC, dI)) (ci := 9) (v := .ref (A_p0 11)) (C := R_X) (T := T_X) (N := 14) hx hb hg in_X hown hK hP 0 rfl rfl 11 (by decide) (hg _ t_318) (fun _ h9 => h9) rfl d_X_appendStrips_148 ?_
    refine lv_iload_n hx hb d_X_appendStrips_151 rfl (lv_at hl 1 rfl) ?_
    obtain ⟨hin, hw⟩ := hw
    refine va_iald hx hb hK hP 11 0 rfl rfl hin d_X_appendStrips_152 ?_
    refine lv_isub hx hb d_X_appendStrips_153 ?_
    obtain ⟨hin, hw⟩ := hw
    refine va_iast hx hb hK hP hD hS 10 0 rfl rfl hin d_X_appendStrips_154 (fun H locs hP hD hS => ?_)
    have hP : va_P (dC, dI) vwCl [oX a_p0 A_p0, oDa (A_p0 5) A_p0_data, gz cI (A_p0_data 0) 256 f_p0_data_bytes, oNe (A_p0 6) A_p0_encoder I_p0_encoder, gz cI (A_p0_encoder 0) 127 f_p0_encoder_firstChild, gz cI (A_p0_encoder 2) 127 f_p0_encoder_lastNibble, gz cI (A_p0_encoder 1) 127 f_p0_encoder_nextSibling, oSt (A_p0 0) A_p0_file I_p0_file, gz cI (A_p0_file 0) 900 f_p0_file_bytes, oLy (A_p0 4) I_p0_layout, gz cI (A_p0 12) 16 (upd f_p0_writtenLengths (x1).toNatClampNeg ((I_p0_file 2) - (f_p0_writtenPlaces (x1).toNatClampNeg))), gz cI (A_p0 11) 16 f_p0_writtenPlaces] H := hP
    have hD : va_D A [oX a_p0 A_p0, oDa (A_p0 5) A_p0_data, gz cI (A_p0_data 0) 256 f_p0_data_bytes, oNe (A_p0 6) A_p0_encoder I_p0_encoder, gz cI (A_p0_encoder 0) 127 f_p0_encoder_firstChild, gz cI (A_p0_encoder 2) 127 f_p0_encoder_lastNibble, gz cI (A_p0_encoder 1) 127 f_p0_encoder_nextSibling, oSt (A_p0 0) A_p0_file I_p0_file, gz cI (A_p0_file 0) 900 f_p0_file_bytes, oLy (A_p0 4) I_p0_layout, gz cI (A_p0 12) 16 (upd f_p0_writtenLengths (x1).toNatClampNeg ((I_p0_file 2) - (f_p0_writtenPlaces (x1).toNatClampNeg))), gz cI (A_p0 11) 16 f_p0_writtenPlaces] := hD
    refine lv_iinc (k := 1) (v := (x1 + 1)) (lv' := [(1, .int (x1 + 1)), (0, .ref a_p0)]) hx hb d_X_appendStrips_155 hl rfl (congrArg (fun z => x1 + z) (by decide : Int32.ofInt 1 = 1)) (by decide) rfl (fun ls hl => ?_)
    refine lv_goto hx hb d_X_appendStrips_158 rfl ?_
    exact hk2 _ _ _ I_p0_encoder f_p0_encoder_firstChild f_p0_encoder_lastNibble f_p0_encoder_nextSibling I_p0_file f_p0_file_bytes (upd f_p0_writtenLengths (x1).toNatClampNeg ((I_p0_file 2) - (f_p0_writtenPlaces (x1).toNatClampNeg))) f_p0_writtenPlaces (x1 + 1) hP hD hS (lv_sub hl [1, 0] rfl) hw
  have l2 : ∀ n : Nat, ∀ (H : Heap) (locs : List Loc) (ls : Array Slot) (I_p0_encoder : Nat → Int32) (f_p0_encoder_firstChild : Nat → Int32) (f_p0_encoder_lastNibble : Nat → Int32) (f_p0_encoder_nextSibling : Nat → Int32) (I_p0_file : Nat → Int32) (f_p0_file_bytes : Nat → Int32) (f_p0_writtenLengths : Nat → Int32) (f_p0_writtenPlaces : Nat → Int32) (x1 : Int32), va_P (dC, dI) vwCl [oX a_p0 A_p0, oDa (A_p0 5) A_p0_data, gz cI (A_p0_data 0) 256 f_p0_data_bytes, oNe (A_p0 6) A_p0_encoder I_p0_encoder, gz cI (A_p0_encoder 0) 127 f_p0_encoder_firstChild, gz cI (A_p0_encoder 2) 127 f_p0_encoder_lastNibble, gz cI (A_p0_encoder 1) 127 f_p0_encoder_nextSibling, oSt (A_p0 0) A_p0_file I_p0_file, gz cI (A_p0_file 0) 900 f_p0_file_bytes, oLy (A_p0 4) I_p0_layout, gz cI (A_p0 12) 16 f_p0_writtenLengths, gz cI (A_p0 11) 16 f_p0_writtenPlaces] H → va_D A [oX a_p0 A_p0, oDa (A_p0 5) A_p0_data, gz cI (A_p0_data 0) 256 f_p0_data_bytes, oNe (A_p0 6) A_p0_encoder I_p0_encoder, gz cI (A_p0_encoder 0) 127 f_p0_encoder_firstChild, gz cI (A_p0_encoder 2) 127 f_p0_encoder_lastNibble, gz cI (A_p0_encoder 1) 127 f_p0_encoder_nextSibling, oSt (A_p0 0) A_p0_file I_p0_file, gz cI (A_p0_file 0) 900 f_p0_file_bytes, oLy (A_p0 4) I_p0_layout, gz cI (A_p0 12) 16 f_p0_writtenLengths, gz cI (A_p0 11) 16 f_p0_writtenPlaces] → va_S A s.heap H locs → lv_has ls 4 [(0, .ref a_p0), (1, .int x1)] → wp_X_appendStrips_l2 post f_p0_data_bytes I_p0_layout n I_p0_encoder f_p0_encoder_firstChild f_p0_encoder_lastNibble f_p0_encoder_nextSibling I_p0_file f_p0_file_bytes f_p0_writtenLengths f_p0_writtenPlaces x1 → W p l e ({ frames := 4, cells := 0, slots := 0, locals := 96 } : Room) s m args below meth c H locs 0 0 Q (F0 m 2 ls []) := by
    intro n
    induction n with
    | zero => intro H locs ls I_p0_encoder f_p0_encoder_firstChild f_p0_encoder_lastNibble f_p0_encoder_nextSibling I_p0_file f_p0_file_bytes f_p0_writtenLengths f_p0_writtenPlaces x1 hP hD hS hl hw; exact hw.elim
    | succ n ih =>
      intro H locs ls I_p0_encoder f_p0_encoder_firstChild f_p0_encoder_lastNibble f_p0_encoder_nextSibling I_p0_file f_p0_file_bytes f_p0_writtenLengths f_p0_writtenPlaces x1 hP hD hS hl hw
      unfold wp_X_appendStrips_l2 at hw
      refine lv_iload_n hx hb d_X_appendStrips_2 rfl (lv_at hl 1 rfl) ?_
      refine lv_aload_n hx hb d_X_appendStrips_3 rfl (lv_at hl 0 rfl) ?_
      refine va_get (D := (dC, dI)) (ci := 9) (v := .ref (A_p0 4)) (C := R_X) (T := T_X) (N := 14) hx hb hg in_X hown hK hP 0 rfl rfl 4 (by decide) (hg _ t_311) (fun _ h9 => h9) rfl d_X_appendStrips_4 ?_
      refine gc_i (wn := fun (_ : Unit) => [oX a_p0 A_p0, oDa (A_p0 5) A_p0_data, gz cI (A_p0_data 0) 256 f_p0_data_bytes, oNe (A_p0 6) A_p0_encoder I_p0_encoder, gz cI (A_p0_encoder 0) 127 f_p0_encoder_firstChild, gz cI (A_p0_encoder 2) 127 f_p0_encoder_lastNibble, gz cI (A_p0_encoder 1) 127 f_p0_encoder_nextSibling, oSt (A_p0 0) A_p0_file I_p0_file, gz cI (A_p0_file 0) 900 f_p0_file_bytes, oLy (A_p0 4) I_p0_layout, gz cI (A_p0 12) 16 f_p0_writtenLengths, gz cI (A_p0 11) 16 f_p0_writtenPlaces]) (wr := [oX a_p0 A_p0, oDa (A_p0 5) A_p0_data, gz cI (A_p0_data 0) 256 f_p0_data_bytes, oNe (A_p0 6) A_p0_encoder I_p0_encoder, gz cI (A_p0_encoder 0) 127 f_p0_encoder_firstChild, gz cI (A_p0_encoder 2) 127 f_p0_encoder_lastNibble, gz cI (A_p0_encoder 1) 127 f_p0_encoder_nextSibling, oSt (A_p0 0) A_p0_file I_p0_file, gz cI (A_p0_file 0) 900 f_p0_file_bytes, gz cI (A_p0 12) 16 f_p0_writtenLengths, gz cI (A_p0 11) 16 f_p0_writtenPlaces]) (gr_V (As := []) (rest := [.int x1]) ⟨hx, hb, hml, hown, hg⟩ (c_Ly_strips l dC dI cI (A_p0 4) I_p0_layout hw _) (cwV 0 hg (gg_V t_511 t_512 t_513 t_65 t_514) rfl rfl rfl (by decide +kernel) ⟨Nat.le_of_ble_eq_true rfl, Nat.le_of_ble_eq_true rfl⟩) hK hN hP hD [9] (by decide) rfl 9 3 rfl rfl rfl rfl hl.1 rfl (Nat.le_of_ble_eq_true rfl) d_X_appendStrips_7 ⟨Nat.le_of_ble_eq_true rfl, Nat.le_of_ble_eq_true rfl⟩) rfl rfl hP hD hS hA [9] [0, 1, 2, 3, 4, 5, 6, 7, 8, 10, 11] [0, 1, 2, 3, 4, 5, 6, 7, 8, 11, 9, 10] rfl rfl (by decide) (by decide) (by decide) (fun _ => rfl) ?_
      intro r7 _ H locs hw hP hD hS
      try dsimp only at hw
      have hP : va_P (dC, dI) vwCl [oX a_p0 A_p0, oDa (A_p0 5) A_p0_data, gz cI (A_p0_data 0) 256 f_p0_data_bytes, oNe (A_p0 6) A_p0_encoder I_p0_encoder, gz cI (A_p0_encoder 0) 127 f_p0_encoder_firstChild, gz cI (A_p0_encoder 2) 127 f_p0_encoder_lastNibble, gz cI (A_p0_encoder 1) 127 f_p0_encoder_nextSibling, oSt (A_p0 0) A_p0_file I_p0_file, gz cI (A_p0_file 0) 900 f_p0_file_bytes, oLy (A_p0 4) I_p0_layout, gz cI (A_p0 12) 16 f_p0_writtenLengths, gz cI (A_p0 11) 16 f_p0_writtenPlaces] H := hP
      have hD : va_D A [oX a_p0 A_p0, oDa (A_p0 5) A_p0_data, gz cI (A_p0_data 0) 256 f_p0_data_bytes, oNe (A_p0 6) A_p0_encoder I_p0_encoder, gz cI (A_p0_encoder 0) 127 f_p0_encoder_firstChild, gz cI (A_p0_encoder 2) 127 f_p0_encoder_lastNibble, gz cI (A_p0_encoder 1) 127 f_p0_encoder_nextSibling, oSt (A_p0 0) A_p0_file I_p0_file, gz cI (A_p0_file 0) 900 f_p0_file_bytes, oLy (A_p0 4) I_p0_layout, gz cI (A_p0 12) 16 f_p0_writtenLengths, gz cI (A_p0 11) 16 f_p0_writtenPlaces] := hD
      refine lv_icmp_ge hx hb d_X_appendStrips_10 rfl (fun hc => ?_) (fun hc => ?_)
      · have hw := hw.1 hc
        exact hret _ _ _ _ (I_p0_encoder, f_p0_encoder_firstChild, f_p0_encoder_lastNibble, f_p0_encoder_nextSibling, I_p0_file, f_p0_file_bytes, f_p0_writtenLengths, f_p0_writtenPlaces) d_X_appendStrips_161 hP hD hS hw
      · have hw := hw.2 hc
        refine lv_aload_n hx hb d_X_appendStrips_13 rfl (lv_at hl 0 rfl) ?_
        refine va_get (D := (dC, dI)) (ci := 9) (v := .ref (A_p0 4)) (C := R_X) (T := T_X) (N := 14) hx hb hg in_X hown hK hP 0 rfl rfl 4 (by decide) (hg _ t_311) (fun _ h9 => h9) rfl d_X_appendStrips_14 ?_
        refine lv_iload_n hx hb d_X_appendStrips_17 rfl (lv_at hl 1 rfl) ?_
        refine gc_i (wn := fun (_ : Unit) => [oX a_p0 A_p0, oDa (A_p0 5) A_p0_data, gz cI (A_p0_data 0) 256 f_p0_data_bytes, oNe (A_p0 6) A_p0_encoder I_p0_encoder, gz cI (A_p0_encoder 0) 127 f_p0_encoder_firstChild, gz cI (A_p0_encoder 2) 127 f_p0_encoder_lastNibble, gz cI (A_p0_encoder 1) 127 f_p0_encoder_nextSibling, oSt (A_p0 0) A_p0_file I_p0_file, gz cI (A_p0_file 0) 900 f_p0_file_bytes, oLy (A_p0 4) I_p0_layout, gz cI (A_p0 12) 16 f_p0_writtenLengths, gz cI (A_p0 11) 16 f_p0_writtenPlaces]) (wr := [oX a_p0 A_p0, oDa (A_p0 5) A_p0_data, gz cI (A_p0_data 0) 256 f_p0_data_bytes, oNe (A_p0 6) A_p0_encoder I_p0_encoder, gz cI (A_p0_encoder 0) 127 f_p0_encoder_firstChild, gz cI (A_p0_encoder 2) 127 f_p0_encoder_lastNibble, gz cI (A_p0_encoder 1) 127 f_p0_encoder_nextSibling, oSt (A_p0 0) A_p0_file I_p0_file, gz cI (A_p0_file 0) 900 f_p0_file_bytes, gz cI (A_p0 12) 16 f_p0_writtenLengths, gz cI (A_p0 11) 16 f_p0_writtenPlaces]) (gr_V (As := [.int x1]) (rest := []) ⟨hx, hb, hml, hown, hg⟩ (c_Ly_firstByte l dC dI cI (A_p0 4) I_p0_layout x1 hw _) (cwV 1 hg (gg_V t_515 t_516 t_517 t_65 t_518) rfl rfl rfl (by decide +kernel) ⟨Nat.le_of_ble_eq_true rfl, Nat.le_of_ble_eq_true rfl⟩) hK hN hP hD [9] (by decide) rfl 9 3 rfl rfl rfl rfl hl.1 rfl (Nat.le_of_ble_eq_true rfl) d_X_appendStrips_18 ⟨Nat.le_of_ble_eq_true rfl, Nat.le_of_ble_eq_true rfl⟩) rfl rfl hP hD hS hA [9] [0, 1, 2, 3, 4, 5, 6, 7, 8, 10, 11] [0, 1, 2, 3, 4, 5, 6, 7, 8, 11, 9, 10] rfl rfl (by decide) (by decide) (by decide) (fun _ => rfl) ?_
        intro r18 _ H locs hw hP hD hS
        try dsimp only at hw
        have hP : va_P (dC, dI) vwCl [oX a_p0 A_p0, oDa (A_p0 5) A_p0_data, gz cI (A_p0_data 0) 256 f_p0_data_bytes, oNe (A_p0 6) A_p0_encoder I_p0_encoder, gz cI (A_p0_encoder 0) 127 f_p0_encoder_firstChild, gz cI (A_p0_encoder 2) 127 f_p0_encoder_lastNibble, gz cI (A_p0_encoder 1) 127 f_p0_encoder_nextSibling, oSt (A_p0 0) A_p0_file I_p0_file, gz cI (A_p0_file 0) 900 f_p0_file_bytes, oLy (A_p0 4) I_p0_layout, gz cI (A_p0 12) 16 f_p0_writtenLengths, gz cI (A_p0 11) 16 f_p0_writtenPlaces] H := hP
        have hD : va_D A [oX a_p0 A_p0, oDa (A_p0 5) A_p0_data, gz cI (A_p0_data 0) 256 f_p0_data_bytes, oNe (A_p0 6) A_p0_encoder I_p0_encoder, gz cI (A_p0_encoder 0) 127 f_p0_encoder_firstChild, gz cI (A_p0_encoder 2) 127 f_p0_encoder_lastNibble, gz cI (A_p0_encoder 1) 127 f_p0_encoder_nextSibling, oSt (A_p0 0) A_p0_file I_p0_file, gz cI (A_p0_file 0) 900 f_p0_file_bytes, oLy (A_p0 4) I_p0_layout, gz cI (A_p0 12) 16 f_p0_writtenLengths, gz cI (A_p0 11) 16 f_p0_writtenPlaces] := hD
        refine lv_istore_n (lv' := [(2, .int r18), (0, .ref a_p0), (1, .int x1)]) hx hb d_X_appendStrips_21 rfl hl (by decide) rfl (fun ls hl => ?_)
        refine lv_aload_n hx hb d_X_appendStrips_22 rfl (lv_at hl 1 rfl) ?_
        refine va_get (D := (dC, dI)) (ci := 9) (v := .ref (A_p0 4)) (C := R_X) (T := T_X) (N := 14) hx hb hg in_X hown hK hP 0 rfl rfl 4 (by decide) (hg _ t_311) (fun _ h9 => h9) rfl d_X_appendStrips_23 ?_
        refine lv_iload_n hx hb d_X_appendStrips_26 rfl (lv_at hl 2 rfl) ?_
        refine lv_iconst (v := 1) hx hb d_X_appendStrips_27 (by decide) ?_
        refine lv_iadd hx hb d_X_appendStrips_28 ?_
        refine gc_i (wn := fun (_ : Unit) => [oX a_p0 A_p0, oDa (A_p0 5) A_p0_data, gz cI (A_p0_data 0) 256 f_p0_data_bytes, oNe (A_p0 6) A_p0_encoder I_p0_encoder, gz cI (A_p0_encoder 0) 127 f_p0_encoder_firstChild, gz cI (A_p0_encoder 2) 127 f_p0_encoder_lastNibble, gz cI (A_p0_encoder 1) 127 f_p0_encoder_nextSibling, oSt (A_p0 0) A_p0_file I_p0_file, gz cI (A_p0_file 0) 900 f_p0_file_bytes, oLy (A_p0 4) I_p0_layout, gz cI (A_p0 12) 16 f_p0_writtenLengths, gz cI (A_p0 11) 16 f_p0_writtenPlaces]) (wr := [oX a_p0 A_p0, oDa (A_p0 5) A_p0_data, gz cI (A_p0_data 0) 256 f_p0_data_bytes, oNe (A_p0 6) A_p0_encoder I_p0_encoder, gz cI (A_p0_encoder 0) 127 f_p0_encoder_firstChild, gz cI (A_p0_encoder 2) 127 f_p0_encoder_lastNibble, gz cI (A_p0_encoder 1) 127 f_p0_encoder_nextSibling, oSt (A_p0 0) A_p0_file I_p0_file, gz cI (A_p0_file 0) 900 f_p0_file_bytes, gz cI (A_p0 12) 16 f_p0_writtenLengths, gz cI (A_p0 11) 16 f_p0_writtenPlaces]) (gr_V (As := [.int (x1 + 1)]) (rest := []) ⟨hx, hb, hml, hown, hg⟩ (c_Ly_firstByte l dC dI cI (A_p0 4) I_p0_layout (x1 + 1) hw _) (cwV 1 hg (gg_V t_515 t_516 t_517 t_65 t_518) rfl rfl rfl (by decide +kernel) ⟨Nat.le_of_ble_eq_true rfl, Nat.le_of_ble_eq_true rfl⟩) hK hN hP hD [9] (by decide) rfl 9 3 rfl rfl rfl rfl hl.1 rfl (Nat.le_of_ble_eq_true rfl) d_X_appendStrips_29 ⟨Nat.le_of_ble_eq_true rfl, Nat.le_of_ble_eq_true rfl⟩) rfl rfl hP hD hS hA [9] [0, 1, 2, 3, 4, 5, 6, 7, 8, 10, 11] [0, 1, 2, 3, 4, 5, 6, 7, 8, 11, 9, 10] rfl rfl (by decide) (by decide) (by decide) (fun _ => rfl) ?_
        intro r29 _ H locs hw hP hD hS
        try dsimp only at hw
        have hP : va_P (dC, dI) vwCl [oX a_p0 A_p0, oDa (A_p0 5) A_p0_data, gz cI (A_p0_data 0) 256 f_p0_data_bytes, oNe (A_p0 6) A_p0_encoder I_p0_encoder, gz cI (A_p0_encoder 0) 127 f_p0_encoder_firstChild, gz cI (A_p0_encoder 2) 127 f_p0_encoder_lastNibble, gz cI (A_p0_encoder 1) 127 f_p0_encoder_nextSibling, oSt (A_p0 0) A_p0_file I_p0_file, gz cI (A_p0_file 0) 900 f_p0_file_bytes, oLy (A_p0 4) I_p0_layout, gz cI (A_p0 12) 16 f_p0_writtenLengths, gz cI (A_p0 11) 16 f_p0_writtenPlaces] H := hP
        have hD : va_D A [oX a_p0 A_p0, oDa (A_p0 5) A_p0_data, gz cI (A_p0_data 0) 256 f_p0_data_bytes, oNe (A_p0 6) A_p0_encoder I_p0_encoder, gz cI (A_p0_encoder 0) 127 f_p0_encoder_firstChild, gz cI (A_p0_encoder 2) 127 f_p0_encoder_lastNibble, gz cI (A_p0_encoder 1) 127 f_p0_encoder_nextSibling, oSt (A_p0 0) A_p0_file I_p0_file, gz cI (A_p0_file 0) 900 f_p0_file_bytes, oLy (A_p0 4) I_p0_layout, gz cI (A_p0 12) 16 f_p0_writtenLengths, gz cI (A_p0 11) 16 f_p0_writtenPlaces] := hD
        refine lv_istore_n (lv' := [(3, .int r29), (2, .int r18), (0, .ref a_p0), (1, .int x1)]) hx hb d_X_appendStrips_32 rfl hl (by decide) rfl (fun ls hl => ?_)
        refine lv_aload_n hx hb d_X_appendStrips_33 rfl (lv_at hl 2 rfl) ?_
        refine va_get (D := (dC, dI)) (ci := 9) (v := .ref (A_p0 0)) (C := R_X) (T := T_X) (N := 14) hx hb hg in_X hown hK hP 0 rfl rfl 0 (by decide) (hg _ t_307) (fun _ h9 => h9) rfl d_X_appendStrips_34 ?_
        refine gc_v (wn := fun u => [oX a_p0 A_p0, oDa (A_p0 5) A_p0_data, gz cI (A_p0_data 0) 256 f_p0_data_bytes, oNe (A_p0 6) A_p0_encoder I_p0_encoder, gz cI (A_p0_encoder 0) 127 f_p0_encoder_firstChild, gz cI (A_p0_encoder 2) 127 f_p0_encoder_lastNibble, gz cI (A_p0_encoder 1) 127 f_p0_encoder_nextSibling, oSt (A_p0 0) A_p0_file u.1, gz cI (A_p0_file 0) 900 u.2, oLy (A_p0 4) I_p0_layout, gz cI (A_p0 12) 16 f_p0_writtenLengths, gz cI (A_p0 11) 16 f_p0_writtenPlaces]) (wr := [oX a_p0 A_p0, oDa (A_p0 5) A_p0_data, gz cI (A_p0_data 0) 256 f_p0_data_bytes, oNe (A_p0 6) A_p0_encoder I_p0_encoder, gz cI (A_p0_encoder 0) 127 f_p0_encoder_firstChild, gz cI (A_p0_encoder 2) 127 f_p0_encoder_lastNibble, gz cI (A_p0_encoder 1) 127 f_p0_encoder_nextSibling, oLy (A_p0 4) I_p0_layout, gz cI (A_p0 12) 16 f_p0_writtenLengths, gz cI (A_p0 11) 16 f_p0_writtenPlaces]) (gr_V (As := []) (rest := []) ⟨hx, hb, hml, hown, hg⟩ (c_St_appendToEven l dC dI cI (A_p0 0) A_p0_file I_p0_file f_p0_file_bytes hw _) (cwV 0 hg (gg_V t_527 t_528 t_529 t_61 t_530) rfl rfl rfl (by decide +kernel) ⟨Nat.le_of_ble_eq_true rfl, Nat.le_of_ble_eq_true rfl⟩) hK hN hP hD [7, 8] (by decide) rfl 7 7 rfl rfl rfl rfl hl.1 rfl (Nat.le_of_ble_eq_true rfl) d_X_appendStrips_37 ⟨Nat.le_of_ble_eq_true rfl, Nat.le_of_ble_eq_true rfl⟩) rfl rfl hP hD hS hA [7, 8] [0, 1, 2, 3, 4, 5, 6, 9, 10, 11] [0, 1, 2, 3, 4, 5, 6, 10, 11, 7, 8, 9] rfl rfl (by decide) (by decide) (by decide) (fun _ => rfl) ?_
        intro u9 H locs hw hP hD hS
        obtain ⟨I_p0_file_37, f_p0_file_bytes_37⟩ := u9
        try dsimp only at hw
        have hP : va_P (dC, dI) vwCl [oX a_p0 A_p0, oDa (A_p0 5) A_p0_data, gz cI (A_p0_data 0) 256 f_p0_data_bytes, oNe (A_p0 6) A_p0_encoder I_p0_encoder, gz cI (A_p0_encoder 0) 127 f_p0_encoder_firstChild, gz cI (A_p0_encoder 2) 127 f_p0_encoder_lastNibble, gz cI (A_p0_encoder 1) 127 f_p0_encoder_nextSibling, oSt (A_p0 0) A_p0_file I_p0_file_37, gz cI (A_p0_file 0) 900 f_p0_file_bytes_37, oLy (A_p0 4) I_p0_layout, gz cI (A_p0 12) 16 f_p0_writtenLengths, gz cI (A_p0 11) 16 f_p0_writtenPlaces] H := hP
        have hD : va_D A [oX a_p0 A_p0, oDa (A_p0 5) A_p0_data, gz cI (A_p0_data 0) 256 f_p0_data_bytes, oNe (A_p0 6) A_p0_encoder I_p0_encoder, gz cI (A_p0_encoder 0) 127 f_p0_encoder_firstChild, gz cI (A_p0_encoder 2) 127 f_p0_encoder_lastNibble, gz cI (A_p0_encoder 1) 127 f_p0_encoder_nextSibling, oSt (A_p0 0) A_p0_file I_p0_file_37, gz cI (A_p0_file 0) 900 f_p0_file_bytes_37, oLy (A_p0 4) I_p0_layout, gz cI (A_p0 12) 16 f_p0_writtenLengths, gz cI (A_p0 11) 16 f_p0_writtenPlaces] := hD
        refine lv_aload_n hx hb d_X_appendStrips_40 rfl (lv_at hl 2 rfl) ?_
        refine va_get (D := (dC, dI)) (ci := 9) (v := .ref (A_p0 11)) (C := R_X) (T := T_X) (N := 14) hx hb hg in_X hown hK hP 0 rfl rfl 11 (by decide) (hg _ t_318) (fun _ h9 => h9) rfl d_X_appendStrips_41 ?_
        refine lv_iload_n hx hb d_X_appendStrips_44 rfl (lv_at hl 3 rfl) ?_
        refine lv_aload_n hx hb d_X_appendStrips_45 rfl (lv_at hl 2 rfl) ?_
        refine va_get (D := (dC, dI)) (ci := 9) (v := .ref (A_p0 0)) (C := R_X) (T := T_X) (N := 14) hx hb hg in_X hown hK hP 0 rfl rfl 0 (by decide) (hg _ t_307) (fun _ h9 => h9) rfl d_X_appendStrips_46 ?_
        refine va_get (D := (dC, dI)) (ci := 7) (v := .int (I_p0_file_37 2)) (C := R_St) (T := T_St) (N := 3) hx hb hg in_St hown hK hP 7 rfl rfl 2 (by decide) (hg _ t_97) (fun _ h9 => h9) rfl d_X_appendStrips_49 ?_
        obtain ⟨hin, hw⟩ := hw
        refine va_iast hx hb hK hP hD hS 11 0 rfl rfl hin d_X_appendStrips_52 (fun H locs hP hD hS => ?_)
        have hP : va_P (dC, dI) vwCl [oX a_p0 A_p0, oDa (A_p0 5) A_p0_data, gz cI (A_p0_data 0) 256 f_p0_data_bytes, oNe (A_p0 6) A_p0_encoder I_p0_encoder, gz cI (A_p0_encoder 0) 127 f_p0_encoder_firstChild, gz cI (A_p0_encoder 2) 127 f_p0_encoder_lastNibble, gz cI (A_p0_encoder 1) 127 f_p0_encoder_nextSibling, oSt (A_p0 0) A_p0_file I_p0_file_37, gz cI (A_p0_file 0) 900 f_p0_file_bytes_37, oLy (A_p0 4) I_p0_layout, gz cI (A_p0 12) 16 f_p0_writtenLengths, gz cI (A_p0 11) 16 (upd f_p0_writtenPlaces (x1).toNatClampNeg (I_p0_file_37 2))] H := hP
        have hD : va_D A [oX a_p0 A_p0, oDa (A_p0 5) A_p0_data, gz cI (A_p0_data 0) 256 f_p0_data_bytes, oNe (A_p0 6) A_p0_encoder I_p0_encoder, gz cI (A_p0_encoder 0) 127 f_p0_encoder_firstChild, gz cI (A_p0_encoder 2) 127 f_p0_encoder_lastNibble, gz cI (A_p0_encoder 1) 127 f_p0_encoder_nextSibling, oSt (A_p0 0) A_p0_file I_p0_file_37, gz cI (A_p0_file 0) 900 f_p0_file_bytes_37, oLy (A_p0 4) I_p0_layout, gz cI (A_p0 12) 16 f_p0_writtenLengths, gz cI (A_p0 11) 16 (upd f_p0_writtenPlaces (x1).toNatClampNeg (I_p0_file_37 2))] := hD
        refine lv_aload_n hx hb d_X_appendStrips_53 rfl (lv_at hl 2 rfl) ?_
        refine va_get (D := (dC, dI)) (ci := 9) (v := .ref (A_p0 4)) (C := R_X) (T := T_X) (N := 14) hx hb hg in_X hown hK hP 0 rfl rfl 4 (by decide) (hg _ t_311) (fun _ h9 => h9) rfl d_X_appendStrips_54 ?_
        refine va_get (D := (dC, dI)) (ci := 3) (v := .int (I_p0_layout 3)) (C := R_Ly) (T := T_Ly) (N := 6) hx hb hg in_Ly hown hK hP 9 rfl rfl 3 (by decide) (hg _ t_188) (fun _ h9 => h9) rfl d_X_appendStrips_57 ?_
        refine lv_iconst (v := 1) hx hb d_X_appendStrips_60 (by decide) ?_
        refine lv_icmp_ne hx hb d_X_appendStrips_61 rfl (fun hc => ?_) (fun hc => ?_)
        · have hw := hw.2 hc
          refine lv_aload_n hx hb d_X_appendStrips_80 rfl (lv_at hl 2 rfl) ?_
          refine va_get (D := (dC, dI)) (ci := 9) (v := .ref (A_p0 4)) (C := R_X) (T := T_X) (N := 14) hx hb hg in_X hown hK hP 0 rfl rfl 4 (by decide) (hg _ t_311) (fun _ h9 => h9) rfl d_X_appendStrips_81 ?_
          refine va_get (D := (dC, dI)) (ci := 3) (v := .int (I_p0_layout 3)) (C := R_Ly) (T := T_Ly) (N := 6) hx hb hg in_Ly hown hK hP 9 rfl rfl 3 (by decide) (hg _ t_188) (fun _ h9 => h9) rfl d_X_appendStrips_84 ?_
          refine lv_ldcw (v := 32773) hx hb hown (hg _ t_536) d_X_appendStrips_87 ?_
          refine lv_icmp_ne hx hb d_X_appendStrips_90 rfl (fun hc => ?_) (fun hc => ?_)
          · have hw := hw.2 hc
            refine lv_aload_n hx hb d_X_appendStrips_118 rfl (lv_at hl 2 rfl) ?_
            refine va_get (D := (dC, dI)) (ci := 9) (v := .ref (A_p0 6)) (C := R_X) (T := T_X) (N := 14) hx hb hg in_X hown hK hP 0 rfl rfl 6 (by decide) (hg _ t_313) (fun _ h9 => h9) rfl d_X_appendStrips_119 ?_
            refine lv_aload_n hx hb d_X_appendStrips_122 rfl (lv_at hl 2 rfl) ?_
            refine va_get (D := (dC, dI)) (ci := 9) (v := .ref (A_p0 5)) (C := R_X) (T := T_X) (N := 14) hx hb hg in_X hown hK hP 0 rfl rfl 5 (by decide) (hg _ t_312) (fun _ h9 => h9) rfl d_X_appendStrips_123 ?_
            refine lv_iload_n hx hb d_X_appendStrips_126 rfl (lv_at hl 1 rfl) ?_
            refine lv_iload_n hx hb d_X_appendStrips_127 rfl (lv_at hl 0 rfl) ?_
            refine lv_aload_n hx hb d_X_appendStrips_128 rfl (lv_at hl 2 rfl) ?_
            refine va_get (D := (dC, dI)) (ci := 9) (v := .ref (A_p0 0)) (C := R_X) (T := T_X) (N := 14) hx hb hg in_X hown hK hP 0 rfl rfl 0 (by decide) (hg _ t_307) (fun _ h9 => h9) rfl d_X_appendStrips_129 ?_
            refine gc_v (wn := fun u => [oX a_p0 A_p0, oDa (A_p0 5) A_p0_data, gz cI (A_p0_data 0) 256 f_p0_data_bytes, oNe (A_p0 6) A_p0_encoder u.1, gz cI (A_p0_encoder 0) 127 u.2.1, gz cI (A_p0_encoder 2) 127 u.2.2.1, gz cI (A_p0_encoder 1) 127 u.2.2.2.1, oSt (A_p0 0) A_p0_file u.2.2.2.2.1, gz cI (A_p0_file 0) 900 u.2.2.2.2.2, oLy (A_p0 4) I_p0_layout, gz cI (A_p0 12) 16 f_p0_writtenLengths, gz cI (A_p0 11) 16 (upd f_p0_writtenPlaces (x1).toNatClampNeg (I_p0_file_37 2))]) (wr := [oX a_p0 A_p0, oLy (A_p0 4) I_p0_layout, gz cI (A_p0 12) 16 f_p0_writtenLengths, gz cI (A_p0 11) 16 (upd f_p0_writtenPlaces (x1).toNatClampNeg (I_p0_file_37 2))]) (gr_V (As := [.ref (A_p0 5), .int r18, .int r29, .ref (A_p0 0)]) (rest := []) ⟨hx, hb, hml, hown, hg⟩ (c_Ne_encode l dC dI cI (A_p0 6) (A_p0 5) (A_p0 0) A_p0_encoder A_p0_data A_p0_file f_p0_data_bytes I_p0_encoder f_p0_encoder_firstChild f_p0_encoder_lastNibble f_p0_encoder_nextSibling I_p0_file_37 f_p0_file_bytes_37 r18 r29 hw _) (cwV 4 hg (gg_V t_556 t_557 t_558 t_67 t_559) rfl rfl rfl (by decide +kernel) ⟨Nat.le_of_ble_eq_true rfl, Nat.le_of_ble_eq_true rfl⟩) hK hN hP hD [3, 4, 5, 6, 1, 2, 7, 8] (by decide) rfl 3 5 rfl rfl rfl rfl hl.1 rfl (Nat.le_of_ble_eq_true rfl) d_X_appendStrips_132 ⟨Nat.le_of_ble_eq_true rfl, Nat.le_of_ble_eq_true rfl⟩) rfl rfl hP hD hS hA [3, 4, 5, 6, 1, 2, 7, 8] [0, 9, 10, 11] [0, 8, 9, 4, 5, 6, 7, 10, 11, 1, 2, 3] rfl rfl (by decide) (by decide) (by decide) (fun _ => rfl) ?_
            intro u9 H locs hw hP hD hS
            obtain ⟨I_p0_encoder_132, f_p0_encoder_firstChild_132, f_p0_encoder_lastNibble_132, f_p0_encoder_nextSibling_132, I_p0_file_132, f_p0_file_bytes_132⟩ := u9
            try dsimp only at hw
            have hP : va_P (dC, dI) vwCl [oX a_p0 A_p0, oDa (A_p0 5) A_p0_data, gz cI (A_p0_data 0) 256 f_p0_data_bytes, oNe (A_p0 6) A_p0_encoder I_p0_encoder_132, gz cI (A_p0_encoder 0) 127 f_p0_encoder_firstChild_132, gz cI (A_p0_encoder 2) 127 f_p0_encoder_lastNibble_132, gz cI (A_p0_encoder 1) 127 f_p0_encoder_nextSibling_132, oSt (A_p0 0) A_p0_file I_p0_file_132, gz cI (A_p0_file 0) 900 f_p0_file_bytes_132, oLy (A_p0 4) I_p0_layout, gz cI (A_p0 12) 16 f_p0_writtenLengths, gz cI (A_p0 11) 16 (upd f_p0_writtenPlaces (x1).toNatClampNeg (I_p0_file_37 2))] H := hP
            have hD : va_D A [oX a_p0 A_p0, oDa (A_p0 5) A_p0_data, gz cI (A_p0_data 0) 256 f_p0_data_bytes, oNe (A_p0 6) A_p0_encoder I_p0_encoder_132, gz cI (A_p0_encoder 0) 127 f_p0_encoder_firstChild_132, gz cI (A_p0_encoder 2) 127 f_p0_encoder_lastNibble_132, gz cI (A_p0_encoder 1) 127 f_p0_encoder_nextSibling_132, oSt (A_p0 0) A_p0_file I_p0_file_132, gz cI (A_p0_file 0) 900 f_p0_file_bytes_132, oLy (A_p0 4) I_p0_layout, gz cI (A_p0 12) 16 f_p0_writtenLengths, gz cI (A_p0 11) 16 (upd f_p0_writtenPlaces (x1).toNatClampNeg (I_p0_file_37 2))] := hD
            exact b135 _ ih _ _ _ I_p0_encoder_132 f_p0_encoder_firstChild_132 f_p0_encoder_lastNibble_132 f_p0_encoder_nextSibling_132 I_p0_file_132 f_p0_file_bytes_132 f_p0_writtenLengths (upd f_p0_writtenPlaces (x1).toNatClampNeg (I_p0_file_37 2)) x1 hP hD hS (lv_sub hl [2, 3] rfl) hw
          · have hw := hw.1 hc
            refine lv_aload_n hx hb d_X_appendStrips_93 rfl (lv_at hl 2 rfl) ?_
            refine lv_aload_n hx hb d_X_appendStrips_94 rfl (lv_at hl 2 rfl) ?_
            refine va_get (D := (dC, dI)) (ci := 9) (v := .ref (A_p0 4)) (C := R_X) (T := T_X) (N := 14) hx hb hg in_X hown hK hP 0 rfl rfl 4 (by decide) (hg _ t_311) (fun _ h9 => h9) rfl d_X_appendStrips_95 ?_
            refine lv_iload_n hx hb d_X_appendStrips_98 rfl (lv_at hl 3 rfl) ?_
            refine gc_i (wn := fun (_ : Unit) => [oX a_p0 A_p0, oDa (A_p0 5) A_p0_data, gz cI (A_p0_data 0) 256 f_p0_data_bytes, oNe (A_p0 6) A_p0_encoder I_p0_encoder, gz cI (A_p0_encoder 0) 127 f_p0_encoder_firstChild, gz cI (A_p0_encoder 2) 127 f_p0_encoder_lastNibble, gz cI (A_p0_encoder 1) 127 f_p0_encoder_nextSibling, oSt (A_p0 0) A_p0_file I_p0_file_37, gz cI (A_p0_file 0) 900 f_p0_file_bytes_37, oLy (A_p0 4) I_p0_layout, gz cI (A_p0 12) 16 f_p0_writtenLengths, gz cI (A_p0 11) 16 (upd f_p0_writtenPlaces (x1).toNatClampNeg (I_p0_file_37 2))]) (wr := [oX a_p0 A_p0, oDa (A_p0 5) A_p0_data, gz cI (A_p0_data 0) 256 f_p0_data_bytes, oNe (A_p0 6) A_p0_encoder I_p0_encoder, gz cI (A_p0_encoder 0) 127 f_p0_encoder_firstChild, gz cI (A_p0_encoder 2) 127 f_p0_encoder_lastNibble, gz cI (A_p0_encoder 1) 127 f_p0_encoder_nextSibling, oSt (A_p0 0) A_p0_file I_p0_file_37, gz cI (A_p0_file 0) 900 f_p0_file_bytes_37, gz cI (A_p0 12) 16 f_p0_writtenLengths, gz cI (A_p0 11) 16 (upd f_p0_writtenPlaces (x1).toNatClampNeg (I_p0_file_37 2))]) (gr_V (As := [.int x1]) (rest := [.ref a_p0]) ⟨hx, hb, hml, hown, hg⟩ (c_Ly_firstRow l dC dI cI (A_p0 4) I_p0_layout x1 hw _) (cwV 1 hg (gg_V t_537 t_520 t_521 t_65 t_522) rfl rfl rfl (by decide +kernel) ⟨Nat.le_of_ble_eq_true rfl, Nat.le_of_ble_eq_true rfl⟩) hK hN hP hD [9] (by decide) rfl 9 3 rfl rfl rfl rfl hl.1 rfl (Nat.le_of_ble_eq_true rfl) d_X_appendStrips_99 ⟨Nat.le_of_ble_eq_true rfl, Nat.le_of_ble_eq_true rfl⟩) rfl rfl hP hD hS hA [9] [0, 1, 2, 3, 4, 5, 6, 7, 8, 10, 11] [0, 1, 2, 3, 4, 5, 6, 7, 8, 11, 9, 10] rfl rfl (by decide) (by decide) (by decide) (fun _ => rfl) ?_
            intro r99 _ H locs hw hP hD hS
            try dsimp only at hw
            have hP : va_P (dC, dI) vwCl [oX a_p0 A_p0, oDa (A_p0 5) A_p0_data, gz cI (A_p0_data 0) 256 f_p0_data_bytes, oNe (A_p0 6) A_p0_encoder I_p0_encoder, gz cI (A_p0_encoder 0) 127 f_p0_encoder_firstChild, gz cI (A_p0_encoder 2) 127 f_p0_encoder_lastNibble, gz cI (A_p0_encoder 1) 127 f_p0_encoder_nextSibling, oSt (A_p0 0) A_p0_file I_p0_file_37, gz cI (A_p0_file 0) 900 f_p0_file_bytes_37, oLy (A_p0 4) I_p0_layout, gz cI (A_p0 12) 16 f_p0_writtenLengths, gz cI (A_p0 11) 16 (upd f_p0_writtenPlaces (x1).toNatClampNeg (I_p0_file_37 2))] H := hP
            have hD : va_D A [oX a_p0 A_p0, oDa (A_p0 5) A_p0_data, gz cI (A_p0_data 0) 256 f_p0_data_bytes, oNe (A_p0 6) A_p0_encoder I_p0_encoder, gz cI (A_p0_encoder 0) 127 f_p0_encoder_firstChild, gz cI (A_p0_encoder 2) 127 f_p0_encoder_lastNibble, gz cI (A_p0_encoder 1) 127 f_p0_encoder_nextSibling, oSt (A_p0 0) A_p0_file I_p0_file_37, gz cI (A_p0_file 0) 900 f_p0_file_bytes_37, oLy (A_p0 4) I_p0_layout, gz cI (A_p0 12) 16 f_p0_writtenLengths, gz cI (A_p0 11) 16 (upd f_p0_writtenPlaces (x1).toNatClampNeg (I_p0_file_37 2))] := hD
            refine lv_aload_n hx hb d_X_appendStrips_102 rfl (lv_at hl 2 rfl) ?_
            refine va_get (D := (dC, dI)) (ci := 9) (v := .ref (A_p0 4)) (C := R_X) (T := T_X) (N := 14) hx hb hg in_X hown hK hP 0 rfl rfl 4 (by decide) (hg _ t_311) (fun _ h9 => h9) rfl d_X_appendStrips_103 ?_
            refine lv_iload_n hx hb d_X_appendStrips_106 rfl (lv_at hl 3 rfl) ?_
            refine lv_iconst (v := 1) hx hb d_X_appendStrips_107 (by decide) ?_
            refine lv_iadd hx hb d_X_appendStrips_108 ?_
            refine gc_i (wn := fun (_ : Unit) => [oX a_p0 A_p0, oDa (A_p0 5) A_p0_data, gz cI (A_p0_data 0) 256 f_p0_data_bytes, oNe (A_p0 6) A_p0_encoder I_p0_encoder, gz cI (A_p0_encoder 0) 127 f_p0_encoder_firstChild, gz cI (A_p0_encoder 2) 127 f_p0_encoder_lastNibble, gz cI (A_p0_encoder 1) 127 f_p0_encoder_nextSibling, oSt (A_p0 0) A_p0_file I_p0_file_37, gz cI (A_p0_file 0) 900 f_p0_file_bytes_37, oLy (A_p0 4) I_p0_layout, gz cI (A_p0 12) 16 f_p0_writtenLengths, gz cI (A_p0 11) 16 (upd f_p0_writtenPlaces (x1).toNatClampNeg (I_p0_file_37 2))]) (wr := [oX a_p0 A_p0, oDa (A_p0 5) A_p0_data, gz cI (A_p0_data 0) 256 f_p0_data_bytes, oNe (A_p0 6) A_p0_encoder I_p0_encoder, gz cI (A_p0_encoder 0) 127 f_p0_encoder_firstChild, gz cI (A_p0_encoder 2) 127 f_p0_encoder_lastNibble, gz cI (A_p0_encoder 1) 127 f_p0_encoder_nextSibling, oSt (A_p0 0) A_p0_file I_p0_file_37, gz cI (A_p0_file 0) 900 f_p0_file_bytes_37, gz cI (A_p0 12) 16 f_p0_writtenLengths, gz cI (A_p0 11) 16 (upd f_p0_writtenPlaces (x1).toNatClampNeg (I_p0_file_37 2))]) (gr_V (As := [.int (x1 + 1)]) (rest := [.int r99, .ref a_p0]) ⟨hx, hb, hml, hown, hg⟩ (c_Ly_firstRow l dC dI cI (A_p0 4) I_p0_layout (x1 + 1) hw _) (cwV 1 hg (gg_V t_537 t_520 t_521 t_65 t_522) rfl rfl rfl (by decide +kernel) ⟨Nat.le_of_ble_eq_true rfl, Nat.le_of_ble_eq_true rfl⟩) hK hN hP hD [9] (by decide) rfl 9 3 rfl rfl rfl rfl hl.1 rfl (Nat.le_of_ble_eq_true rfl) d_X_appendStrips_109 ⟨Nat.le_of_ble_eq_true rfl, Nat.le_of_ble_eq_true rfl⟩) rfl rfl hP hD hS hA [9] [0, 1, 2, 3, 4, 5, 6, 7, 8, 10, 11] [0, 1, 2, 3, 4, 5, 6, 7, 8, 11, 9, 10] rfl rfl (by decide) (by decide) (by decide) (fun _ => rfl) ?_
            intro r109 _ H locs hw hP hD hS
            try dsimp only at hw
            have hP : va_P (dC, dI) vwCl [oX a_p0 A_p0, oDa (A_p0 5) A_p0_data, gz cI (A_p0_data 0) 256 f_p0_data_bytes, oNe (A_p0 6) A_p0_encoder I_p0_encoder, gz cI (A_p0_encoder 0) 127 f_p0_encoder_firstChild, gz cI (A_p0_encoder 2) 127 f_p0_encoder_lastNibble, gz cI (A_p0_encoder 1) 127 f_p0_encoder_nextSibling, oSt (A_p0 0) A_p0_file I_p0_file_37, gz cI (A_p0_file 0) 900 f_p0_file_bytes_37, oLy (A_p0 4) I_p0_layout, gz cI (A_p0 12) 16 f_p0_writtenLengths, gz cI (A_p0 11) 16 (upd f_p0_writtenPlaces (x1).toNatClampNeg (I_p0_file_37 2))] H := hP
            have hD : va_D A [oX a_p0 A_p0, oDa (A_p0 5) A_p0_data, gz cI (A_p0_data 0) 256 f_p0_data_bytes, oNe (A_p0 6) A_p0_encoder I_p0_encoder, gz cI (A_p0_encoder 0) 127 f_p0_encoder_firstChild, gz cI (A_p0_encoder 2) 127 f_p0_encoder_lastNibble, gz cI (A_p0_encoder 1) 127 f_p0_encoder_nextSibling, oSt (A_p0 0) A_p0_file I_p0_file_37, gz cI (A_p0_file 0) 900 f_p0_file_bytes_37, oLy (A_p0 4) I_p0_layout, gz cI (A_p0 12) 16 f_p0_writtenLengths, gz cI (A_p0 11) 16 (upd f_p0_writtenPlaces (x1).toNatClampNeg (I_p0_file_37 2))] := hD
            refine gc_v (wn := fun u => [oX a_p0 A_p0, oDa (A_p0 5) A_p0_data, gz cI (A_p0_data 0) 256 f_p0_data_bytes, oNe (A_p0 6) A_p0_encoder I_p0_encoder, gz cI (A_p0_encoder 0) 127 f_p0_encoder_firstChild, gz cI (A_p0_encoder 2) 127 f_p0_encoder_lastNibble, gz cI (A_p0_encoder 1) 127 f_p0_encoder_nextSibling, oSt (A_p0 0) A_p0_file u.1, gz cI (A_p0_file 0) 900 u.2, oLy (A_p0 4) I_p0_layout, gz cI (A_p0 12) 16 f_p0_writtenLengths, gz cI (A_p0 11) 16 (upd f_p0_writtenPlaces (x1).toNatClampNeg (I_p0_file_37 2))]) (wr := [oNe (A_p0 6) A_p0_encoder I_p0_encoder, gz cI (A_p0_encoder 0) 127 f_p0_encoder_firstChild, gz cI (A_p0_encoder 2) 127 f_p0_encoder_lastNibble, gz cI (A_p0_encoder 1) 127 f_p0_encoder_nextSibling, gz cI (A_p0 12) 16 f_p0_writtenLengths, gz cI (A_p0 11) 16 (upd f_p0_writtenPlaces (x1).toNatClampNeg (I_p0_file_37 2))]) (gr_V (As := [.int r99, .int r109]) (rest := []) ⟨hx, hb, hml, hown, hg⟩ (c_X_appendRowsAsPackets l dC dI cI a_p0 A_p0 A_p0_data A_p0_file f_p0_data_bytes I_p0_layout I_p0_file_37 f_p0_file_bytes_37 r99 r109 hw _) (cwV 2 hg (gg_V t_538 t_540 t_5 t_60 t_541) rfl rfl rfl (by decide +kernel) ⟨Nat.le_of_ble_eq_true rfl, Nat.le_of_ble_eq_true rfl⟩) hK hN hP hD [0, 1, 2, 7, 8, 9] (by decide) rfl 0 9 rfl rfl rfl rfl hl.1 rfl (Nat.le_of_ble_eq_true rfl) d_X_appendStrips_112 ⟨Nat.le_of_ble_eq_true rfl, Nat.le_of_ble_eq_true rfl⟩) rfl rfl hP hD hS hA [0, 1, 2, 7, 8, 9] [3, 4, 5, 6, 10, 11] [6, 7, 8, 0, 1, 2, 3, 9, 10, 11, 4, 5] rfl rfl (by decide) (by decide) (by decide) (fun _ => rfl) ?_
            intro u9 H locs hw hP hD hS
            obtain ⟨I_p0_file_112, f_p0_file_bytes_112⟩ := u9
            try dsimp only at hw
            have hP : va_P (dC, dI) vwCl [oX a_p0 A_p0, oDa (A_p0 5) A_p0_data, gz cI (A_p0_data 0) 256 f_p0_data_bytes, oNe (A_p0 6) A_p0_encoder I_p0_encoder, gz cI (A_p0_encoder 0) 127 f_p0_encoder_firstChild, gz cI (A_p0_encoder 2) 127 f_p0_encoder_lastNibble, gz cI (A_p0_encoder 1) 127 f_p0_encoder_nextSibling, oSt (A_p0 0) A_p0_file I_p0_file_112, gz cI (A_p0_file 0) 900 f_p0_file_bytes_112, oLy (A_p0 4) I_p0_layout, gz cI (A_p0 12) 16 f_p0_writtenLengths, gz cI (A_p0 11) 16 (upd f_p0_writtenPlaces (x1).toNatClampNeg (I_p0_file_37 2))] H := hP
            have hD : va_D A [oX a_p0 A_p0, oDa (A_p0 5) A_p0_data, gz cI (A_p0_data 0) 256 f_p0_data_bytes, oNe (A_p0 6) A_p0_encoder I_p0_encoder, gz cI (A_p0_encoder 0) 127 f_p0_encoder_firstChild, gz cI (A_p0_encoder 2) 127 f_p0_encoder_lastNibble, gz cI (A_p0_encoder 1) 127 f_p0_encoder_nextSibling, oSt (A_p0 0) A_p0_file I_p0_file_112, gz cI (A_p0_file 0) 900 f_p0_file_bytes_112, oLy (A_p0 4) I_p0_layout, gz cI (A_p0 12) 16 f_p0_writtenLengths, gz cI (A_p0 11) 16 (upd f_p0_writtenPlaces (x1).toNatClampNeg (I_p0_file_37 2))] := hD
            refine lv_goto hx hb d_X_appendStrips_115 rfl ?_
            exact b135 _ ih _ _ _ I_p0_encoder f_p0_encoder_firstChild f_p0_encoder_lastNibble f_p0_encoder_nextSibling I_p0_file_112 f_p0_file_bytes_112 f_p0_writtenLengths (upd f_p0_writtenPlaces (x1).toNatClampNeg (I_p0_file_37 2)) x1 hP hD hS (lv_sub hl [2, 3] rfl) hw
        · have hw := hw.1 hc
          refine lv_aload_n hx hb d_X_appendStrips_64 rfl (lv_at hl 2 rfl) ?_
          refine va_get (D := (dC, dI)) (ci := 9) (v := .ref (A_p0 5)) (C := R_X) (T := T_X) (N := 14) hx hb hg in_X hown hK hP 0 rfl rfl 5 (by decide) (hg _ t_312) (fun _ h9 => h9) rfl d_X_appendStrips_65 ?_
          refine lv_iload_n hx hb d_X_appendStrips_68 rfl (lv_at hl 1 rfl) ?_
          refine lv_iload_n hx hb d_X_appendStrips_69 rfl (lv_at hl 0 rfl) ?_
          refine lv_aload_n hx hb d_X_appendStrips_70 rfl (lv_at hl 2 rfl) ?_
          refine va_get (D := (dC, dI)) (ci := 9) (v := .ref (A_p0 0)) (C := R_X) (T := T_X) (N := 14) hx hb hg in_X hown hK hP 0 rfl rfl 0 (by decide) (hg _ t_307) (fun _ h9 => h9) rfl d_X_appendStrips_71 ?_
          refine gc_v (wn := fun u => [oX a_p0 A_p0, oDa (A_p0 5) A_p0_data, gz cI (A_p0_data 0) 256 f_p0_data_bytes, oNe (A_p0 6) A_p0_encoder I_p0_encoder, gz cI (A_p0_encoder 0) 127 f_p0_encoder_firstChild, gz cI (A_p0_encoder 2) 127 f_p0_encoder_lastNibble, gz cI (A_p0_encoder 1) 127 f_p0_encoder_nextSibling, oSt (A_p0 0) A_p0_file u.1, gz cI (A_p0_file 0) 900 u.2, oLy (A_p0 4) I_p0_layout, gz cI (A_p0 12) 16 f_p0_writtenLengths, gz cI (A_p0 11) 16 (upd f_p0_writtenPlaces (x1).toNatClampNeg (I_p0_file_37 2))]) (wr := [oX a_p0 A_p0, oNe (A_p0 6) A_p0_encoder I_p0_encoder, gz cI (A_p0_encoder 0) 127 f_p0_encoder_firstChild, gz cI (A_p0_encoder 2) 127 f_p0_encoder_lastNibble, gz cI (A_p0_encoder 1) 127 f_p0_encoder_nextSibling, oLy (A_p0 4) I_p0_layout, gz cI (A_p0 12) 16 f_p0_writtenLengths, gz cI (A_p0 11) 16 (upd f_p0_writtenPlaces (x1).toNatClampNeg (I_p0_file_37 2))]) (gr_V (As := [.int r18, .int r29, .ref (A_p0 0)]) (rest := []) ⟨hx, hb, hml, hown, hg⟩ (c_Da_appendPlain l dC dI cI (A_p0 5) (A_p0 0) A_p0_data A_p0_file f_p0_data_bytes I_p0_file_37 f_p0_file_bytes_37 r18 r29 hw _) (cwV 3 hg (gg_V t_531 t_532 t_533 t_66 t_534) rfl rfl rfl (by decide +kernel) ⟨Nat.le_of_ble_eq_true rfl, Nat.le_of_ble_eq_true rfl⟩) hK hN hP hD [1, 2, 7, 8] (by decide) rfl 1 0 rfl rfl rfl rfl hl.1 rfl (Nat.le_of_ble_eq_true rfl) d_X_appendStrips_74 ⟨Nat.le_of_ble_eq_true rfl, Nat.le_of_ble_eq_true rfl⟩) rfl rfl hP hD hS hA [1, 2, 7, 8] [0, 3, 4, 5, 6, 9, 10, 11] [0, 8, 9, 1, 2, 3, 4, 10, 11, 5, 6, 7] rfl rfl (by decide) (by decide) (by decide) (fun _ => rfl) ?_
          intro u9 H locs hw hP hD hS
          obtain ⟨I_p0_file_74, f_p0_file_bytes_74⟩ := u9
          try dsimp only at hw
          have hP : va_P (dC, dI) vwCl [oX a_p0 A_p0, oDa (A_p0 5) A_p0_data, gz cI (A_p0_data 0) 256 f_p0_data_bytes, oNe (A_p0 6) A_p0_encoder I_p0_encoder, gz cI (A_p0_encoder 0) 127 f_p0_encoder_firstChild, gz cI (A_p0_encoder 2) 127 f_p0_encoder_lastNibble, gz cI (A_p0_encoder 1) 127 f_p0_encoder_nextSibling, oSt (A_p0 0) A_p0_file I_p0_file_74, gz cI (A_p0_file 0) 900 f_p0_file_bytes_74, oLy (A_p0 4) I_p0_layout, gz cI (A_p0 12) 16 f_p0_writtenLengths, gz cI (A_p0 11) 16 (upd f_p0_writtenPlaces (x1).toNatClampNeg (I_p0_file_37 2))] H := hP
          have hD : va_D A [oX a_p0 A_p0, oDa (A_p0 5) A_p0_data, gz cI (A_p0_data 0) 256 f_p0_data_bytes, oNe (A_p0 6) A_p0_encoder I_p0_encoder, gz cI (A_p0_encoder 0) 127 f_p0_encoder_firstChild, gz cI (A_p0_encoder 2) 127 f_p0_encoder_lastNibble, gz cI (A_p0_encoder 1) 127 f_p0_encoder_nextSibling, oSt (A_p0 0) A_p0_file I_p0_file_74, gz cI (A_p0_file 0) 900 f_p0_file_bytes_74, oLy (A_p0 4) I_p0_layout, gz cI (A_p0 12) 16 f_p0_writtenLengths, gz cI (A_p0 11) 16 (upd f_p0_writtenPlaces (x1).toNatClampNeg (I_p0_file_37 2))] := hD
          refine lv_goto hx hb d_X_appendStrips_77 rfl ?_
          exact b135 _ ih _ _ _ I_p0_encoder f_p0_encoder_firstChild f_p0_encoder_lastNibble f_p0_encoder_nextSibling I_p0_file_74 f_p0_file_bytes_74 f_p0_writtenLengths (upd f_p0_writtenPlaces (x1).toNatClampNeg (I_p0_file_37 2)) x1 hP hD hS (lv_sub hl [2, 3] rfl) hw
  intro ls hl hP hD hS
  have hl : lv_has ls 4 [(0, .ref a_p0)] := hl
  unfold wp_X_appendStrips at hw
  refine lv_iconst (v := 0) hx hb d_X_appendStrips_0 (by decide) ?_
  refine lv_istore_n (lv' := [(1, .int 0), (0, .ref a_p0)]) hx hb d_X_appendStrips_1 rfl hl (by decide) rfl (fun ls hl => ?_)
  obtain ⟨n1, hw⟩ := hw
  exact l2 n1 _ _ _ I_p0_encoder f_p0_encoder_firstChild f_p0_encoder_lastNibble f_p0_encoder_nextSibling I_p0_file f_p0_file_bytes f_p0_writtenLengths f_p0_writtenPlaces 0 hP hD hS (lv_sub hl [1, 0] rfl) hw
theorem d_X_appendStripNumbers_0 : decode b_X_appendStripNumbers 0 = .ok (.aload_n 0, 1) := by decide +kernel
theorem d_X_appendStripNumbers_1 : decode b_X_appendStripNumbers 1 = .ok (.getfield 40, 3) := by decide +kernel
theorem d_X_appendStripNumbers_4 : decode b_X_appendStripNumbers 4 = .ok (.invokevirtual 197, 3) := by decide +kernel
theorem d_X_appendStripNumbers_7 : decode b_X_appendStripNumbers 7 = .ok (.istore_n 2, 1) := by decide +kernel
theorem d_X_appendStripNumbers_8 : decode b_X_appendStripNumbers 8 = .ok (.iload_n 2, 1) := by decide +kernel
theorem d_X_appendStripNumbers_9 : decode b_X_appendStripNumbers 9 = .ok (.iconst 1, 1) := by decide +kernel
theorem d_X_appendStripNumbers_10 : decode b_X_appendStripNumbers 10 = .ok (.if_icmp .ne 7, 3) := by decide +kernel
theorem d_X_appendStripNumbers_13 : decode b_X_appendStripNumbers 13 = .ok (.aload_n 1, 1) := by decide +kernel
theorem d_X_appendStripNumbers_14 : decode b_X_appendStripNumbers 14 = .ok (.iconst 0, 1) := by decide +kernel
theorem d_X_appendStripNumbers_15 : decode b_X_appendStripNumbers 15 = .ok (.iaload, 1) := by decide +kernel
theorem d_X_appendStripNumbers_16 : decode b_X_appendStripNumbers 16 = .ok (.ireturn, 1) := by decide +kernel
theorem d_X_appendStripNumbers_17 : decode b_X_appendStripNumbers 17 = .ok (.aload_n 0, 1) := by decide +kernel
theorem d_X_appendStripNumbers_18 : decode b_X_appendStripNumbers 18 = .ok (.getfield 10, 3) := by decide +kernel
theorem d_X_appendStripNumbers_21 : decode b_X_appendStripNumbers 21 = .ok (.invokevirtual 255, 3) := by decide +kernel
theorem d_X_appendStripNumbers_24 : decode b_X_appendStripNumbers 24 = .ok (.aload_n 0, 1) := by decide +kernel
theorem d_X_appendStripNumbers_25 : decode b_X_appendStripNumbers 25 = .ok (.getfield 10, 3) := by decide +kernel
theorem d_X_appendStripNumbers_28 : decode b_X_appendStripNumbers 28 = .ok (.getfield 174, 3) := by decide +kernel
theorem d_X_appendStripNumbers_31 : decode b_X_appendStripNumbers 31 = .ok (.istore_n 3, 1) := by decide +kernel
theorem d_X_appendStripNumbers_32 : decode b_X_appendStripNumbers 32 = .ok (.iconst 0, 1) := by decide +kernel
theorem d_X_appendStripNumbers_33 : decode b_X_appendStripNumbers 33 = .ok (.istore 4, 2) := by decide +kernel
theorem d_X_appendStripNumbers_35 : decode b_X_appendStripNumbers 35 = .ok (.iload 4, 2) := by decide +kernel
theorem d_X_appendStripNumbers_37 : decode b_X_appendStripNumbers 37 = .ok (.iload_n 2, 1) := by decide +kernel
theorem d_X_appendStripNumbers_38 : decode b_X_appendStripNumbers 38 = .ok (.if_icmp .ge 20, 3) := by decide +kernel
theorem d_X_appendStripNumbers_41 : decode b_X_appendStripNumbers 41 = .ok (.aload_n 0, 1) := by decide +kernel
theorem d_X_appendStripNumbers_42 : decode b_X_appendStripNumbers 42 = .ok (.getfield 10, 3) := by decide +kernel
theorem d_X_appendStripNumbers_45 : decode b_X_appendStripNumbers 45 = .ok (.aload_n 1, 1) := by decide +kernel
theorem d_X_appendStripNumbers_46 : decode b_X_appendStripNumbers 46 = .ok (.iload 4, 2) := by decide +kernel
theorem d_X_appendStripNumbers_48 : decode b_X_appendStripNumbers 48 = .ok (.iaload, 1) := by decide +kernel
theorem d_X_appendStripNumbers_49 : decode b_X_appendStripNumbers 49 = .ok (.invokevirtual 286, 3) := by decide +kernel
theorem d_X_appendStripNumbers_52 : decode b_X_appendStripNumbers 52 = .ok (.iinc 4 1, 3) := by decide +kernel
theorem d_X_appendStripNumbers_55 : decode b_X_appendStripNumbers 55 = .ok (.goto (-20), 3) := by decide +kernel
theorem d_X_appendStripNumbers_58 : decode b_X_appendStripNumbers 58 = .ok (.iload_n 3, 1) := by decide +kernel
theorem d_X_appendStripNumbers_59 : decode b_X_appendStripNumbers 59 = .ok (.ireturn, 1) := by decide +kernel
def wp_X_appendStripNumbers_l35 (post : Int32 → (Nat → Int32) → (Nat → Int32) → Prop) (I_p0_layout : Nat → Int32) (f_p1 : Nat → Int32) : Nat → (Nat → Int32) → (Nat → Int32) → Int32 → Int32 → Int32 → Prop
  | 0, _, _, _, _, _ => False
  | n + 1, I_p0_file, f_p0_file_bytes, x2, x3, x4 =>
    ((x2 ≤ x4 →
      post x3 I_p0_file f_p0_file_bytes) ∧
     (¬ x2 ≤ x4 →
      vp_in x4 16 ∧
      wp_St_appendLong (fun (I_p0_file_49 : Nat → Int32) (f_p0_file_bytes_49 : Nat → Int32) =>
        wp_X_appendStripNumbers_l35 post I_p0_layout f_p1 n I_p0_file_49 f_p0_file_bytes_49 x2 x3 (x4 + 1)) I_p0_file f_p0_file_bytes (f_p1 (x4).toNatClampNeg)))
def wp_X_appendStripNumbers (post : Int32 → (Nat → Int32) → (Nat → Int32) → Prop) (I_p0_layout : Nat → Int32) (f_p1 : Nat → Int32) (I_p0_file : Nat → Int32) (f_p0_file_bytes : Nat → Int32) : Prop :=
  wp_Ly_strips (fun (r4 : Int32) =>
    ((r4 = 1 →
      vp_in 0 16 ∧
      post (f_p1 0) I_p0_file f_p0_file_bytes) ∧
     (¬ r4 = 1 →
      wp_St_appendToEven (fun (I_p0_file_21 : Nat → Int32) (f_p0_file_bytes_21 : Nat → Int32) =>
        (∃ n1 : Nat, wp_X_appendStripNumbers_l35 post I_p0_layout f_p1 n1 I_p0_file_21 f_p0_file_bytes_21 r4 (I_p0_file_21 2) 0)) I_p0_file f_p0_file_bytes))) I_p0_layout
set_option maxRecDepth 100000 in
set_option maxHeartbeats 4000000 in
theorem c_X_appendStripNumbers (l : Launch) (dC : Nat → ClassId) (dI : Nat → Nat → Nat) (cI : ClassId) (a_p0 : Nat) (a_p1 : Nat) (A_p0 : Nat → Nat) (A_p0_file : Nat → Nat) (I_p0_layout : Nat → Int32) (f_p1 : Nat → Int32) (I_p0_file : Nat → Int32) (f_p0_file_bytes : Nat → Int32) {post : Int32 → (Nat → Int32) → (Nat → Int32) → Prop} (hw : wp_X_appendStripNumbers post I_p0_layout f_p1 I_p0_file f_p0_file_bytes) : gm_i l y_X_appendStripNumbers ws_X_appendStripNumbers ({ frames := 2, cells := 0, slots := 0, locals := 45 } : Room) (dC, dI) vwCl [(cI, .int)] [.ref a_p0, .ref a_p1] [oX a_p0 A_p0, oSt (A_p0 0) A_p0_file I_p0_file, gz cI (A_p0_file 0) 900 f_p0_file_bytes, oLy (A_p0 4) I_p0_layout, gz cI a_p1 16 f_p1] (fun (u : (Nat → Int32) × (Nat → Int32)) => [oX a_p0 A_p0, oSt (A_p0 0) A_p0_file u.1, gz cI (A_p0_file 0) 900 u.2, oLy (A_p0 4) I_p0_layout, gz cI a_p1 16 f_p1]) (fun (r : Int32) (u : (Nat → Int32) × (Nat → Int32)) => post r u.1 u.2) := by
  refine gm_iof (cc := b_X_appendStripNumbers) (maxL := 5) (ty := .int) (by decide) rfl (Nat.le_of_ble_eq_true rfl) ?_
  intro p e s m args below meth c A Q hx hb hml hown hg hK hN hA hret
  have hown : s.vm.findClass R_X = some m.cls := hown
  have l35 : ∀ n : Nat, ∀ (H : Heap) (locs : List Loc) (ls : Array Slot) (I_p0_file : Nat → Int32) (f_p0_file_bytes : Nat → Int32) (x2 : Int32) (x3 : Int32) (x4 : Int32), va_P (dC, dI) vwCl [oX a_p0 A_p0, oSt (A_p0 0) A_p0_file I_p0_file, gz cI (A_p0_file 0) 900 f_p0_file_bytes, oLy (A_p0 4) I_p0_layout, gz cI a_p1 16 f_p1] H → va_D A [oX a_p0 A_p0, oSt (A_p0 0) A_p0_file I_p0_file, gz cI (A_p0_file 0) 900 f_p0_file_bytes, oLy (A_p0 4) I_p0_layout, gz cI a_p1 16 f_p1] → va_S A s.heap H locs → lv_has ls 5 [(0, .ref a_p0), (1, .ref a_p1), (2, .int x2), (3, .int x3), (4, .int x4)] → wp_X_appendStripNumbers_l35 post I_p0_layout f_p1 n I_p0_file f_p0_file_bytes x2 x3 x4 → W p l e ({ frames := 2, cells := 0, slots := 0, locals := 45 } : Room) s m args below meth c H locs 0 0 Q (F0 m 35 ls []) := by
    intro n
    induction n with
    | zero => intro H locs ls I_p0_file f_p0_file_bytes x2 x3 x4 hP hD hS hl hw; exact hw.elim
    | succ n ih =>
      intro H locs ls I_p0_file f_p0_file_bytes x2 x3 x4 hP hD hS hl hw
      unfold wp_X_appendStripNumbers_l35 at hw
      refine lv_iload hx hb d_X_appendStripNumbers_35 (lv_at hl 4 rfl) ?_
      refine lv_iload_n hx hb d_X_appendStripNumbers_37 rfl (lv_at hl 2 rfl) ?_
      refine lv_icmp_ge hx hb d_X_appendStripNumbers_38 rfl (fun hc => ?_) (fun hc => ?_)
      · have hw := hw.1 hc
        refine lv_iload_n hx hb d_X_appendStripNumbers_58 rfl (lv_at hl 3 rfl) ?_
        exact hret _ _ _ _ _ (I_p0_file, f_p0_file_bytes) d_X_appendStripNumbers_59 rfl hP hD hS hw
      · have hw := hw.2 hc
        refine lv_aload_n hx hb d_X_appendStripNumbers_41 rfl (lv_at hl 0 rfl) ?_
        refine va_get (D := (dC, dI)) (ci := 9) (v := .ref (A_p0 0)) (C := R_X) (T := T_X) (N := 14) hx hb hg in_X hown hK hP 0 rfl rfl 0 (by decide) (hg _ t_307) (fun _ h9 => h9) rfl d_X_appendStripNumbers_42 ?_
        refine lv_aload_n hx hb d_X_appendStripNumbers_45 rfl (lv_at hl 1 rfl) ?_
        refine lv_iload hx hb d_X_appendStripNumbers_46 (lv_at hl 4 rfl) ?_
        obtain ⟨hin, hw⟩ := hw
        refine va_iald hx hb hK hP 4 0 rfl rfl hin d_X_appendStripNumbers_48 ?_
        refine gc_v (wn := fun u => [oX a_p0 A_p0, oSt (A_p0 0) A_p0_file u.1, gz cI (A_p0_file 0) 900 u.2, oLy (A_p0 4) I_p0_layout, gz cI a_p1 16 f_p1]) (wr := [oX a_p0 A_p0, oLy (A_p0 4) I_p0_layout, gz cI a_p1 16 f_p1]) (gr_V (As := [.int (f_p1 (x4).toNatClampNeg)]) (rest := []) ⟨hx, hb, hml, hown, hg⟩ (c_St_appendLong l dC dI cI (A_p0 0) A_p0_file I_p0_file f_p0_file_bytes (f_p1 (x4).toNatClampNeg) hw _) (cwV 1 hg (gg_V t_588 t_293 t_294 t_61 t_295) rfl rfl rfl (by decide +kernel) ⟨Nat.le_of_ble_eq_true rfl, Nat.le_of_ble_eq_true rfl⟩) hK hN hP hD [1, 2] (by decide) rfl 1 7 rfl rfl rfl rfl hl.1 rfl (Nat.le_of_ble_eq_true rfl) d_X_appendStripNumbers_49 ⟨Nat.le_of_ble_eq_true rfl, Nat.le_of_ble_eq_true rfl⟩) rfl rfl hP hD hS hA [1, 2] [0, 3, 4] [0, 3, 4, 1, 2] rfl rfl (by decide) (by decide) (by decide) (fun _ => rfl) ?_
        intro u9 H locs hw hP hD hS
        obtain ⟨I_p0_file_49, f_p0_file_bytes_49⟩ := u9
        try dsimp only at hw
        have hP : va_P (dC, dI) vwCl [oX a_p0 A_p0, oSt (A_p0 0) A_p0_file I_p0_file_49, gz cI (A_p0_file 0) 900 f_p0_file_bytes_49, oLy (A_p0 4) I_p0_layout, gz cI a_p1 16 f_p1] H := hP
        have hD : va_D A [oX a_p0 A_p0, oSt (A_p0 0) A_p0_file I_p0_file_49, gz cI (A_p0_file 0) 900 f_p0_file_bytes_49, oLy (A_p0 4) I_p0_layout, gz cI a_p1 16 f_p1] := hD
        refine lv_iinc (k := 4) (v := (x4 + 1)) (lv' := [(4, .int (x4 + 1)), (0, .ref a_p0), (1, .ref a_p1), (2, .int x2), (3, .int x3)]) hx hb d_X_appendStripNumbers_52 hl rfl (congrArg (fun z => x4 + z) (by decide : Int32.ofInt 1 = 1)) (by decide) rfl (fun ls hl => ?_)
        refine lv_goto hx hb d_X_appendStripNumbers_55 rfl ?_
        exact ih _ _ _ I_p0_file_49 f_p0_file_bytes_49 x2 x3 (x4 + 1) hP hD hS (lv_sub hl [1, 2, 3, 4, 0] rfl) hw
  intro ls hl hP hD hS
  have hl : lv_has ls 5 [(0, .ref a_p0), (1, .ref a_p1)] := hl
  unfold wp_X_appendStripNumbers at hw
  refine lv_aload_n hx hb d_X_appendStripNumbers_0 rfl (lv_at hl 0 rfl) ?_
  refine va_get (D := (dC, dI)) (ci := 9) (v := .ref (A_p0 4)) (C := R_X) (T := T_X) (N := 14) hx hb hg in_X hown hK hP 0 rfl rfl 4 (by decide) (hg _ t_311) (fun _ h9 => h9) rfl d_X_appendStripNumbers_1 ?_
  refine gc_i (wn := fun (_ : Unit) => [oX a_p0 A_p0, oSt (A_p0 0) A_p0_file I_p0_file, gz cI (A_p0_file 0) 900 f_p0_file_bytes, oLy (A_p0 4) I_p0_layout, gz cI a_p1 16 f_p1]) (wr := [oX a_p0 A_p0, oSt (A_p0 0) A_p0_file I_p0_file, gz cI (A_p0_file 0) 900 f_p0_file_bytes, gz cI a_p1 16 f_p1]) (gr_V (As := []) (rest := []) ⟨hx, hb, hml, hown, hg⟩ (c_Ly_strips l dC dI cI (A_p0 4) I_p0_layout hw _) (cwV 0 hg (gg_V t_511 t_512 t_513 t_65 t_514) rfl rfl rfl (by decide +kernel) ⟨Nat.le_of_ble_eq_true rfl, Nat.le_of_ble_eq_true rfl⟩) hK hN hP hD [3] (by decide) rfl 3 3 rfl rfl rfl rfl hl.1 rfl (Nat.le_of_ble_eq_true rfl) d_X_appendStripNumbers_4 ⟨Nat.le_of_ble_eq_true rfl, Nat.le_of_ble_eq_true rfl⟩) rfl rfl hP hD hS hA [3] [0, 1, 2, 4] [0, 1, 2, 4, 3] rfl rfl (by decide) (by decide) (by decide) (fun _ => rfl) ?_
  intro r4 _ H locs hw hP hD hS
  try dsimp only at hw
  have hP : va_P (dC, dI) vwCl [oX a_p0 A_p0, oSt (A_p0 0) A_p0_file I_p0_file, gz cI (A_p0_file 0) 900 f_p0_file_bytes, oLy (A_p0 4) I_p0_layout, gz cI a_p1 16 f_p1] H := hP
  have hD : va_D A [oX a_p0 A_p0, oSt (A_p0 0) A_p0_file I_p0_file, gz cI (A_p0_file 0) 900 f_p0_file_bytes, oLy (A_p0 4) I_p0_layout, gz cI a_p1 16 f_p1] := hD
  refine lv_istore_n (lv' := [(2, .int r4), (0, .ref a_p0), (1, .ref a_p1)]) hx hb d_X_appendStripNumbers_7 rfl hl (by decide) rfl (fun ls hl => ?_)
  refine lv_iload_n hx hb d_X_appendStripNumbers_8 rfl (lv_at hl 0 rfl) ?_
  refine lv_iconst (v := 1) hx hb d_X_appendStripNumbers_9 (by decide) ?_
  refine lv_icmp_ne hx hb d_X_appendStripNumbers_10 rfl (fun hc => ?_) (fun hc => ?_)
  · have hw := hw.2 hc
    refine lv_aload_n hx hb d_X_appendStripNumbers_17 rfl (lv_at hl 1 rfl) ?_
    refine va_get (D := (dC, dI)) (ci := 9) (v := .ref (A_p0 0)) (C := R_X) (T := T_X) (N := 14) hx hb hg in_X hown hK hP 0 rfl rfl 0 (by decide) (hg _ t_307) (fun _ h9 => h9) rfl d_X_appendStripNumbers_18 ?_
    refine gc_v (wn := fun u => [oX a_p0 A_p0, oSt (A_p0 0) A_p0_file u.1, gz cI (A_p0_file 0) 900 u.2, oLy (A_p0 4) I_p0_layout, gz cI a_p1 16 f_p1]) (wr := [oX a_p0 A_p0, oLy (A_p0 4) I_p0_layout, gz cI a_p1 16 f_p1]) (gr_V (As := []) (rest := []) ⟨hx, hb, hml, hown, hg⟩ (c_St_appendToEven l dC dI cI (A_p0 0) A_p0_file I_p0_file f_p0_file_bytes hw _) (cwV 0 hg (gg_V t_527 t_528 t_529 t_61 t_530) rfl rfl rfl (by decide +kernel) ⟨Nat.le_of_ble_eq_true rfl, Nat.le_of_ble_eq_true rfl⟩) hK hN hP hD [1, 2] (by decide) rfl 1 7 rfl rfl rfl rfl hl.1 rfl (Nat.le_of_ble_eq_true rfl) d_X_appendStripNumbers_21 ⟨Nat.le_of_ble_eq_true rfl, Nat.le_of_ble_eq_true rfl⟩) rfl rfl hP hD hS hA [1, 2] [0, 3, 4] [0, 3, 4, 1, 2] rfl rfl (by decide) (by decide) (by decide) (fun _ => rfl) ?_
    intro u9 H locs hw hP hD hS
    obtain ⟨I_p0_file_21, f_p0_file_bytes_21⟩ := u9
    try dsimp only at hw
    have hP : va_P (dC, dI) vwCl [oX a_p0 A_p0, oSt (A_p0 0) A_p0_file I_p0_file_21, gz cI (A_p0_file 0) 900 f_p0_file_bytes_21, oLy (A_p0 4) I_p0_layout, gz cI a_p1 16 f_p1] H := hP
    have hD : va_D A [oX a_p0 A_p0, oSt (A_p0 0) A_p0_file I_p0_file_21, gz cI (A_p0_file 0) 900 f_p0_file_bytes_21, oLy (A_p0 4) I_p0_layout, gz cI a_p1 16 f_p1] := hD
    refine lv_aload_n hx hb d_X_appendStripNumbers_24 rfl (lv_at hl 1 rfl) ?_
    refine va_get (D := (dC, dI)) (ci := 9) (v := .ref (A_p0 0)) (C := R_X) (T := T_X) (N := 14) hx hb hg in_X hown hK hP 0 rfl rfl 0 (by decide) (hg _ t_307) (fun _ h9 => h9) rfl d_X_appendStripNumbers_25 ?_
    refine va_get (D := (dC, dI)) (ci := 7) (v := .int (I_p0_file_21 2)) (C := R_St) (T := T_St) (N := 3) hx hb hg in_St hown hK hP 1 rfl rfl 2 (by decide) (hg _ t_97) (fun _ h9 => h9) rfl d_X_appendStripNumbers_28 ?_
    refine lv_istore_n (lv' := [(3, .int (I_p0_file_21 2)), (2, .int r4), (0, .ref a_p0), (1, .ref a_p1)]) hx hb d_X_appendStripNumbers_31 rfl hl (by decide) rfl (fun ls hl => ?_)
    refine lv_iconst (v := 0) hx hb d_X_appendStripNumbers_32 (by decide) ?_
    refine lv_istore (lv' := [(4, .int 0), (3, .int (I_p0_file_21 2)), (2, .int r4), (0, .ref a_p0), (1, .ref a_p1)]) hx hb d_X_appendStripNumbers_33 hl (by decide) rfl (fun ls hl => ?_)
    obtain ⟨n1, hw⟩ := hw
    exact l35 n1 _ _ _ I_p0_file_21 f_p0_file_bytes_21 r4 (I_p0_file_21 2) 0 hP hD hS (lv_sub hl [3, 4, 2, 1, 0] rfl) hw
  · have hw := hw.1 hc
    refine lv_aload_n hx hb d_X_appendStripNumbers_13 rfl (lv_at hl 2 rfl) ?_
    refine lv_iconst (v := 0) hx hb d_X_appendStripNumbers_14 (by decide) ?_
    obtain ⟨hin, hw⟩ := hw
    refine va_iald hx hb hK hP 4 0 rfl rfl hin d_X_appendStripNumbers_15 ?_
    exact hret _ _ _ _ _ (I_p0_file, f_p0_file_bytes) d_X_appendStripNumbers_16 rfl hP hD hS hw
theorem d_X_appendPage_0 : decode b_X_appendPage 0 = .ok (.aload_n 0, 1) := by decide +kernel
theorem d_X_appendPage_1 : decode b_X_appendPage 1 = .ok (.getfield 47, 3) := by decide +kernel
theorem d_X_appendPage_4 : decode b_X_appendPage 4 = .ok (.aload_n 0, 1) := by decide +kernel
theorem d_X_appendPage_5 : decode b_X_appendPage 5 = .ok (.getfield 26, 3) := by decide +kernel
theorem d_X_appendPage_8 : decode b_X_appendPage 8 = .ok (.aload_n 0, 1) := by decide +kernel
theorem d_X_appendPage_9 : decode b_X_appendPage 9 = .ok (.getfield 40, 3) := by decide +kernel
theorem d_X_appendPage_12 : decode b_X_appendPage 12 = .ok (.invokevirtual 234, 3) := by decide +kernel
theorem d_X_appendPage_15 : decode b_X_appendPage 15 = .ok (.aload_n 0, 1) := by decide +kernel
theorem d_X_appendPage_16 : decode b_X_appendPage 16 = .ok (.invokevirtual 238, 3) := by decide +kernel
theorem d_X_appendPage_19 : decode b_X_appendPage 19 = .ok (.aload_n 0, 1) := by decide +kernel
theorem d_X_appendPage_20 : decode b_X_appendPage 20 = .ok (.aload_n 0, 1) := by decide +kernel
theorem d_X_appendPage_21 : decode b_X_appendPage 21 = .ok (.getfield 78, 3) := by decide +kernel
theorem d_X_appendPage_24 : decode b_X_appendPage 24 = .ok (.invokevirtual 241, 3) := by decide +kernel
theorem d_X_appendPage_27 : decode b_X_appendPage 27 = .ok (.istore_n 1, 1) := by decide +kernel
theorem d_X_appendPage_28 : decode b_X_appendPage 28 = .ok (.aload_n 0, 1) := by decide +kernel
theorem d_X_appendPage_29 : decode b_X_appendPage 29 = .ok (.aload_n 0, 1) := by decide +kernel
theorem d_X_appendPage_30 : decode b_X_appendPage 30 = .ok (.getfield 82, 3) := by decide +kernel
theorem d_X_appendPage_33 : decode b_X_appendPage 33 = .ok (.invokevirtual 241, 3) := by decide +kernel
theorem d_X_appendPage_36 : decode b_X_appendPage 36 = .ok (.istore_n 2, 1) := by decide +kernel
theorem d_X_appendPage_37 : decode b_X_appendPage 37 = .ok (.aload_n 0, 1) := by decide +kernel
theorem d_X_appendPage_38 : decode b_X_appendPage 38 = .ok (.invokevirtual 245, 3) := by decide +kernel
theorem d_X_appendPage_41 : decode b_X_appendPage 41 = .ok (.aload_n 0, 1) := by decide +kernel
theorem d_X_appendPage_42 : decode b_X_appendPage 42 = .ok (.iload_n 1, 1) := by decide +kernel
theorem d_X_appendPage_43 : decode b_X_appendPage 43 = .ok (.iload_n 2, 1) := by decide +kernel
theorem d_X_appendPage_44 : decode b_X_appendPage 44 = .ok (.invokevirtual 248, 3) := by decide +kernel
theorem d_X_appendPage_47 : decode b_X_appendPage 47 = .ok (.ireturn, 1) := by decide +kernel
def wp_X_appendPage (post : Int32 → (Nat → Int32) → (Nat → Int32) → (Nat → Int32) → (Nat → Int32) → (Nat → Int32) → (Nat → Int32) → (Nat → Int32) → (Nat → Int32) → (Nat → Int32) → (Nat → Int32) → Prop) (I_p0_labels : Nat → Int32) (f_p0_labels_characters : Nat → Int32) (f_p0_labels_sizes : Nat → Int32) (f_p0_labels_tags : Nat → Int32) (I_p0_layout : Nat → Int32) (I_p0_picture : Nat → Int32) (f_p0_picture_samples : Nat → Int32) (f_p0_data_bytes : Nat → Int32) (I_p0_encoder : Nat → Int32) (f_p0_encoder_firstChild : Nat → Int32) (f_p0_encoder_lastNibble : Nat → Int32) (f_p0_encoder_nextSibling : Nat → Int32) (I_p0_file : Nat → Int32) (f_p0_file_bytes : Nat → Int32) (f_p0_writtenLengths : Nat → Int32) (f_p0_writtenPlaces : Nat → Int32) (f_p0_writtenTexts : Nat → Int32) : Prop :=
  wp_Da_pack (fun (f_p0_data_bytes_12 : Nat → Int32) =>
    wp_X_appendStrips (fun (I_p0_encoder_16 : Nat → Int32) (f_p0_encoder_firstChild_16 : Nat → Int32) (f_p0_encoder_lastNibble_16 : Nat → Int32) (f_p0_encoder_nextSibling_16 : Nat → Int32) (I_p0_file_16 : Nat → Int32) (f_p0_file_bytes_16 : Nat → Int32) (f_p0_writtenLengths_16 : Nat → Int32) (f_p0_writtenPlaces_16 : Nat → Int32) =>
      wp_X_appendStripNumbers (fun (r24 : Int32) (I_p0_file_24 : Nat → Int32) (f_p0_file_bytes_24 : Nat → Int32) =>
        wp_X_appendStripNumbers (fun (r33 : Int32) (I_p0_file_33 : Nat → Int32) (f_p0_file_bytes_33 : Nat → Int32) =>
          wp_X_appendLongTexts (fun (I_p0_file_38 : Nat → Int32) (f_p0_file_bytes_38 : Nat → Int32) (f_p0_writtenTexts_38 : Nat → Int32) =>
            wp_X_appendDirectory (fun (r44 : Int32) (I_p0_file_44 : Nat → Int32) (f_p0_file_bytes_44 : Nat → Int32) =>
              post r44 f_p0_data_bytes_12 I_p0_encoder_16 f_p0_encoder_firstChild_16 f_p0_encoder_lastNibble_16 f_p0_encoder_nextSibling_16 I_p0_file_44 f_p0_file_bytes_44 f_p0_writtenLengths_16 f_p0_writtenPlaces_16 f_p0_writtenTexts_38) I_p0_labels f_p0_labels_characters f_p0_labels_sizes f_p0_labels_tags I_p0_layout f_p0_writtenTexts_38 I_p0_file_38 f_p0_file_bytes_38 r24 r33) I_p0_labels f_p0_labels_characters f_p0_labels_sizes f_p0_labels_tags I_p0_file_33 f_p0_file_bytes_33 f_p0_writtenTexts) I_p0_layout f_p0_writtenLengths_16 I_p0_file_24 f_p0_file_bytes_24) I_p0_layout f_p0_writtenPlaces_16 I_p0_file_16 f_p0_file_bytes_16) f_p0_data_bytes_12 I_p0_layout I_p0_encoder f_p0_encoder_firstChild f_p0_encoder_lastNibble f_p0_encoder_nextSibling I_p0_file f_p0_file_bytes f_p0_writtenLengths f_p0_writtenPlaces) I_p0_picture f_p0_picture_samples I_p0_layout f_p0_data_bytes
set_option maxRecDepth 100000 in
set_option maxHeartbeats 4000000 in
theorem c_X_appendPage (l : Launch) (dC : Nat → ClassId) (dI : Nat → Nat → Nat) (cI : ClassId) (a_p0 : Nat) (A_p0 : Nat → Nat) (A_p0_data : Nat → Nat) (A_p0_encoder : Nat → Nat) (A_p0_file : Nat → Nat) (A_p0_labels : Nat → Nat) (A_p0_picture : Nat → Nat) (I_p0_labels : Nat → Int32) (f_p0_labels_characters : Nat → Int32) (f_p0_labels_sizes : Nat → Int32) (f_p0_labels_tags : Nat → Int32) (I_p0_layout : Nat → Int32) (I_p0_picture : Nat → Int32) (f_p0_picture_samples : Nat → Int32) (f_p0_data_bytes : Nat → Int32) (I_p0_encoder : Nat → Int32) (f_p0_encoder_firstChild : Nat → Int32) (f_p0_encoder_lastNibble : Nat → Int32) (f_p0_encoder_nextSibling : Nat → Int32) (I_p0_file : Nat → Int32) (f_p0_file_bytes : Nat → Int32) (f_p0_writtenLengths : Nat → Int32) (f_p0_writtenPlaces : Nat → Int32) (f_p0_writtenTexts : Nat → Int32) {post : Int32 → (Nat → Int32) → (Nat → Int32) → (Nat → Int32) → (Nat → Int32) → (Nat → Int32) → (Nat → Int32) → (Nat → Int32) → (Nat → Int32) → (Nat → Int32) → (Nat → Int32) → Prop} (hw : wp_X_appendPage post I_p0_labels f_p0_labels_characters f_p0_labels_sizes f_p0_labels_tags I_p0_layout I_p0_picture f_p0_picture_samples f_p0_data_bytes I_p0_encoder f_p0_encoder_firstChild f_p0_encoder_lastNibble f_p0_encoder_nextSibling I_p0_file f_p0_file_bytes f_p0_writtenLengths f_p0_writtenPlaces f_p0_writtenTexts) : gm_i l y_X_appendPage ws_X_appendPage ({ frames := 5, cells := 0, slots := 0, locals := 119 } : Room) (dC, dI) vwCl [(cI, .int)] [.ref a_p0] [oX a_p0 A_p0, oDa (A_p0 5) A_p0_data, gz cI (A_p0_data 0) 256 f_p0_data_bytes, oNe (A_p0 6) A_p0_encoder I_p0_encoder, gz cI (A_p0_encoder 0) 127 f_p0_encoder_firstChild, gz cI (A_p0_encoder 2) 127 f_p0_encoder_lastNibble, gz cI (A_p0_encoder 1) 127 f_p0_encoder_nextSibling, oSt (A_p0 0) A_p0_file I_p0_file, gz cI (A_p0_file 0) 900 f_p0_file_bytes, oLb (A_p0 3) A_p0_labels I_p0_labels, gz cI (A_p0_labels 2) 24 f_p0_labels_characters, gz cI (A_p0_labels 1) 2 f_p0_labels_sizes, gz cI (A_p0_labels 0) 2 f_p0_labels_tags, oLy (A_p0 4) I_p0_layout, oPi (A_p0 2) A_p0_picture I_p0_picture, gz cI (A_p0_picture 0) 256 f_p0_picture_samples, gz cI (A_p0 12) 16 f_p0_writtenLengths, gz cI (A_p0 11) 16 f_p0_writtenPlaces, gz cI (A_p0 13) 2 f_p0_writtenTexts] (fun (u : (Nat → Int32) × (Nat → Int32) × (Nat → Int32) × (Nat → Int32) × (Nat → Int32) × (Nat → Int32) × (Nat → Int32) × (Nat → Int32) × (Nat → Int32) × (Nat → Int32)) => [oX a_p0 A_p0, oDa (A_p0 5) A_p0_data, gz cI (A_p0_data 0) 256 u.1, oNe (A_p0 6) A_p0_encoder u.2.1, gz cI (A_p0_encoder 0) 127 u.2.2.1, gz cI (A_p0_encoder 2) 127 u.2.2.2.1, gz cI (A_p0_encoder 1) 127 u.2.2.2.2.1, oSt (A_p0 0) A_p0_file u.2.2.2.2.2.1, gz cI (A_p0_file 0) 900 u.2.2.2.2.2.2.1, oLb (A_p0 3) A_p0_labels I_p0_labels, gz cI (A_p0_labels 2) 24 f_p0_labels_characters, gz cI (A_p0_labels 1) 2 f_p0_labels_sizes, gz cI (A_p0_labels 0) 2 f_p0_labels_tags, oLy (A_p0 4) I_p0_layout, oPi (A_p0 2) A_p0_picture I_p0_picture, gz cI (A_p0_picture 0) 256 f_p0_picture_samples, gz cI (A_p0 12) 16 u.2.2.2.2.2.2.2.1, gz cI (A_p0 11) 16 u.2.2.2.2.2.2.2.2.1, gz cI (A_p0 13) 2 u.2.2.2.2.2.2.2.2.2]) (fun (r : Int32) (u : (Nat → Int32) × (Nat → Int32) × (Nat → Int32) × (Nat → Int32) × (Nat → Int32) × (Nat → Int32) × (Nat → Int32) × (Nat → Int32) × (Nat → Int32) × (Nat → Int32)) => post r u.1 u.2.1 u.2.2.1 u.2.2.2.1 u.2.2.2.2.1 u.2.2.2.2.2.1 u.2.2.2.2.2.2.1 u.2.2.2.2.2.2.2.1 u.2.2.2.2.2.2.2.2.1 u.2.2.2.2.2.2.2.2.2) := by
  refine gm_iof (cc := b_X_appendPage) (maxL := 3) (ty := .int) (by decide) rfl (Nat.le_of_ble_eq_true rfl) ?_
  intro p e s m args below meth c A Q hx hb hml hown hg hK hN hA hret
  have hown : s.vm.findClass R_X = some m.cls := hown
  intro ls hl hP hD hS
  have hl : lv_has ls 3 [(0, .ref a_p0)] := hl
  unfold wp_X_appendPage at hw
  refine lv_aload_n hx hb d_X_appendPage_0 rfl (lv_at hl 0 rfl) ?_
  refine va_get (D := (dC, dI)) (ci := 9) (v := .ref (A_p0 5)) (C := R_X) (T := T_X) (N := 14) hx hb hg in_X hown hK hP 0 rfl rfl 5 (by decide) (hg _ t_312) (fun _ h9 => h9) rfl d_X_appendPage_1 ?_
  refine lv_aload_n hx hb d_X_appendPage_4 rfl (lv_at hl 0 rfl) ?_
  refine va_get (D := (dC, dI)) (ci := 9) (v := .ref (A_p0 2)) (C := R_X) (T := T_X) (N := 14) hx hb hg in_X hown hK hP 0 rfl rfl 2 (by decide) (hg _ t_309) (fun _ h9 => h9) rfl d_X_appendPage_5 ?_
  refine lv_aload_n hx hb d_X_appendPage_8 rfl (lv_at hl 0 rfl) ?_
  refine va_get (D := (dC, dI)) (ci := 9) (v := .ref (A_p0 4)) (C := R_X) (T := T_X) (N := 14) hx hb hg in_X hown hK hP 0 rfl rfl 4 (by decide) (hg _ t_311) (fun _ h9 => h9) rfl d_X_appendPage_9 ?_
  refine gc_v (wn := fun u => [oX a_p0 A_p0, oDa (A_p0 5) A_p0_data, gz cI (A_p0_data 0) 256 u, oNe (A_p0 6) A_p0_encoder I_p0_encoder, gz cI (A_p0_encoder 0) 127 f_p0_encoder_firstChild, gz cI (A_p0_encoder 2) 127 f_p0_encoder_lastNibble, gz cI (A_p0_encoder 1) 127 f_p0_encoder_nextSibling, oSt (A_p0 0) A_p0_file I_p0_file, gz cI (A_p0_file 0) 900 f_p0_file_bytes, oLb (A_p0 3) A_p0_labels I_p0_labels, gz cI (A_p0_labels 2) 24 f_p0_labels_characters, gz cI (A_p0_labels 1) 2 f_p0_labels_sizes, gz cI (A_p0_labels 0) 2 f_p0_labels_tags, oLy (A_p0 4) I_p0_layout, oPi (A_p0 2) A_p0_picture I_p0_picture, gz cI (A_p0_picture 0) 256 f_p0_picture_samples, gz cI (A_p0 12) 16 f_p0_writtenLengths, gz cI (A_p0 11) 16 f_p0_writtenPlaces, gz cI (A_p0 13) 2 f_p0_writtenTexts]) (wr := [oX a_p0 A_p0, oNe (A_p0 6) A_p0_encoder I_p0_encoder, gz cI (A_p0_encoder 0) 127 f_p0_encoder_firstChild, gz cI (A_p0_encoder 2) 127 f_p0_encoder_lastNibble, gz cI (A_p0_encoder 1) 127 f_p0_encoder_nextSibling, oSt (A_p0 0) A_p0_file I_p0_file, gz cI (A_p0_file 0) 900 f_p0_file_bytes, oLb (A_p0 3) A_p0_labels I_p0_labels, gz cI (A_p0_labels 2) 24 f_p0_labels_characters, gz cI (A_p0_labels 1) 2 f_p0_labels_sizes, gz cI (A_p0_labels 0) 2 f_p0_labels_tags, gz cI (A_p0 12) 16 f_p0_writtenLengths, gz cI (A_p0 11) 16 f_p0_writtenPlaces, gz cI (A_p0 13) 2 f_p0_writtenTexts]) (gr_V (As := [.ref (A_p0 2), .ref (A_p0 4)]) (rest := []) ⟨hx, hb, hml, hown, hg⟩ (c_Da_pack l dC dI cI (A_p0 5) (A_p0 2) (A_p0 4) A_p0_data A_p0_picture I_p0_picture f_p0_picture_samples I_p0_layout f_p0_data_bytes hw _) (cwV 2 hg (gg_V t_496 t_497 t_498 t_66 t_499) rfl rfl rfl (by decide +kernel) ⟨Nat.le_of_ble_eq_true rfl, Nat.le_of_ble_eq_true rfl⟩) hK hN hP hD [1, 2, 14, 15, 13] (by decide) rfl 1 0 rfl rfl rfl rfl hl.1 rfl (Nat.le_of_ble_eq_true rfl) d_X_appendPage_12 ⟨Nat.le_of_ble_eq_true rfl, Nat.le_of_ble_eq_true rfl⟩) rfl rfl hP hD hS hA [1, 2, 14, 15, 13] [0, 3, 4, 5, 6, 7, 8, 9, 10, 11, 12, 16, 17, 18] [0, 14, 15, 1, 2, 3, 4, 5, 6, 7, 8, 9, 10, 18, 16, 17, 11, 12, 13] rfl rfl (by decide) (by decide) (by decide) (fun _ => rfl) ?_
  intro f_p0_data_bytes_12 H locs hw hP hD hS
  try dsimp only at hw
  have hP : va_P (dC, dI) vwCl [oX a_p0 A_p0, oDa (A_p0 5) A_p0_data, gz cI (A_p0_data 0) 256 f_p0_data_bytes_12, oNe (A_p0 6) A_p0_encoder I_p0_encoder, gz cI (A_p0_encoder 0) 127 f_p0_encoder_firstChild, gz cI (A_p0_encoder 2) 127 f_p0_encoder_lastNibble, gz cI (A_p0_encoder 1) 127 f_p0_encoder_nextSibling, oSt (A_p0 0) A_p0_file I_p0_file, gz cI (A_p0_file 0) 900 f_p0_file_bytes, oLb (A_p0 3) A_p0_labels I_p0_labels, gz cI (A_p0_labels 2) 24 f_p0_labels_characters, gz cI (A_p0_labels 1) 2 f_p0_labels_sizes, gz cI (A_p0_labels 0) 2 f_p0_labels_tags, oLy (A_p0 4) I_p0_layout, oPi (A_p0 2) A_p0_picture I_p0_picture, gz cI (A_p0_picture 0) 256 f_p0_picture_samples, gz cI (A_p0 12) 16 f_p0_writtenLengths, gz cI (A_p0 11) 16 f_p0_writtenPlaces, gz cI (A_p0 13) 2 f_p0_writtenTexts] H := hP
  have hD : va_D A [oX a_p0 A_p0, oDa (A_p0 5) A_p0_data, gz cI (A_p0_data 0) 256 f_p0_data_bytes_12, oNe (A_p0 6) A_p0_encoder I_p0_encoder, gz cI (A_p0_encoder 0) 127 f_p0_encoder_firstChild, gz cI (A_p0_encoder 2) 127 f_p0_encoder_lastNibble, gz cI (A_p0_encoder 1) 127 f_p0_encoder_nextSibling, oSt (A_p0 0) A_p0_file I_p0_file, gz cI (A_p0_file 0) 900 f_p0_file_bytes, oLb (A_p0 3) A_p0_labels I_p0_labels, gz cI (A_p0_labels 2) 24 f_p0_labels_characters, gz cI (A_p0_labels 1) 2 f_p0_labels_sizes, gz cI (A_p0_labels 0) 2 f_p0_labels_tags, oLy (A_p0 4) I_p0_layout, oPi (A_p0 2) A_p0_picture I_p0_picture, gz cI (A_p0_picture 0) 256 f_p0_picture_samples, gz cI (A_p0 12) 16 f_p0_writtenLengths, gz cI (A_p0 11) 16 f_p0_writtenPlaces, gz cI (A_p0 13) 2 f_p0_writtenTexts] := hD
  refine lv_aload_n hx hb d_X_appendPage_15 rfl (lv_at hl 0 rfl) ?_
  refine gc_v (wn := fun u => [oX a_p0 A_p0, oDa (A_p0 5) A_p0_data, gz cI (A_p0_data 0) 256 f_p0_data_bytes_12, oNe (A_p0 6) A_p0_encoder u.1, gz cI (A_p0_encoder 0) 127 u.2.1, gz cI (A_p0_encoder 2) 127 u.2.2.1, gz cI (A_p0_encoder 1) 127 u.2.2.2.1, oSt (A_p0 0) A_p0_file u.2.2.2.2.1, gz cI (A_p0_file 0) 900 u.2.2.2.2.2.1, oLb (A_p0 3) A_p0_labels I_p0_labels, gz cI (A_p0_labels 2) 24 f_p0_labels_characters, gz cI (A_p0_labels 1) 2 f_p0_labels_sizes, gz cI (A_p0_labels 0) 2 f_p0_labels_tags, oLy (A_p0 4) I_p0_layout, oPi (A_p0 2) A_p0_picture I_p0_picture, gz cI (A_p0_picture 0) 256 f_p0_picture_samples, gz cI (A_p0 12) 16 u.2.2.2.2.2.2.1, gz cI (A_p0 11) 16 u.2.2.2.2.2.2.2, gz cI (A_p0 13) 2 f_p0_writtenTexts]) (wr := [oLb (A_p0 3) A_p0_labels I_p0_labels, gz cI (A_p0_labels 2) 24 f_p0_labels_characters, gz cI (A_p0_labels 1) 2 f_p0_labels_sizes, gz cI (A_p0_labels 0) 2 f_p0_labels_tags, oPi (A_p0 2) A_p0_picture I_p0_picture, gz cI (A_p0_picture 0) 256 f_p0_picture_samples, gz cI (A_p0 13) 2 f_p0_writtenTexts]) (gr_V (As := []) (rest := []) ⟨hx, hb, hml, hown, hg⟩ (c_X_appendStrips l dC dI cI a_p0 A_p0 A_p0_data A_p0_encoder A_p0_file f_p0_data_bytes_12 I_p0_layout I_p0_encoder f_p0_encoder_firstChild f_p0_encoder_lastNibble f_p0_encoder_nextSibling I_p0_file f_p0_file_bytes f_p0_writtenLengths f_p0_writtenPlaces hw _) (cwV 0 hg (gg_V t_507 t_509 t_4 t_60 t_510) rfl rfl rfl (by decide +kernel) ⟨Nat.le_of_ble_eq_true rfl, Nat.le_of_ble_eq_true rfl⟩) hK hN hP hD [0, 1, 2, 3, 4, 5, 6, 7, 8, 13, 16, 17] (by decide) rfl 0 9 rfl rfl rfl rfl hl.1 rfl (Nat.le_of_ble_eq_true rfl) d_X_appendPage_16 ⟨Nat.le_of_ble_eq_true rfl, Nat.le_of_ble_eq_true rfl⟩) rfl rfl hP hD hS hA [0, 1, 2, 3, 4, 5, 6, 7, 8, 13, 16, 17] [9, 10, 11, 12, 14, 15, 18] [7, 8, 9, 10, 11, 12, 13, 14, 15, 0, 1, 2, 3, 16, 4, 5, 17, 18, 6] rfl rfl (by decide) (by decide) (by decide) (fun _ => rfl) ?_
  intro u9 H locs hw hP hD hS
  obtain ⟨I_p0_encoder_16, f_p0_encoder_firstChild_16, f_p0_encoder_lastNibble_16, f_p0_encoder_nextSibling_16, I_p0_file_16, f_p0_file_bytes_16, f_p0_writtenLengths_16, f_p0_writtenPlaces_16⟩ := u9
  try dsimp only at hw
  have hP : va_P (dC, dI) vwCl [oX a_p0 A_p0, oDa (A_p0 5) A_p0_data, gz cI (A_p0_data 0) 256 f_p0_data_bytes_12, oNe (A_p0 6) A_p0_encoder I_p0_encoder_16, gz cI (A_p0_encoder 0) 127 f_p0_encoder_firstChild_16, gz cI (A_p0_encoder 2) 127 f_p0_encoder_lastNibble_16, gz cI (A_p0_encoder 1) 127 f_p0_encoder_nextSibling_16, oSt (A_p0 0) A_p0_file I_p0_file_16, gz cI (A_p0_file 0) 900 f_p0_file_bytes_16, oLb (A_p0 3) A_p0_labels I_p0_labels, gz cI (A_p0_labels 2) 24 f_p0_labels_characters, gz cI (A_p0_labels 1) 2 f_p0_labels_sizes, gz cI (A_p0_labels 0) 2 f_p0_labels_tags, oLy (A_p0 4) I_p0_layout, oPi (A_p0 2) A_p0_picture I_p0_picture, gz cI (A_p0_picture 0) 256 f_p0_picture_samples, gz cI (A_p0 12) 16 f_p0_writtenLengths_16, gz cI (A_p0 11) 16 f_p0_writtenPlaces_16, gz cI (A_p0 13) 2 f_p0_writtenTexts] H := hP
  have hD : va_D A [oX a_p0 A_p0, oDa (A_p0 5) A_p0_data, gz cI (A_p0_data 0) 256 f_p0_data_bytes_12, oNe (A_p0 6) A_p0_encoder I_p0_encoder_16, gz cI (A_p0_encoder 0) 127 f_p0_encoder_firstChild_16, gz cI (A_p0_encoder 2) 127 f_p0_encoder_lastNibble_16, gz cI (A_p0_encoder 1) 127 f_p0_encoder_nextSibling_16, oSt (A_p0 0) A_p0_file I_p0_file_16, gz cI (A_p0_file 0) 900 f_p0_file_bytes_16, oLb (A_p0 3) A_p0_labels I_p0_labels, gz cI (A_p0_labels 2) 24 f_p0_labels_characters, gz cI (A_p0_labels 1) 2 f_p0_labels_sizes, gz cI (A_p0_labels 0) 2 f_p0_labels_tags, oLy (A_p0 4) I_p0_layout, oPi (A_p0 2) A_p0_picture I_p0_picture, gz cI (A_p0_picture 0) 256 f_p0_picture_samples, gz cI (A_p0 12) 16 f_p0_writtenLengths_16, gz cI (A_p0 11) 16 f_p0_writtenPlaces_16, gz cI (A_p0 13) 2 f_p0_writtenTexts] := hD
  refine lv_aload_n hx hb d_X_appendPage_19 rfl (lv_at hl 0 rfl) ?_
  refine lv_aload_n hx hb d_X_appendPage_20 rfl (lv_at hl 0 rfl) ?_
  refine va_get (D := (dC, dI)) (ci := 9) (v := .ref (A_p0 11)) (C := R_X) (T := T_X) (N := 14) hx hb hg in_X hown hK hP 0 rfl rfl 11 (by decide) (hg _ t_318) (fun _ h9 => h9) rfl d_X_appendPage_21 ?_
  refine gc_i (wn := fun u => [oX a_p0 A_p0, oDa (A_p0 5) A_p0_data, gz cI (A_p0_data 0) 256 f_p0_data_bytes_12, oNe (A_p0 6) A_p0_encoder I_p0_encoder_16, gz cI (A_p0_encoder 0) 127 f_p0_encoder_firstChild_16, gz cI (A_p0_encoder 2) 127 f_p0_encoder_lastNibble_16, gz cI (A_p0_encoder 1) 127 f_p0_encoder_nextSibling_16, oSt (A_p0 0) A_p0_file u.1, gz cI (A_p0_file 0) 900 u.2, oLb (A_p0 3) A_p0_labels I_p0_labels, gz cI (A_p0_labels 2) 24 f_p0_labels_characters, gz cI (A_p0_labels 1) 2 f_p0_labels_sizes, gz cI (A_p0_labels 0) 2 f_p0_labels_tags, oLy (A_p0 4) I_p0_layout, oPi (A_p0 2) A_p0_picture I_p0_picture, gz cI (A_p0_picture 0) 256 f_p0_picture_samples, gz cI (A_p0 12) 16 f_p0_writtenLengths_16, gz cI (A_p0 11) 16 f_p0_writtenPlaces_16, gz cI (A_p0 13) 2 f_p0_writtenTexts]) (wr := [oDa (A_p0 5) A_p0_data, gz cI (A_p0_data 0) 256 f_p0_data_bytes_12, oNe (A_p0 6) A_p0_encoder I_p0_encoder_16, gz cI (A_p0_encoder 0) 127 f_p0_encoder_firstChild_16, gz cI (A_p0_encoder 2) 127 f_p0_encoder_lastNibble_16, gz cI (A_p0_encoder 1) 127 f_p0_encoder_nextSibling_16, oLb (A_p0 3) A_p0_labels I_p0_labels, gz cI (A_p0_labels 2) 24 f_p0_labels_characters, gz cI (A_p0_labels 1) 2 f_p0_labels_sizes, gz cI (A_p0_labels 0) 2 f_p0_labels_tags, oPi (A_p0 2) A_p0_picture I_p0_picture, gz cI (A_p0_picture 0) 256 f_p0_picture_samples, gz cI (A_p0 12) 16 f_p0_writtenLengths_16, gz cI (A_p0 13) 2 f_p0_writtenTexts]) (gr_V (As := [.ref (A_p0 11)]) (rest := []) ⟨hx, hb, hml, hown, hg⟩ (c_X_appendStripNumbers l dC dI cI a_p0 (A_p0 11) A_p0 A_p0_file I_p0_layout f_p0_writtenPlaces_16 I_p0_file_16 f_p0_file_bytes_16 hw _) (cwV 1 hg (gg_V t_584 t_586 t_10 t_60 t_587) rfl rfl rfl (by decide +kernel) ⟨Nat.le_of_ble_eq_true rfl, Nat.le_of_ble_eq_true rfl⟩) hK hN hP hD [0, 7, 8, 13, 17] (by decide) rfl 0 9 rfl rfl rfl rfl hl.1 rfl (Nat.le_of_ble_eq_true rfl) d_X_appendPage_24 ⟨Nat.le_of_ble_eq_true rfl, Nat.le_of_ble_eq_true rfl⟩) rfl rfl hP hD hS hA [0, 7, 8, 13, 17] [1, 2, 3, 4, 5, 6, 9, 10, 11, 12, 14, 15, 16, 18] [14, 0, 1, 2, 3, 4, 5, 15, 16, 6, 7, 8, 9, 17, 10, 11, 12, 18, 13] rfl rfl (by decide) (by decide) (by decide) (fun _ => rfl) ?_
  intro r24 u9 H locs hw hP hD hS
  obtain ⟨I_p0_file_24, f_p0_file_bytes_24⟩ := u9
  try dsimp only at hw
  have hP : va_P (dC, dI) vwCl [oX a_p0 A_p0, oDa (A_p0 5) A_p0_data, gz cI (A_p0_data 0) 256 f_p0_data_bytes_12, oNe (A_p0 6) A_p0_encoder I_p0_encoder_16, gz cI (A_p0_encoder 0) 127 f_p0_encoder_firstChild_16, gz cI (A_p0_encoder 2) 127 f_p0_encoder_lastNibble_16, gz cI (A_p0_encoder 1) 127 f_p0_encoder_nextSibling_16, oSt (A_p0 0) A_p0_file I_p0_file_24, gz cI (A_p0_file 0) 900 f_p0_file_bytes_24, oLb (A_p0 3) A_p0_labels I_p0_labels, gz cI (A_p0_labels 2) 24 f_p0_labels_characters, gz cI (A_p0_labels 1) 2 f_p0_labels_sizes, gz cI (A_p0_labels 0) 2 f_p0_labels_tags, oLy (A_p0 4) I_p0_layout, oPi (A_p0 2) A_p0_picture I_p0_picture, gz cI (A_p0_picture 0) 256 f_p0_picture_samples, gz cI (A_p0 12) 16 f_p0_writtenLengths_16, gz cI (A_p0 11) 16 f_p0_writtenPlaces_16, gz cI (A_p0 13) 2 f_p0_writtenTexts] H := hP
  have hD : va_D A [oX a_p0 A_p0, oDa (A_p0 5) A_p0_data, gz cI (A_p0_data 0) 256 f_p0_data_bytes_12, oNe (A_p0 6) A_p0_encoder I_p0_encoder_16, gz cI (A_p0_encoder 0) 127 f_p0_encoder_firstChild_16, gz cI (A_p0_encoder 2) 127 f_p0_encoder_lastNibble_16, gz cI (A_p0_encoder 1) 127 f_p0_encoder_nextSibling_16, oSt (A_p0 0) A_p0_file I_p0_file_24, gz cI (A_p0_file 0) 900 f_p0_file_bytes_24, oLb (A_p0 3) A_p0_labels I_p0_labels, gz cI (A_p0_labels 2) 24 f_p0_labels_characters, gz cI (A_p0_labels 1) 2 f_p0_labels_sizes, gz cI (A_p0_labels 0) 2 f_p0_labels_tags, oLy (A_p0 4) I_p0_layout, oPi (A_p0 2) A_p0_picture I_p0_picture, gz cI (A_p0_picture 0) 256 f_p0_picture_samples, gz cI (A_p0 12) 16 f_p0_writtenLengths_16, gz cI (A_p0 11) 16 f_p0_writtenPlaces_16, gz cI (A_p0 13) 2 f_p0_writtenTexts] := hD
  refine lv_istore_n (lv' := [(1, .int r24), (0, .ref a_p0)]) hx hb d_X_appendPage_27 rfl hl (by decide) rfl (fun ls hl => ?_)
  refine lv_aload_n hx hb d_X_appendPage_28 rfl (lv_at hl 1 rfl) ?_
  refine lv_aload_n hx hb d_X_appendPage_29 rfl (lv_at hl 1 rfl) ?_
  refine va_get (D := (dC, dI)) (ci := 9) (v := .ref (A_p0 12)) (C := R_X) (T := T_X) (N := 14) hx hb hg in_X hown hK hP 0 rfl rfl 12 (by decide) (hg _ t_319) (fun _ h9 => h9) rfl d_X_appendPage_30 ?_
  refine gc_i (wn := fun u => [oX a_p0 A_p0, oDa (A_p0 5) A_p0_data, gz cI (A_p0_data 0) 256 f_p0_data_bytes_12, oNe (A_p0 6) A_p0_encoder I_p0_encoder_16, gz cI (A_p0_encoder 0) 127 f_p0_encoder_firstChild_16, gz cI (A_p0_encoder 2) 127 f_p0_encoder_lastNibble_16, gz cI (A_p0_encoder 1) 127 f_p0_encoder_nextSibling_16, oSt (A_p0 0) A_p0_file u.1, gz cI (A_p0_file 0) 900 u.2, oLb (A_p0 3) A_p0_labels I_p0_labels, gz cI (A_p0_labels 2) 24 f_p0_labels_characters, gz cI (A_p0_labels 1) 2 f_p0_labels_sizes, gz cI (A_p0_labels 0) 2 f_p0_labels_tags, oLy (A_p0 4) I_p0_layout, oPi (A_p0 2) A_p0_picture I_p0_picture, gz cI (A_p0_picture 0) 256 f_p0_picture_samples, gz cI (A_p0 12) 16 f_p0_writtenLengths_16, gz cI (A_p0 11) 16 f_p0_writtenPlaces_16, gz cI (A_p0 13) 2 f_p0_writtenTexts]) (wr := [oDa (A_p0 5) A_p0_data, gz cI (A_p0_data 0) 256 f_p0_data_bytes_12, oNe (A_p0 6) A_p0_encoder I_p0_encoder_16, gz cI (A_p0_encoder 0) 127 f_p0_encoder_firstChild_16, gz cI (A_p0_encoder 2) 127 f_p0_encoder_lastNibble_16, gz cI (A_p0_encoder 1) 127 f_p0_encoder_nextSibling_16, oLb (A_p0 3) A_p0_labels I_p0_labels, gz cI (A_p0_labels 2) 24 f_p0_labels_characters, gz cI (A_p0_labels 1) 2 f_p0_labels_sizes, gz cI (A_p0_labels 0) 2 f_p0_labels_tags, oPi (A_p0 2) A_p0_picture I_p0_picture, gz cI (A_p0_picture 0) 256 f_p0_picture_samples, gz cI (A_p0 11) 16 f_p0_writtenPlaces_16, gz cI (A_p0 13) 2 f_p0_writtenTexts]) (gr_V (As := [.ref (A_p0 12)]) (rest := []) ⟨hx, hb, hml, hown, hg⟩ (c_X_appendStripNumbers l dC dI cI a_p0 (A_p0 12) A_p0 A_p0_file I_p0_layout f_p0_writtenLengths_16 I_p0_file_24 f_p0_file_bytes_24 hw _) (cwV 1 hg (gg_V t_584 t_586 t_10 t_60 t_587) rfl rfl rfl (by decide +kernel) ⟨Nat.le_of_ble_eq_true rfl, Nat.le_of_ble_eq_true rfl⟩) hK hN hP hD [0, 7, 8, 13, 16] (by decide) rfl 0 9 rfl rfl rfl rfl hl.1 rfl (Nat.le_of_ble_eq_true rfl) d_X_appendPage_33 ⟨Nat.le_of_ble_eq_true rfl, Nat.le_of_ble_eq_true rfl⟩) rfl rfl hP hD hS hA [0, 7, 8, 13, 16] [1, 2, 3, 4, 5, 6, 9, 10, 11, 12, 14, 15, 17, 18] [14, 0, 1, 2, 3, 4, 5, 15, 16, 6, 7, 8, 9, 17, 10, 11, 18, 12, 13] rfl rfl (by decide) (by decide) (by decide) (fun _ => rfl) ?_
  intro r33 u9 H locs hw hP hD hS
  obtain ⟨I_p0_file_33, f_p0_file_bytes_33⟩ := u9
  try dsimp only at hw
  have hP : va_P (dC, dI) vwCl [oX a_p0 A_p0, oDa (A_p0 5) A_p0_data, gz cI (A_p0_data 0) 256 f_p0_data_bytes_12, oNe (A_p0 6) A_p0_encoder I_p0_encoder_16, gz cI (A_p0_encoder 0) 127 f_p0_encoder_firstChild_16, gz cI (A_p0_encoder 2) 127 f_p0_encoder_lastNibble_16, gz cI (A_p0_encoder 1) 127 f_p0_encoder_nextSibling_16, oSt (A_p0 0) A_p0_file I_p0_file_33, gz cI (A_p0_file 0) 900 f_p0_file_bytes_33, oLb (A_p0 3) A_p0_labels I_p0_labels, gz cI (A_p0_labels 2) 24 f_p0_labels_characters, gz cI (A_p0_labels 1) 2 f_p0_labels_sizes, gz cI (A_p0_labels 0) 2 f_p0_labels_tags, oLy (A_p0 4) I_p0_layout, oPi (A_p0 2) A_p0_picture I_p0_picture, gz cI (A_p0_picture 0) 256 f_p0_picture_samples, gz cI (A_p0 12) 16 f_p0_writtenLengths_16, gz cI (A_p0 11) 16 f_p0_writtenPlaces_16, gz cI (A_p0 13) 2 f_p0_writtenTexts] H := hP
  have hD : va_D A [oX a_p0 A_p0, oDa (A_p0 5) A_p0_data, gz cI (A_p0_data 0) 256 f_p0_data_bytes_12, oNe (A_p0 6) A_p0_encoder I_p0_encoder_16, gz cI (A_p0_encoder 0) 127 f_p0_encoder_firstChild_16, gz cI (A_p0_encoder 2) 127 f_p0_encoder_lastNibble_16, gz cI (A_p0_encoder 1) 127 f_p0_encoder_nextSibling_16, oSt (A_p0 0) A_p0_file I_p0_file_33, gz cI (A_p0_file 0) 900 f_p0_file_bytes_33, oLb (A_p0 3) A_p0_labels I_p0_labels, gz cI (A_p0_labels 2) 24 f_p0_labels_characters, gz cI (A_p0_labels 1) 2 f_p0_labels_sizes, gz cI (A_p0_labels 0) 2 f_p0_labels_tags, oLy (A_p0 4) I_p0_layout, oPi (A_p0 2) A_p0_picture I_p0_picture, gz cI (A_p0_picture 0) 256 f_p0_picture_samples, gz cI (A_p0 12) 16 f_p0_writtenLengths_16, gz cI (A_p0 11) 16 f_p0_writtenPlaces_16, gz cI (A_p0 13) 2 f_p0_writtenTexts] := hD
  refine lv_istore_n (lv' := [(2, .int r33), (1, .int r24), (0, .ref a_p0)]) hx hb d_X_appendPage_36 rfl hl (by decide) rfl (fun ls hl => ?_)
  refine lv_aload_n hx hb d_X_appendPage_37 rfl (lv_at hl 2 rfl) ?_
  refine gc_v (wn := fun u => [oX a_p0 A_p0, oDa (A_p0 5) A_p0_data, gz cI (A_p0_data 0) 256 f_p0_data_bytes_12, oNe (A_p0 6) A_p0_encoder I_p0_encoder_16, gz cI (A_p0_encoder 0) 127 f_p0_encoder_firstChild_16, gz cI (A_p0_encoder 2) 127 f_p0_encoder_lastNibble_16, gz cI (A_p0_encoder 1) 127 f_p0_encoder_nextSibling_16, oSt (A_p0 0) A_p0_file u.1, gz cI (A_p0_file 0) 900 u.2.1, oLb (A_p0 3) A_p0_labels I_p0_labels, gz cI (A_p0_labels 2) 24 f_p0_labels_characters, gz cI (A_p0_labels 1) 2 f_p0_labels_sizes, gz cI (A_p0_labels 0) 2 f_p0_labels_tags, oLy (A_p0 4) I_p0_layout, oPi (A_p0 2) A_p0_picture I_p0_picture, gz cI (A_p0_picture 0) 256 f_p0_picture_samples, gz cI (A_p0 12) 16 f_p0_writtenLengths_16, gz cI (A_p0 11) 16 f_p0_writtenPlaces_16, gz cI (A_p0 13) 2 u.2.2]) (wr := [oDa (A_p0 5) A_p0_data, gz cI (A_p0_data 0) 256 f_p0_data_bytes_12, oNe (A_p0 6) A_p0_encoder I_p0_encoder_16, gz cI (A_p0_encoder 0) 127 f_p0_encoder_firstChild_16, gz cI (A_p0_encoder 2) 127 f_p0_encoder_lastNibble_16, gz cI (A_p0_encoder 1) 127 f_p0_encoder_nextSibling_16, oLy (A_p0 4) I_p0_layout, oPi (A_p0 2) A_p0_picture I_p0_picture, gz cI (A_p0_picture 0) 256 f_p0_picture_samples, gz cI (A_p0 12) 16 f_p0_writtenLengths_16, gz cI (A_p0 11) 16 f_p0_writtenPlaces_16]) (gr_V (As := []) (rest := []) ⟨hx, hb, hml, hown, hg⟩ (c_X_appendLongTexts l dC dI cI a_p0 A_p0 A_p0_file A_p0_labels I_p0_labels f_p0_labels_characters f_p0_labels_sizes f_p0_labels_tags I_p0_file_33 f_p0_file_bytes_33 f_p0_writtenTexts hw _) (cwV 0 hg (gg_V t_589 t_591 t_11 t_60 t_592) rfl rfl rfl (by decide +kernel) ⟨Nat.le_of_ble_eq_true rfl, Nat.le_of_ble_eq_true rfl⟩) hK hN hP hD [0, 7, 8, 9, 10, 11, 12, 18] (by decide) rfl 0 9 rfl rfl rfl rfl hl.1 rfl (Nat.le_of_ble_eq_true rfl) d_X_appendPage_38 ⟨Nat.le_of_ble_eq_true rfl, Nat.le_of_ble_eq_true rfl⟩) rfl rfl hP hD hS hA [0, 7, 8, 9, 10, 11, 12, 18] [1, 2, 3, 4, 5, 6, 13, 14, 15, 16, 17] [11, 0, 1, 2, 3, 4, 5, 12, 13, 14, 15, 16, 17, 6, 7, 8, 9, 10, 18] rfl rfl (by decide) (by decide) (by decide) (fun _ => rfl) ?_
  intro u9 H locs hw hP hD hS
  obtain ⟨I_p0_file_38, f_p0_file_bytes_38, f_p0_writtenTexts_38⟩ := u9
  try dsimp only at hw
  have hP : va_P (dC, dI) vwCl [oX a_p0 A_p0, oDa (A_p0 5) A_p0_data, gz cI (A_p0_data 0) 256 f_p0_data_bytes_12, oNe (A_p0 6) A_p0_encoder I_p0_encoder_16, gz cI (A_p0_encoder 0) 127 f_p0_encoder_firstChild_16, gz cI (A_p0_encoder 2) 127 f_p0_encoder_lastNibble_16, gz cI (A_p0_encoder 1) 127 f_p0_encoder_nextSibling_16, oSt (A_p0 0) A_p0_file I_p0_file_38, gz cI (A_p0_file 0) 900 f_p0_file_bytes_38, oLb (A_p0 3) A_p0_labels I_p0_labels, gz cI (A_p0_labels 2) 24 f_p0_labels_characters, gz cI (A_p0_labels 1) 2 f_p0_labels_sizes, gz cI (A_p0_labels 0) 2 f_p0_labels_tags, oLy (A_p0 4) I_p0_layout, oPi (A_p0 2) A_p0_picture I_p0_picture, gz cI (A_p0_picture 0) 256 f_p0_picture_samples, gz cI (A_p0 12) 16 f_p0_writtenLengths_16, gz cI (A_p0 11) 16 f_p0_writtenPlaces_16, gz cI (A_p0 13) 2 f_p0_writtenTexts_38] H := hP
  have hD : va_D A [oX a_p0 A_p0, oDa (A_p0 5) A_p0_data, gz cI (A_p0_data 0) 256 f_p0_data_bytes_12, oNe (A_p0 6) A_p0_encoder I_p0_encoder_16, gz cI (A_p0_encoder 0) 127 f_p0_encoder_firstChild_16, gz cI (A_p0_encoder 2) 127 f_p0_encoder_lastNibble_16, gz cI (A_p0_encoder 1) 127 f_p0_encoder_nextSibling_16, oSt (A_p0 0) A_p0_file I_p0_file_38, gz cI (A_p0_file 0) 900 f_p0_file_bytes_38, oLb (A_p0 3) A_p0_labels I_p0_labels, gz cI (A_p0_labels 2) 24 f_p0_labels_characters, gz cI (A_p0_labels 1) 2 f_p0_labels_sizes, gz cI (A_p0_labels 0) 2 f_p0_labels_tags, oLy (A_p0 4) I_p0_layout, oPi (A_p0 2) A_p0_picture I_p0_picture, gz cI (A_p0_picture 0) 256 f_p0_picture_samples, gz cI (A_p0 12) 16 f_p0_writtenLengths_16, gz cI (A_p0 11) 16 f_p0_writtenPlaces_16, gz cI (A_p0 13) 2 f_p0_writtenTexts_38] := hD
  refine lv_aload_n hx hb d_X_appendPage_41 rfl (lv_at hl 2 rfl) ?_
  refine lv_iload_n hx hb d_X_appendPage_42 rfl (lv_at hl 1 rfl) ?_
  refine lv_iload_n hx hb d_X_appendPage_43 rfl (lv_at hl 0 rfl) ?_
  refine gc_i (wn := fun u => [oX a_p0 A_p0, oDa (A_p0 5) A_p0_data, gz cI (A_p0_data 0) 256 f_p0_data_bytes_12, oNe (A_p0 6) A_p0_encoder I_p0_encoder_16, gz cI (A_p0_encoder 0) 127 f_p0_encoder_firstChild_16, gz cI (A_p0_encoder 2) 127 f_p0_encoder_lastNibble_16, gz cI (A_p0_encoder 1) 127 f_p0_encoder_nextSibling_16, oSt (A_p0 0) A_p0_file u.1, gz cI (A_p0_file 0) 900 u.2, oLb (A_p0 3) A_p0_labels I_p0_labels, gz cI (A_p0_labels 2) 24 f_p0_labels_characters, gz cI (A_p0_labels 1) 2 f_p0_labels_sizes, gz cI (A_p0_labels 0) 2 f_p0_labels_tags, oLy (A_p0 4) I_p0_layout, oPi (A_p0 2) A_p0_picture I_p0_picture, gz cI (A_p0_picture 0) 256 f_p0_picture_samples, gz cI (A_p0 12) 16 f_p0_writtenLengths_16, gz cI (A_p0 11) 16 f_p0_writtenPlaces_16, gz cI (A_p0 13) 2 f_p0_writtenTexts_38]) (wr := [oDa (A_p0 5) A_p0_data, gz cI (A_p0_data 0) 256 f_p0_data_bytes_12, oNe (A_p0 6) A_p0_encoder I_p0_encoder_16, gz cI (A_p0_encoder 0) 127 f_p0_encoder_firstChild_16, gz cI (A_p0_encoder 2) 127 f_p0_encoder_lastNibble_16, gz cI (A_p0_encoder 1) 127 f_p0_encoder_nextSibling_16, oPi (A_p0 2) A_p0_picture I_p0_picture, gz cI (A_p0_picture 0) 256 f_p0_picture_samples, gz cI (A_p0 12) 16 f_p0_writtenLengths_16, gz cI (A_p0 11) 16 f_p0_writtenPlaces_16]) (gr_V (As := [.int r24, .int r33]) (rest := []) ⟨hx, hb, hml, hown, hg⟩ (c_X_appendDirectory l dC dI cI a_p0 A_p0 A_p0_file A_p0_labels I_p0_labels f_p0_labels_characters f_p0_labels_sizes f_p0_labels_tags I_p0_layout f_p0_writtenTexts_38 I_p0_file_38 f_p0_file_bytes_38 r24 r33 hw _) (cwV 2 hg (gg_V t_606 t_608 t_12 t_60 t_609) rfl rfl rfl (by decide +kernel) ⟨Nat.le_of_ble_eq_true rfl, Nat.le_of_ble_eq_true rfl⟩) hK hN hP hD [0, 7, 8, 9, 10, 11, 12, 13, 18] (by decide) rfl 0 9 rfl rfl rfl rfl hl.1 rfl (Nat.le_of_ble_eq_true rfl) d_X_appendPage_44 ⟨Nat.le_of_ble_eq_true rfl, Nat.le_of_ble_eq_true rfl⟩) rfl rfl hP hD hS hA [0, 7, 8, 9, 10, 11, 12, 13, 18] [1, 2, 3, 4, 5, 6, 14, 15, 16, 17] [10, 0, 1, 2, 3, 4, 5, 11, 12, 13, 14, 15, 16, 17, 6, 7, 8, 9, 18] rfl rfl (by decide) (by decide) (by decide) (fun _ => rfl) ?_
  intro r44 u9 H locs hw hP hD hS
  obtain ⟨I_p0_file_44, f_p0_file_bytes_44⟩ := u9
  try dsimp only at hw
  have hP : va_P (dC, dI) vwCl [oX a_p0 A_p0, oDa (A_p0 5) A_p0_data, gz cI (A_p0_data 0) 256 f_p0_data_bytes_12, oNe (A_p0 6) A_p0_encoder I_p0_encoder_16, gz cI (A_p0_encoder 0) 127 f_p0_encoder_firstChild_16, gz cI (A_p0_encoder 2) 127 f_p0_encoder_lastNibble_16, gz cI (A_p0_encoder 1) 127 f_p0_encoder_nextSibling_16, oSt (A_p0 0) A_p0_file I_p0_file_44, gz cI (A_p0_file 0) 900 f_p0_file_bytes_44, oLb (A_p0 3) A_p0_labels I_p0_labels, gz cI (A_p0_labels 2) 24 f_p0_labels_characters, gz cI (A_p0_labels 1) 2 f_p0_labels_sizes, gz cI (A_p0_labels 0) 2 f_p0_labels_tags, oLy (A_p0 4) I_p0_layout, oPi (A_p0 2) A_p0_picture I_p0_picture, gz cI (A_p0_picture 0) 256 f_p0_picture_samples, gz cI (A_p0 12) 16 f_p0_writtenLengths_16, gz cI (A_p0 11) 16 f_p0_writtenPlaces_16, gz cI (A_p0 13) 2 f_p0_writtenTexts_38] H := hP
  have hD : va_D A [oX a_p0 A_p0, oDa (A_p0 5) A_p0_data, gz cI (A_p0_data 0) 256 f_p0_data_bytes_12, oNe (A_p0 6) A_p0_encoder I_p0_encoder_16, gz cI (A_p0_encoder 0) 127 f_p0_encoder_firstChild_16, gz cI (A_p0_encoder 2) 127 f_p0_encoder_lastNibble_16, gz cI (A_p0_encoder 1) 127 f_p0_encoder_nextSibling_16, oSt (A_p0 0) A_p0_file I_p0_file_44, gz cI (A_p0_file 0) 900 f_p0_file_bytes_44, oLb (A_p0 3) A_p0_labels I_p0_labels, gz cI (A_p0_labels 2) 24 f_p0_labels_characters, gz cI (A_p0_labels 1) 2 f_p0_labels_sizes, gz cI (A_p0_labels 0) 2 f_p0_labels_tags, oLy (A_p0 4) I_p0_layout, oPi (A_p0 2) A_p0_picture I_p0_picture, gz cI (A_p0_picture 0) 256 f_p0_picture_samples, gz cI (A_p0 12) 16 f_p0_writtenLengths_16, gz cI (A_p0 11) 16 f_p0_writtenPlaces_16, gz cI (A_p0 13) 2 f_p0_writtenTexts_38] := hD
  exact hret _ _ _ _ _ (f_p0_data_bytes_12, I_p0_encoder_16, f_p0_encoder_firstChild_16, f_p0_encoder_lastNibble_16, f_p0_encoder_nextSibling_16, I_p0_file_44, f_p0_file_bytes_44, f_p0_writtenLengths_16, f_p0_writtenPlaces_16, f_p0_writtenTexts_38) d_X_appendPage_47 rfl hP hD hS hw
theorem d_X_isSide_0 : decode b_X_isSide 0 = .ok (.lload_n 0, 1) := by decide +kernel
theorem d_X_isSide_1 : decode b_X_isSide 1 = .ok (.lconst 1, 1) := by decide +kernel
theorem d_X_isSide_2 : decode b_X_isSide 2 = .ok (.lcmp, 1) := by decide +kernel
theorem d_X_isSide_3 : decode b_X_isSide 3 = .ok (.ifCond .lt 15, 3) := by decide +kernel
theorem d_X_isSide_6 : decode b_X_isSide 6 = .ok (.lload_n 0, 1) := by decide +kernel
theorem d_X_isSide_7 : decode b_X_isSide 7 = .ok (.ldc2_w 222, 3) := by decide +kernel
theorem d_X_isSide_10 : decode b_X_isSide 10 = .ok (.lcmp, 1) := by decide +kernel
theorem d_X_isSide_11 : decode b_X_isSide 11 = .ok (.ifCond .gt 7, 3) := by decide +kernel
theorem d_X_isSide_14 : decode b_X_isSide 14 = .ok (.iconst 1, 1) := by decide +kernel
theorem d_X_isSide_15 : decode b_X_isSide 15 = .ok (.goto 4, 3) := by decide +kernel
theorem d_X_isSide_18 : decode b_X_isSide 18 = .ok (.iconst 0, 1) := by decide +kernel
theorem d_X_isSide_19 : decode b_X_isSide 19 = .ok (.ireturn, 1) := by decide +kernel
def wp_X_isSide_b18 (post : Int32 → Prop) : Prop :=
  post 0
def wp_X_isSide (post : Int32 → Prop) (x0 : Int64) : Prop :=
  ((x0 < 1 →
    wp_X_isSide_b18 post) ∧
   (¬ x0 < 1 →
    ((16 < x0 →
      wp_X_isSide_b18 post) ∧
     (¬ 16 < x0 →
      post 1))))
set_option maxRecDepth 100000 in
set_option maxHeartbeats 4000000 in
theorem c_X_isSide (l : Launch) (dC : Nat → ClassId) (dI : Nat → Nat → Nat) (cI : ClassId) (x0 : Int64) {post : Int32 → Prop} (hw : wp_X_isSide post x0) : gm_i l y_X_isSide ws_X_isSide ({ frames := 0, cells := 0, slots := 0, locals := 0 } : Room) (dC, dI) vwCl [(cI, .int)] [.long x0] [] (fun (_ : Unit) => []) (fun (r : Int32) (_ : Unit) => post r) := by
  refine gm_iof (cc := b_X_isSide) (maxL := 2) (ty := .boolean) (by decide) rfl (Nat.le_of_ble_eq_true rfl) ?_
  intro p e s m args below meth c A Q hx hb hml hown hg hK hN hA hret
  have hown : s.vm.findClass R_X = some m.cls := hown
  have b18 : ∀ (H : Heap) (locs : List Loc) (ls : Array Slot), va_P (dC, dI) vwCl [] H → va_D A [] → va_S A s.heap H locs → lv_has ls 2 [] → wp_X_isSide_b18 post → W p l e ({ frames := 0, cells := 0, slots := 0, locals := 0 } : Room) s m args below meth c H locs 0 0 Q (F0 m 18 ls []) := by
    intro H locs ls hP hD hS hl hw
    unfold wp_X_isSide_b18 at hw
    refine lv_iconst (v := 0) hx hb d_X_isSide_18 (by decide) ?_
    exact hret _ _ _ _ _ () d_X_isSide_19 rfl hP hD hS hw
  intro ls hl hP hD hS
  have hl : lv_has ls 2 [(0, .long x0)] := hl
  unfold wp_X_isSide at hw
  refine lv_lload_n hx hb d_X_isSide_0 rfl (lv_at hl 0 rfl) ?_
  refine lv_lconst (v := 1) hx hb d_X_isSide_1 (by decide) ?_
  refine W.lcmp hx hb d_X_isSide_2 ?_
  refine lv_if_lt hx hb d_X_isSide_3 rfl (fun hc => ?_) (fun hc => ?_)
  · have hw := hw.1 ((lg_cmp_lt _ _).mp hc)
    exact b18 _ _ _ hP hD hS (lv_sub hl [] rfl) hw
  · have hw := hw.2 (fun h9 => hc ((lg_cmp_lt _ _).mpr h9))
    refine lv_lload_n hx hb d_X_isSide_6 rfl (lv_at hl 0 rfl) ?_
    refine lv_ldc2 (v := 16) hx hb hown (hg _ t_377) d_X_isSide_7 ?_
    refine W.lcmp hx hb d_X_isSide_10 ?_
    refine lv_if_gt hx hb d_X_isSide_11 rfl (fun hc => ?_) (fun hc => ?_)
    · have hw := hw.1 ((lg_cmp_gt _ _).mp hc)
      exact b18 _ _ _ hP hD hS (lv_sub hl [] rfl) hw
    · have hw := hw.2 (fun h9 => hc ((lg_cmp_gt _ _).mpr h9))
      refine lv_iconst (v := 1) hx hb d_X_isSide_14 (by decide) ?_
      refine lv_goto hx hb d_X_isSide_15 rfl ?_
      exact hret _ _ _ _ _ () d_X_isSide_19 rfl hP hD hS hw
theorem d_X_isDepth_0 : decode b_X_isDepth 0 = .ok (.lload_n 0, 1) := by decide +kernel
theorem d_X_isDepth_1 : decode b_X_isDepth 1 = .ok (.lconst 1, 1) := by decide +kernel
theorem d_X_isDepth_2 : decode b_X_isDepth 2 = .ok (.lcmp, 1) := by decide +kernel
theorem d_X_isDepth_3 : decode b_X_isDepth 3 = .ok (.ifCond .eq 27, 3) := by decide +kernel
theorem d_X_isDepth_6 : decode b_X_isDepth 6 = .ok (.lload_n 0, 1) := by decide +kernel
theorem d_X_isDepth_7 : decode b_X_isDepth 7 = .ok (.ldc2_w 224, 3) := by decide +kernel
theorem d_X_isDepth_10 : decode b_X_isDepth 10 = .ok (.lcmp, 1) := by decide +kernel
theorem d_X_isDepth_11 : decode b_X_isDepth 11 = .ok (.ifCond .eq 19, 3) := by decide +kernel
theorem d_X_isDepth_14 : decode b_X_isDepth 14 = .ok (.lload_n 0, 1) := by decide +kernel
theorem d_X_isDepth_15 : decode b_X_isDepth 15 = .ok (.ldc2_w 226, 3) := by decide +kernel
theorem d_X_isDepth_18 : decode b_X_isDepth 18 = .ok (.lcmp, 1) := by decide +kernel
theorem d_X_isDepth_19 : decode b_X_isDepth 19 = .ok (.ifCond .eq 11, 3) := by decide +kernel
theorem d_X_isDepth_22 : decode b_X_isDepth 22 = .ok (.lload_n 0, 1) := by decide +kernel
theorem d_X_isDepth_23 : decode b_X_isDepth 23 = .ok (.ldc2_w 228, 3) := by decide +kernel
theorem d_X_isDepth_26 : decode b_X_isDepth 26 = .ok (.lcmp, 1) := by decide +kernel
theorem d_X_isDepth_27 : decode b_X_isDepth 27 = .ok (.ifCond .ne 7, 3) := by decide +kernel
theorem d_X_isDepth_30 : decode b_X_isDepth 30 = .ok (.iconst 1, 1) := by decide +kernel
theorem d_X_isDepth_31 : decode b_X_isDepth 31 = .ok (.goto 4, 3) := by decide +kernel
theorem d_X_isDepth_34 : decode b_X_isDepth 34 = .ok (.iconst 0, 1) := by decide +kernel
theorem d_X_isDepth_35 : decode b_X_isDepth 35 = .ok (.ireturn, 1) := by decide +kernel
def wp_X_isDepth_b30 (post : Int32 → Prop) : Prop :=
  post 1
def wp_X_isDepth (post : Int32 → Prop) (x0 : Int64) : Prop :=
  ((x0 = 1 →
    wp_X_isDepth_b30 post) ∧
   (¬ x0 = 1 →
    ((x0 = 2 →
      wp_X_isDepth_b30 post) ∧
     (¬ x0 = 2 →
      ((x0 = 4 →
        wp_X_isDepth_b30 post) ∧
       (¬ x0 = 4 →
        ((x0 = 8 →
          wp_X_isDepth_b30 post) ∧
         (¬ x0 = 8 →
          post 0))))))))
set_option maxRecDepth 100000 in
set_option maxHeartbeats 4000000 in
theorem c_X_isDepth (l : Launch) (dC : Nat → ClassId) (dI : Nat → Nat → Nat) (cI : ClassId) (x0 : Int64) {post : Int32 → Prop} (hw : wp_X_isDepth post x0) : gm_i l y_X_isDepth ws_X_isDepth ({ frames := 0, cells := 0, slots := 0, locals := 0 } : Room) (dC, dI) vwCl [(cI, .int)] [.long x0] [] (fun (_ : Unit) => []) (fun (r : Int32) (_ : Unit) => post r) := by
  refine gm_iof (cc := b_X_isDepth) (maxL := 2) (ty := .boolean) (by decide) rfl (Nat.le_of_ble_eq_true rfl) ?_
  intro p e s m args below meth c A Q hx hb hml hown hg hK hN hA hret
  have hown : s.vm.findClass R_X = some m.cls := hown
  have b30 : ∀ (H : Heap) (locs : List Loc) (ls : Array Slot), va_P (dC, dI) vwCl [] H → va_D A [] → va_S A s.heap H locs → lv_has ls 2 [] → wp_X_isDepth_b30 post → W p l e ({ frames := 0, cells := 0, slots := 0, locals := 0 } : Room) s m args below meth c H locs 0 0 Q (F0 m 30 ls []) := by
    intro H locs ls hP hD hS hl hw
    unfold wp_X_isDepth_b30 at hw
    refine lv_iconst (v := 1) hx hb d_X_isDepth_30 (by decide) ?_
    refine lv_goto hx hb d_X_isDepth_31 rfl ?_
    exact hret _ _ _ _ _ () d_X_isDepth_35 rfl hP hD hS hw
  intro ls hl hP hD hS
  have hl : lv_has ls 2 [(0, .long x0)] := hl
  unfold wp_X_isDepth at hw
  refine lv_lload_n hx hb d_X_isDepth_0 rfl (lv_at hl 0 rfl) ?_
  refine lv_lconst (v := 1) hx hb d_X_isDepth_1 (by decide) ?_
  refine W.lcmp hx hb d_X_isDepth_2 ?_
  refine lv_if_eq hx hb d_X_isDepth_3 rfl (fun hc => ?_) (fun hc => ?_)
  · have hw := hw.1 ((lg_cmp_eq _ _).mp hc)
    exact b30 _ _ _ hP hD hS (lv_sub hl [] rfl) hw
  · have hw := hw.2 (fun h9 => hc ((lg_cmp_eq _ _).mpr h9))
    refine lv_lload_n hx hb d_X_isDepth_6 rfl (lv_at hl 0 rfl) ?_
    refine lv_ldc2 (v := 2) hx hb hown (hg _ t_381) d_X_isDepth_7 ?_
    refine W.lcmp hx hb d_X_isDepth_10 ?_
    refine lv_if_eq hx hb d_X_isDepth_11 rfl (fun hc => ?_) (fun hc => ?_)
    · have hw := hw.1 ((lg_cmp_eq _ _).mp hc)
      exact b30 _ _ _ hP hD hS (lv_sub hl [] rfl) hw
    · have hw := hw.2 (fun h9 => hc ((lg_cmp_eq _ _).mpr h9))
      refine lv_lload_n hx hb d_X_isDepth_14 rfl (lv_at hl 0 rfl) ?_
      refine lv_ldc2 (v := 4) hx hb hown (hg _ t_382) d_X_isDepth_15 ?_
      refine W.lcmp hx hb d_X_isDepth_18 ?_
      refine lv_if_eq hx hb d_X_isDepth_19 rfl (fun hc => ?_) (fun hc => ?_)
      · have hw := hw.1 ((lg_cmp_eq _ _).mp hc)
        exact b30 _ _ _ hP hD hS (lv_sub hl [] rfl) hw
      · have hw := hw.2 (fun h9 => hc ((lg_cmp_eq _ _).mpr h9))
        refine lv_lload_n hx hb d_X_isDepth_22 rfl (lv_at hl 0 rfl) ?_
        refine lv_ldc2 (v := 8) hx hb hown (hg _ t_383) d_X_isDepth_23 ?_
        refine W.lcmp hx hb d_X_isDepth_26 ?_
        refine lv_if_ne hx hb d_X_isDepth_27 rfl (fun hc => ?_) (fun hc => ?_)
        · have hw := hw.2 (fun h9 => hc ((lg_cmp_eq _ _).mpr h9))
          refine lv_iconst (v := 0) hx hb d_X_isDepth_34 (by decide) ?_
          exact hret _ _ _ _ _ () d_X_isDepth_35 rfl hP hD hS hw
        · have hw := hw.1 ((lg_cmp_eq _ _).mp hc)
          exact b30 _ _ _ hP hD hS (lv_sub hl [] rfl) hw
theorem d_X_begin_0 : decode b_X_begin 0 = .ok (.iload_n 1, 1) := by decide +kernel
theorem d_X_begin_1 : decode b_X_begin 1 = .ok (.i2l, 1) := by decide +kernel
theorem d_X_begin_2 : decode b_X_begin 2 = .ok (.invokestatic 107, 3) := by decide +kernel
theorem d_X_begin_5 : decode b_X_begin 5 = .ok (.ifCond .eq 19, 3) := by decide +kernel
theorem d_X_begin_8 : decode b_X_begin 8 = .ok (.iload_n 2, 1) := by decide +kernel
theorem d_X_begin_9 : decode b_X_begin 9 = .ok (.i2l, 1) := by decide +kernel
theorem d_X_begin_10 : decode b_X_begin 10 = .ok (.invokestatic 107, 3) := by decide +kernel
theorem d_X_begin_13 : decode b_X_begin 13 = .ok (.ifCond .eq 11, 3) := by decide +kernel
theorem d_X_begin_16 : decode b_X_begin 16 = .ok (.iload_n 3, 1) := by decide +kernel
theorem d_X_begin_17 : decode b_X_begin 17 = .ok (.i2l, 1) := by decide +kernel
theorem d_X_begin_18 : decode b_X_begin 18 = .ok (.invokestatic 111, 3) := by decide +kernel
theorem d_X_begin_21 : decode b_X_begin 21 = .ok (.ifCond .ne 5, 3) := by decide +kernel
theorem d_X_begin_24 : decode b_X_begin 24 = .ok (.iconst 0, 1) := by decide +kernel
theorem d_X_begin_25 : decode b_X_begin 25 = .ok (.ireturn, 1) := by decide +kernel
theorem d_X_begin_26 : decode b_X_begin 26 = .ok (.aload_n 0, 1) := by decide +kernel
theorem d_X_begin_27 : decode b_X_begin 27 = .ok (.getfield 26, 3) := by decide +kernel
theorem d_X_begin_30 : decode b_X_begin 30 = .ok (.iload_n 1, 1) := by decide +kernel
theorem d_X_begin_31 : decode b_X_begin 31 = .ok (.iload_n 2, 1) := by decide +kernel
theorem d_X_begin_32 : decode b_X_begin 32 = .ok (.iload_n 3, 1) := by decide +kernel
theorem d_X_begin_33 : decode b_X_begin 33 = .ok (.invokevirtual 92, 3) := by decide +kernel
theorem d_X_begin_36 : decode b_X_begin 36 = .ok (.iconst 1, 1) := by decide +kernel
theorem d_X_begin_37 : decode b_X_begin 37 = .ok (.ireturn, 1) := by decide +kernel
def wp_X_begin (post : Int32 → (Nat → Int32) → (Nat → Int32) → Prop) (I_p0_picture : Nat → Int32) (f_p0_picture_samples : Nat → Int32) (x1 : Int32) (x2 : Int32) (x3 : Int32) : Prop :=
  wp_X_isSide (fun (r2 : Int32) =>
    ((r2 = 0 →
      post 0 I_p0_picture f_p0_picture_samples) ∧
     (¬ r2 = 0 →
      wp_X_isSide (fun (r10 : Int32) =>
        ((r10 = 0 →
          post 0 I_p0_picture f_p0_picture_samples) ∧
         (¬ r10 = 0 →
          wp_X_isDepth (fun (r18 : Int32) =>
            ((r18 = 0 →
              post 0 I_p0_picture f_p0_picture_samples) ∧
             (¬ r18 = 0 →
              wp_Pi_become (fun (I_p0_picture_33 : Nat → Int32) (f_p0_picture_samples_33 : Nat → Int32) =>
                post 1 I_p0_picture_33 f_p0_picture_samples_33) I_p0_picture f_p0_picture_samples x1 x2 x3))) x3.toInt64))) x2.toInt64))) x1.toInt64
set_option maxRecDepth 100000 in
set_option maxHeartbeats 4000000 in
theorem c_X_begin (l : Launch) (dC : Nat → ClassId) (dI : Nat → Nat → Nat) (cI : ClassId) (a_p0 : Nat) (A_p0 : Nat → Nat) (A_p0_picture : Nat → Nat) (I_p0_picture : Nat → Int32) (f_p0_picture_samples : Nat → Int32) (x1 : Int32) (x2 : Int32) (x3 : Int32) {post : Int32 → (Nat → Int32) → (Nat → Int32) → Prop} (hw : wp_X_begin post I_p0_picture f_p0_picture_samples x1 x2 x3) : gm_i l y_X_begin ws_X_begin ({ frames := 2, cells := 0, slots := 0, locals := 46 } : Room) (dC, dI) vwCl [(cI, .int)] [.ref a_p0, .int x1, .int x2, .int x3] [oX a_p0 A_p0, oPi (A_p0 2) A_p0_picture I_p0_picture, gz cI (A_p0_picture 0) 256 f_p0_picture_samples] (fun (u : (Nat → Int32) × (Nat → Int32)) => [oX a_p0 A_p0, oPi (A_p0 2) A_p0_picture u.1, gz cI (A_p0_picture 0) 256 u.2]) (fun (r : Int32) (u : (Nat → Int32) × (Nat → Int32)) => post r u.1 u.2) := by
  refine gm_iof (cc := b_X_begin) (maxL := 4) (ty := .boolean) (by decide) rfl (Nat.le_of_ble_eq_true rfl) ?_
  intro p e s m args below meth c A Q hx hb hml hown hg hK hN hA hret
  have hown : s.vm.findClass R_X = some m.cls := hown
  intro ls hl hP hD hS
  have hl : lv_has ls 4 [(0, .ref a_p0), (1, .int x1), (2, .int x2), (3, .int x3)] := hl
  unfold wp_X_begin at hw
  refine lv_iload_n hx hb d_X_begin_0 rfl (lv_at hl 1 rfl) ?_
  refine lv_i2l hx hb d_X_begin_1 rfl ?_
  refine gc_i (wn := fun (_ : Unit) => [oX a_p0 A_p0, oPi (A_p0 2) A_p0_picture I_p0_picture, gz cI (A_p0_picture 0) 256 f_p0_picture_samples]) (wr := [oX a_p0 A_p0, oPi (A_p0 2) A_p0_picture I_p0_picture, gz cI (A_p0_picture 0) 256 f_p0_picture_samples]) (gr_S (As := [.long x1.toInt64]) (rest := []) ⟨hx, hb, hml, hown, hg⟩ (c_X_isSide l dC dI cI x1.toInt64 hw _) (va_cwS 1 hg (gg_S t_374 t_375 t_60 t_376) rfl rfl rfl (by decide +kernel) ⟨Nat.le_of_ble_eq_true rfl, Nat.le_of_ble_eq_true rfl⟩) hK hN hP hD [] (by decide) rfl rfl hl.1 rfl (Nat.le_of_ble_eq_true rfl) d_X_begin_2 ⟨Nat.le_of_ble_eq_true rfl, Nat.le_of_ble_eq_true rfl⟩) rfl rfl hP hD hS hA [] [0, 1, 2] [0, 1, 2] rfl rfl (by decide) (by decide) (by decide) (fun _ => rfl) ?_
  intro r2 _ H locs hw hP hD hS
  try dsimp only at hw
  have hP : va_P (dC, dI) vwCl [oX a_p0 A_p0, oPi (A_p0 2) A_p0_picture I_p0_picture, gz cI (A_p0_picture 0) 256 f_p0_picture_samples] H := hP
  have hD : va_D A [oX a_p0 A_p0, oPi (A_p0 2) A_p0_picture I_p0_picture, gz cI (A_p0_picture 0) 256 f_p0_picture_samples] := hD
  refine lv_if_eq hx hb d_X_begin_5 rfl (fun hc => ?_) (fun hc => ?_)
  · have hw := hw.1 hc
    refine lv_iconst (v := 0) hx hb d_X_begin_24 (by decide) ?_
    exact hret _ _ _ _ _ (I_p0_picture, f_p0_picture_samples) d_X_begin_25 rfl hP hD hS hw
  · have hw := hw.2 hc
    refine lv_iload_n hx hb d_X_begin_8 rfl (lv_at hl 2 rfl) ?_
    refine lv_i2l hx hb d_X_begin_9 rfl ?_
    refine gc_i (wn := fun (_ : Unit) => [oX a_p0 A_p0, oPi (A_p0 2) A_p0_picture I_p0_picture, gz cI (A_p0_picture 0) 256 f_p0_picture_samples]) (wr := [oX a_p0 A_p0, oPi (A_p0 2) A_p0_picture I_p0_picture, gz cI (A_p0_picture 0) 256 f_p0_picture_samples]) (gr_S (As := [.long x2.toInt64]) (rest := []) ⟨hx, hb, hml, hown, hg⟩ (c_X_isSide l dC dI cI x2.toInt64 hw _) (va_cwS 1 hg (gg_S t_374 t_375 t_60 t_376) rfl rfl rfl (by decide +kernel) ⟨Nat.le_of_ble_eq_true rfl, Nat.le_of_ble_eq_true rfl⟩) hK hN hP hD [] (by decide) rfl rfl hl.1 rfl (Nat.le_of_ble_eq_true rfl) d_X_begin_10 ⟨Nat.le_of_ble_eq_true rfl, Nat.le_of_ble_eq_true rfl⟩) rfl rfl hP hD hS hA [] [0, 1, 2] [0, 1, 2] rfl rfl (by decide) (by decide) (by decide) (fun _ => rfl) ?_
    intro r10 _ H locs hw hP hD hS
    try dsimp only at hw
    have hP : va_P (dC, dI) vwCl [oX a_p0 A_p0, oPi (A_p0 2) A_p0_picture I_p0_picture, gz cI (A_p0_picture 0) 256 f_p0_picture_samples] H := hP
    have hD : va_D A [oX a_p0 A_p0, oPi (A_p0 2) A_p0_picture I_p0_picture, gz cI (A_p0_picture 0) 256 f_p0_picture_samples] := hD
    refine lv_if_eq hx hb d_X_begin_13 rfl (fun hc => ?_) (fun hc => ?_)
    · have hw := hw.1 hc
      refine lv_iconst (v := 0) hx hb d_X_begin_24 (by decide) ?_
      exact hret _ _ _ _ _ (I_p0_picture, f_p0_picture_samples) d_X_begin_25 rfl hP hD hS hw
    · have hw := hw.2 hc
      refine lv_iload_n hx hb d_X_begin_16 rfl (lv_at hl 3 rfl) ?_
      refine lv_i2l hx hb d_X_begin_17 rfl ?_
      refine gc_i (wn := fun (_ : Unit) => [oX a_p0 A_p0, oPi (A_p0 2) A_p0_picture I_p0_picture, gz cI (A_p0_picture 0) 256 f_p0_picture_samples]) (wr := [oX a_p0 A_p0, oPi (A_p0 2) A_p0_picture I_p0_picture, gz cI (A_p0_picture 0) 256 f_p0_picture_samples]) (gr_S (As := [.long x3.toInt64]) (rest := []) ⟨hx, hb, hml, hown, hg⟩ (c_X_isDepth l dC dI cI x3.toInt64 hw _) (va_cwS 1 hg (gg_S t_378 t_379 t_60 t_380) rfl rfl rfl (by decide +kernel) ⟨Nat.le_of_ble_eq_true rfl, Nat.le_of_ble_eq_true rfl⟩) hK hN hP hD [] (by decide) rfl rfl hl.1 rfl (Nat.le_of_ble_eq_true rfl) d_X_begin_18 ⟨Nat.le_of_ble_eq_true rfl, Nat.le_of_ble_eq_true rfl⟩) rfl rfl hP hD hS hA [] [0, 1, 2] [0, 1, 2] rfl rfl (by decide) (by decide) (by decide) (fun _ => rfl) ?_
      intro r18 _ H locs hw hP hD hS
      try dsimp only at hw
      have hP : va_P (dC, dI) vwCl [oX a_p0 A_p0, oPi (A_p0 2) A_p0_picture I_p0_picture, gz cI (A_p0_picture 0) 256 f_p0_picture_samples] H := hP
      have hD : va_D A [oX a_p0 A_p0, oPi (A_p0 2) A_p0_picture I_p0_picture, gz cI (A_p0_picture 0) 256 f_p0_picture_samples] := hD
      refine lv_if_ne hx hb d_X_begin_21 rfl (fun hc => ?_) (fun hc => ?_)
      · have hw := hw.2 hc
        refine lv_aload_n hx hb d_X_begin_26 rfl (lv_at hl 0 rfl) ?_
        refine va_get (D := (dC, dI)) (ci := 9) (v := .ref (A_p0 2)) (C := R_X) (T := T_X) (N := 14) hx hb hg in_X hown hK hP 0 rfl rfl 2 (by decide) (hg _ t_309) (fun _ h9 => h9) rfl d_X_begin_27 ?_
        refine lv_iload_n hx hb d_X_begin_30 rfl (lv_at hl 1 rfl) ?_
        refine lv_iload_n hx hb d_X_begin_31 rfl (lv_at hl 2 rfl) ?_
        refine lv_iload_n hx hb d_X_begin_32 rfl (lv_at hl 3 rfl) ?_
        refine gc_v (wn := fun u => [oX a_p0 A_p0, oPi (A_p0 2) A_p0_picture u.1, gz cI (A_p0_picture 0) 256 u.2]) (wr := [oX a_p0 A_p0]) (gr_V (As := [.int x1, .int x2, .int x3]) (rest := []) ⟨hx, hb, hml, hown, hg⟩ (c_Pi_become l dC dI cI (A_p0 2) A_p0_picture I_p0_picture f_p0_picture_samples x1 x2 x3 hw _) (cwV 3 hg (gg_V t_300 t_301 t_302 t_63 t_303) rfl rfl rfl (by decide +kernel) ⟨Nat.le_of_ble_eq_true rfl, Nat.le_of_ble_eq_true rfl⟩) hK hN hP hD [1, 2] (by decide) rfl 1 6 rfl rfl rfl rfl hl.1 rfl (Nat.le_of_ble_eq_true rfl) d_X_begin_33 ⟨Nat.le_of_ble_eq_true rfl, Nat.le_of_ble_eq_true rfl⟩) rfl rfl hP hD hS hA [1, 2] [0] [0, 1, 2] rfl rfl (by decide) (by decide) (by decide) (fun _ => rfl) ?_
        intro u9 H locs hw hP hD hS
        obtain ⟨I_p0_picture_33, f_p0_picture_samples_33⟩ := u9
        try dsimp only at hw
        have hP : va_P (dC, dI) vwCl [oX a_p0 A_p0, oPi (A_p0 2) A_p0_picture I_p0_picture_33, gz cI (A_p0_picture 0) 256 f_p0_picture_samples_33] H := hP
        have hD : va_D A [oX a_p0 A_p0, oPi (A_p0 2) A_p0_picture I_p0_picture_33, gz cI (A_p0_picture 0) 256 f_p0_picture_samples_33] := hD
        refine lv_iconst (v := 1) hx hb d_X_begin_36 (by decide) ?_
        exact hret _ _ _ _ _ (I_p0_picture_33, f_p0_picture_samples_33) d_X_begin_37 rfl hP hD hS hw
      · have hw := hw.1 hc
        refine lv_iconst (v := 0) hx hb d_X_begin_24 (by decide) ?_
        exact hret _ _ _ _ _ (I_p0_picture, f_p0_picture_samples) d_X_begin_25 rfl hP hD hS hw
theorem d_St_holds_0 : decode b_St_holds 0 = .ok (.lload_n 1, 1) := by decide +kernel
theorem d_St_holds_1 : decode b_St_holds 1 = .ok (.lconst 0, 1) := by decide +kernel
theorem d_St_holds_2 : decode b_St_holds 2 = .ok (.lcmp, 1) := by decide +kernel
theorem d_St_holds_3 : decode b_St_holds 3 = .ok (.ifCond .lt 25, 3) := by decide +kernel
theorem d_St_holds_6 : decode b_St_holds 6 = .ok (.lload_n 3, 1) := by decide +kernel
theorem d_St_holds_7 : decode b_St_holds 7 = .ok (.lconst 0, 1) := by decide +kernel
theorem d_St_holds_8 : decode b_St_holds 8 = .ok (.lcmp, 1) := by decide +kernel
theorem d_St_holds_9 : decode b_St_holds 9 = .ok (.ifCond .lt 19, 3) := by decide +kernel
theorem d_St_holds_12 : decode b_St_holds 12 = .ok (.lload_n 1, 1) := by decide +kernel
theorem d_St_holds_13 : decode b_St_holds 13 = .ok (.lload_n 3, 1) := by decide +kernel
theorem d_St_holds_14 : decode b_St_holds 14 = .ok (.ladd, 1) := by decide +kernel
theorem d_St_holds_15 : decode b_St_holds 15 = .ok (.aload_n 0, 1) := by decide +kernel
theorem d_St_holds_16 : decode b_St_holds 16 = .ok (.getfield 29, 3) := by decide +kernel
theorem d_St_holds_19 : decode b_St_holds 19 = .ok (.i2l, 1) := by decide +kernel
theorem d_St_holds_20 : decode b_St_holds 20 = .ok (.lcmp, 1) := by decide +kernel
theorem d_St_holds_21 : decode b_St_holds 21 = .ok (.ifCond .gt 7, 3) := by decide +kernel
theorem d_St_holds_24 : decode b_St_holds 24 = .ok (.iconst 1, 1) := by decide +kernel
theorem d_St_holds_25 : decode b_St_holds 25 = .ok (.goto 4, 3) := by decide +kernel
theorem d_St_holds_28 : decode b_St_holds 28 = .ok (.iconst 0, 1) := by decide +kernel
theorem d_St_holds_29 : decode b_St_holds 29 = .ok (.ireturn, 1) := by decide +kernel
def wp_St_holds_b28 (post : Int32 → Prop) (I_p0 : Nat → Int32) : Prop :=
  post 0
def wp_St_holds (post : Int32 → Prop) (I_p0 : Nat → Int32) (x1 : Int64) (x3 : Int64) : Prop :=
  ((x1 < 0 →
    wp_St_holds_b28 post I_p0) ∧
   (¬ x1 < 0 →
    ((x3 < 0 →
      wp_St_holds_b28 post I_p0) ∧
     (¬ x3 < 0 →
      (((I_p0 1).toInt64 < (x1 + x3) →
        wp_St_holds_b28 post I_p0) ∧
       (¬ (I_p0 1).toInt64 < (x1 + x3) →
        post 1))))))
set_option maxRecDepth 100000 in
set_option maxHeartbeats 4000000 in
theorem c_St_holds (l : Launch) (dC : Nat → ClassId) (dI : Nat → Nat → Nat) (cI : ClassId) (a_p0 : Nat) (A_p0 : Nat → Nat) (I_p0 : Nat → Int32) (x1 : Int64) (x3 : Int64) {post : Int32 → Prop} (hw : wp_St_holds post I_p0 x1 x3) : gm_i l y_St_holds ws_St_holds ({ frames := 0, cells := 0, slots := 0, locals := 0 } : Room) (dC, dI) vwCl [(cI, .int)] [.ref a_p0, .long x1, .long x3] [oSt a_p0 A_p0 I_p0] (fun (_ : Unit) => [oSt a_p0 A_p0 I_p0]) (fun (r : Int32) (_ : Unit) => post r) := by
  refine gm_iof (cc := b_St_holds) (maxL := 5) (ty := .boolean) (by decide) rfl (Nat.le_of_ble_eq_true rfl) ?_
  intro p e s m args below meth c A Q hx hb hml hown hg hK hN hA hret
  have hown : s.vm.findClass R_St = some m.cls := hown
  have b28 : ∀ (H : Heap) (locs : List Loc) (ls : Array Slot), va_P (dC, dI) vwCl [oSt a_p0 A_p0 I_p0] H → va_D A [oSt a_p0 A_p0 I_p0] → va_S A s.heap H locs → lv_has ls 5 [] → wp_St_holds_b28 post I_p0 → W p l e ({ frames := 0, cells := 0, slots := 0, locals := 0 } : Room) s m args below meth c H locs 0 0 Q (F0 m 28 ls []) := by
    intro H locs ls hP hD hS hl hw
    unfold wp_St_holds_b28 at hw
    refine lv_iconst (v := 0) hx hb d_St_holds_28 (by decide) ?_
    exact hret _ _ _ _ _ () d_St_holds_29 rfl hP hD hS hw
  intro ls hl hP hD hS
  have hl : lv_has ls 5 [(0, .ref a_p0), (1, .long x1), (3, .long x3)] := hl
  unfold wp_St_holds at hw
  refine lv_lload_n hx hb d_St_holds_0 rfl (lv_at hl 1 rfl) ?_
  refine lv_lconst (v := 0) hx hb d_St_holds_1 (by decide) ?_
  refine W.lcmp hx hb d_St_holds_2 ?_
  refine lv_if_lt hx hb d_St_holds_3 rfl (fun hc => ?_) (fun hc => ?_)
  · have hw := hw.1 ((lg_cmp_lt _ _).mp hc)
    exact b28 _ _ _ hP hD hS (lv_sub hl [] rfl) hw
  · have hw := hw.2 (fun h9 => hc ((lg_cmp_lt _ _).mpr h9))
    refine lv_lload_n hx hb d_St_holds_6 rfl (lv_at hl 2 rfl) ?_
    refine lv_lconst (v := 0) hx hb d_St_holds_7 (by decide) ?_
    refine W.lcmp hx hb d_St_holds_8 ?_
    refine lv_if_lt hx hb d_St_holds_9 rfl (fun hc => ?_) (fun hc => ?_)
    · have hw := hw.1 ((lg_cmp_lt _ _).mp hc)
      exact b28 _ _ _ hP hD hS (lv_sub hl [] rfl) hw
    · have hw := hw.2 (fun h9 => hc ((lg_cmp_lt _ _).mpr h9))
      refine lv_lload_n hx hb d_St_holds_12 rfl (lv_at hl 1 rfl) ?_
      refine lv_lload_n hx hb d_St_holds_13 rfl (lv_at hl 2 rfl) ?_
      refine lv_ladd hx hb d_St_holds_14 ?_
      refine lv_aload_n hx hb d_St_holds_15 rfl (lv_at hl 0 rfl) ?_
      refine va_get (D := (dC, dI)) (ci := 7) (v := .int (I_p0 1)) (C := R_St) (T := T_St) (N := 3) hx hb hg in_St hown hK hP 0 rfl rfl 1 (by decide) (hg _ t_94) (fun _ h9 => h9) rfl d_St_holds_16 ?_
      refine lv_i2l hx hb d_St_holds_19 rfl ?_
      refine W.lcmp hx hb d_St_holds_20 ?_
      refine lv_if_gt hx hb d_St_holds_21 rfl (fun hc => ?_) (fun hc => ?_)
      · have hw := hw.1 ((lg_cmp_gt _ _).mp hc)
        exact b28 _ _ _ hP hD hS (lv_sub hl [] rfl) hw
      · have hw := hw.2 (fun h9 => hc ((lg_cmp_gt _ _).mpr h9))
        refine lv_iconst (v := 1) hx hb d_St_holds_24 (by decide) ?_
        refine lv_goto hx hb d_St_holds_25 rfl ?_
        exact hret _ _ _ _ _ () d_St_holds_29 rfl hP hD hS hw
