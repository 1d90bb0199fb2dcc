theorem d_Nd_copyRow_0 : decode b_Nd_copyRow 0 = .ok (.iload_n 2, 1) := by decide +kernel
theorem d_Nd_copyRow_1 : decode b_Nd_copyRow 1 = .ok (.bipush 16, 2) := by decide +kernel
theorem d_Nd_copyRow_3 : decode b_Nd_copyRow 3 = .ok (.if_icmp .ge 10, 3) := by decide +kernel
theorem d_Nd_copyRow_6 : decode b_Nd_copyRow 6 = .ok (.aload_n 1, 1) := by decide +kernel
theorem d_Nd_copyRow_7 : decode b_Nd_copyRow 7 = .ok (.iload_n 3, 1) := by decide +kernel
theorem d_Nd_copyRow_8 : decode b_Nd_copyRow 8 = .ok (.iload_n 2, 1) := by decide +kernel
theorem d_Nd_copyRow_9 : decode b_Nd_copyRow 9 = .ok (.invokevirtual 46, 3) := by decide +kernel
theorem d_Nd_copyRow_12 : decode b_Nd_copyRow 12 = .ok (.return_, 1) := by decide +kernel
theorem d_Nd_copyRow_13 : decode b_Nd_copyRow 13 = .ok (.aload_n 0, 1) := by decide +kernel
theorem d_Nd_copyRow_14 : decode b_Nd_copyRow 14 = .ok (.getfield 9, 3) := by decide +kernel
theorem d_Nd_copyRow_17 : decode b_Nd_copyRow 17 = .ok (.iload_n 2, 1) := by decide +kernel
theorem d_Nd_copyRow_18 : decode b_Nd_copyRow 18 = .ok (.bipush 17, 2) := by decide +kernel
theorem d_Nd_copyRow_20 : decode b_Nd_copyRow 20 = .ok (.isub, 1) := by decide +kernel
theorem d_Nd_copyRow_21 : decode b_Nd_copyRow 21 = .ok (.iaload, 1) := by decide +kernel
theorem d_Nd_copyRow_22 : decode b_Nd_copyRow 22 = .ok (.istore 5, 2) := by decide +kernel
theorem d_Nd_copyRow_24 : decode b_Nd_copyRow 24 = .ok (.iconst 0, 1) := by decide +kernel
theorem d_Nd_copyRow_25 : decode b_Nd_copyRow 25 = .ok (.istore 6, 2) := by decide +kernel
theorem d_Nd_copyRow_27 : decode b_Nd_copyRow 27 = .ok (.iload 6, 2) := by decide +kernel
theorem d_Nd_copyRow_29 : decode b_Nd_copyRow 29 = .ok (.iload 4, 2) := by decide +kernel
theorem d_Nd_copyRow_31 : decode b_Nd_copyRow 31 = .ok (.if_icmp .ge 26, 3) := by decide +kernel
theorem d_Nd_copyRow_34 : decode b_Nd_copyRow 34 = .ok (.aload_n 1, 1) := by decide +kernel
theorem d_Nd_copyRow_35 : decode b_Nd_copyRow 35 = .ok (.iload_n 3, 1) := by decide +kernel
theorem d_Nd_copyRow_36 : decode b_Nd_copyRow 36 = .ok (.iload 6, 2) := by decide +kernel
theorem d_Nd_copyRow_38 : decode b_Nd_copyRow 38 = .ok (.iadd, 1) := by decide +kernel
theorem d_Nd_copyRow_39 : decode b_Nd_copyRow 39 = .ok (.aload_n 1, 1) := by decide +kernel
theorem d_Nd_copyRow_40 : decode b_Nd_copyRow 40 = .ok (.iload 5, 2) := by decide +kernel
theorem d_Nd_copyRow_42 : decode b_Nd_copyRow 42 = .ok (.iload 6, 2) := by decide +kernel
theorem d_Nd_copyRow_44 : decode b_Nd_copyRow 44 = .ok (.iadd, 1) := by decide +kernel
theorem d_Nd_copyRow_45 : decode b_Nd_copyRow 45 = .ok (.invokevirtual 51, 3) := by decide +kernel
theorem d_Nd_copyRow_48 : decode b_Nd_copyRow 48 = .ok (.invokevirtual 46, 3) := by decide +kernel
theorem d_Nd_copyRow_51 : decode b_Nd_copyRow 51 = .ok (.iinc 6 1, 3) := by decide +kernel
theorem d_Nd_copyRow_54 : decode b_Nd_copyRow 54 = .ok (.goto (-27), 3) := by decide +kernel
theorem d_Nd_copyRow_57 : decode b_Nd_copyRow 57 = .ok (.return_, 1) := by decide +kernel
def wp_Nd_copyRow_l27 (post : (Nat → Int32) → Prop) (I_p0 : Nat → Int32) (f_p0_starts : Nat → Int32) : Nat → (Nat → Int32) → Int32 → Int32 → Int32 → Int32 → Prop
  | 0, _, _, _, _, _ => False
  | n + 1, f_p1_bytes, x3, x4, x5, x6 =>
    ((x4 ≤ x6 →
      post f_p1_bytes) ∧
     (¬ x4 ≤ x6 →
      wp_Da_nibble (fun (r45 : Int32) =>
        wp_Da_putNibble (fun (f_p1_bytes_48 : Nat → Int32) =>
          wp_Nd_copyRow_l27 post I_p0 f_p0_starts n f_p1_bytes_48 x3 x4 x5 (x6 + 1)) f_p1_bytes (x3 + x6) r45) f_p1_bytes (x5 + x6)))
def wp_Nd_copyRow (post : (Nat → Int32) → Prop) (I_p0 : Nat → Int32) (f_p0_starts : Nat → Int32) (f_p1_bytes : Nat → Int32) (x2 : Int32) (x3 : Int32) (x4 : Int32) : Prop :=
  ((16 ≤ x2 →
    vp_in (x2 - 17) 110 ∧
    (∃ n1 : Nat, wp_Nd_copyRow_l27 post I_p0 f_p0_starts n1 f_p1_bytes x3 x4 (f_p0_starts (x2 - 17).toNatClampNeg) 0)) ∧
   (¬ 16 ≤ x2 →
    wp_Da_putNibble (fun (f_p1_bytes_9 : Nat → Int32) =>
      post f_p1_bytes_9) f_p1_bytes x3 x2))
set_option maxRecDepth 100000 in
set_option maxHeartbeats 4000000 in
theorem c_Nd_copyRow (l : Launch) (dC : Nat → ClassId) (dI : Nat → Nat → Nat) (cI : ClassId) (a_p0 : Nat) (a_p1 : Nat) (A_p0 : Nat → Nat) (A_p1 : Nat → Nat) (I_p0 : Nat → Int32) (f_p0_starts : Nat → Int32) (f_p1_bytes : Nat → Int32) (x2 : Int32) (x3 : Int32) (x4 : Int32) {post : (Nat → Int32) → Prop} (hw : wp_Nd_copyRow post I_p0 f_p0_starts f_p1_bytes x2 x3 x4) : gm_v l y_Nd_copyRow ws_Nd_copyRow ({ frames := 1, cells := 0, slots := 0, locals := 23 } : Room) (dC, dI) vwCl [(cI, .int)] [.ref a_p0, .ref a_p1, .int x2, .int x3, .int x4] [oNd a_p0 A_p0 I_p0, gz cI (A_p0 0) 110 f_p0_starts, oDa a_p1 A_p1, gz cI (A_p1 0) 256 f_p1_bytes] (fun (u : (Nat → Int32)) => [oNd a_p0 A_p0 I_p0, gz cI (A_p0 0) 110 f_p0_starts, oDa a_p1 A_p1, gz cI (A_p1 0) 256 u]) (fun (u : (Nat → Int32)) => post  u) := by
  refine gm_vof (cc := b_Nd_copyRow) (maxL := 7) (by decide) rfl (Nat.le_of_ble_eq_true rfl) ?_
  intro p e s m args below meth c A Q hx hb hml hown hg hK hN hA hnm hret
  have hown : s.vm.findClass R_Nd = some m.cls := hown
  have l27 : ∀ n : Nat, ∀ (H : Heap) (locs : List Loc) (ls : Array Slot) (f_p1_bytes : Nat → Int32) (x3 : Int32) (x4 : Int32) (x5 : Int32) (x6 : Int32), va_P (dC, dI) vwCl [oNd a_p0 A_p0 I_p0, gz cI (A_p0 0) 110 f_p0_starts, oDa a_p1 A_p1, gz cI (A_p1 0) 256 f_p1_bytes] H → va_D A [oNd a_p0 A_p0 I_p0, gz cI (A_p0 0) 110 f_p0_starts, oDa a_p1 A_p1, gz cI (A_p1 0) 256 f_p1_bytes] → va_S A s.heap H locs → lv_has ls 7 [(1, .ref a_p1), (3, .int x3), (4, .int x4), (5, .int x5), (6, .int x6)] → wp_Nd_copyRow_l27 post I_p0 f_p0_starts n f_p1_bytes x3 x4 x5 x6 → W p l e ({ frames := 1, cells := 0, slots := 0, locals := 23 } : Room) s m args below meth c H locs 0 0 Q (F0 m 27 ls []) := by
    intro n
    induction n with
    | zero => intro H locs ls f_p1_bytes x3 x4 x5 x6 hP hD hS hl hw; exact hw.elim
    | succ n ih =>
      intro H locs ls f_p1_bytes x3 x4 x5 x6 hP hD hS hl hw
      unfold wp_Nd_copyRow_l27 at hw
      refine lv_iload hx hb d_Nd_copyRow_27 (lv_at hl 4 rfl) ?_
      refine lv_iload hx hb d_Nd_copyRow_29 (lv_at hl 2 rfl) ?_
      refine lv_icmp_ge hx hb d_Nd_copyRow_31 rfl (fun hc => ?_) (fun hc => ?_)
      · have hw := hw.1 hc
        exact hret _ _ _ _ f_p1_bytes d_Nd_copyRow_57 hP hD hS hw
      · have hw := hw.2 hc
        refine lv_aload_n hx hb d_Nd_copyRow_34 rfl (lv_at hl 0 rfl) ?_
        refine lv_iload_n hx hb d_Nd_copyRow_35 rfl (lv_at hl 1 rfl) ?_
        refine lv_iload hx hb d_Nd_copyRow_36 (lv_at hl 4 rfl) ?_
        refine lv_iadd hx hb d_Nd_copyRow_38 ?_
        refine lv_aload_n hx hb d_Nd_copyRow_39 rfl (lv_at hl 0 rfl) ?_
        refine lv_iload hx hb d_Nd_copyRow_40 (lv_at hl 3 rfl) ?_
        refine lv_iload hx hb d_Nd_copyRow_42 (lv_at hl 4 rfl) ?_
        refine lv_iadd hx hb d_Nd_copyRow_44 ?_
        refine gc_i (wn := fun (_ : Unit) => [oNd a_p0 A_p0 I_p0, gz cI (A_p0 0) 110 f_p0_starts, oDa a_p1 A_p1, gz cI (A_p1 0) 256 f_p1_bytes]) (wr := [oNd a_p0 A_p0 I_p0, gz cI (A_p0 0) 110 f_p0_starts]) (gr_V (As := [.int (x5 + x6)]) (rest := [.int (x3 + x6), .ref a_p1]) ⟨hx, hb, hml, hown, hg⟩ (c_Da_nibble l dC dI cI a_p1 A_p1 f_p1_bytes (x5 + x6) hw _) (cwV 1 hg (gg_V t_726 t_573 t_574 t_66 t_575) rfl rfl rfl (by decide +kernel) ⟨Nat.le_of_ble_eq_true rfl, Nat.le_of_ble_eq_true rfl⟩) hK hN hP hD [2, 3] (by decide) rfl 2 0 rfl rfl rfl rfl hl.1 rfl (Nat.le_of_ble_eq_true rfl) d_Nd_copyRow_45 ⟨Nat.le_of_ble_eq_true rfl, Nat.le_of_ble_eq_true rfl⟩) rfl rfl hP hD hS hA [2, 3] [0, 1] [0, 1, 2, 3] rfl rfl (by decide) (by decide) (by decide) (fun _ => rfl) ?_
        intro r45 _ H locs hw hP hD hS
        try dsimp only at hw
        have hP : va_P (dC, dI) vwCl [oNd a_p0 A_p0 I_p0, gz cI (A_p0 0) 110 f_p0_starts, oDa a_p1 A_p1, gz cI (A_p1 0) 256 f_p1_bytes] H := hP
        have hD : va_D A [oNd a_p0 A_p0 I_p0, gz cI (A_p0 0) 110 f_p0_starts, oDa a_p1 A_p1, gz cI (A_p1 0) 256 f_p1_bytes] := hD
        refine gc_v (wn := fun u => [oNd a_p0 A_p0 I_p0, gz cI (A_p0 0) 110 f_p0_starts, oDa a_p1 A_p1, gz cI (A_p1 0) 256 u]) (wr := [oNd a_p0 A_p0 I_p0, gz cI (A_p0 0) 110 f_p0_starts]) (gr_V (As := [.int (x3 + x6), .int r45]) (rest := []) ⟨hx, hb, hml, hown, hg⟩ (c_Da_putNibble l dC dI cI a_p1 A_p1 f_p1_bytes (x3 + x6) r45 hw _) (cwV 2 hg (gg_V t_722 t_723 t_724 t_66 t_725) rfl rfl rfl (by decide +kernel) ⟨Nat.le_of_ble_eq_true rfl, Nat.le_of_ble_eq_true rfl⟩) hK hN hP hD [2, 3] (by decide) rfl 2 0 rfl rfl rfl rfl hl.1 rfl (Nat.le_of_ble_eq_true rfl) d_Nd_copyRow_48 ⟨Nat.le_of_ble_eq_true rfl, Nat.le_of_ble_eq_true rfl⟩) rfl rfl hP hD hS hA [2, 3] [0, 1] [0, 1, 2, 3] rfl rfl (by decide) (by decide) (by decide) (fun _ => rfl) ?_
        intro f_p1_bytes_48 H locs hw hP hD hS
        try dsimp only at hw
        have hP : va_P (dC, dI) vwCl [oNd a_p0 A_p0 I_p0, gz cI (A_p0 0) 110 f_p0_starts, oDa a_p1 A_p1, gz cI (A_p1 0) 256 f_p1_bytes_48] H := hP
        have hD : va_D A [oNd a_p0 A_p0 I_p0, gz cI (A_p0 0) 110 f_p0_starts, oDa a_p1 A_p1, gz cI (A_p1 0) 256 f_p1_bytes_48] := hD
        refine lv_iinc (k := 4) (v := (x6 + 1)) (lv' := [(6, .int (x6 + 1)), (1, .ref a_p1), (3, .int x3), (4, .int x4), (5, .int x5)]) hx hb d_Nd_copyRow_51 hl rfl (congrArg (fun z => x6 + z) (by decide : Int32.ofInt 1 = 1)) (by decide) rfl (fun ls hl => ?_)
        refine lv_goto hx hb d_Nd_copyRow_54 rfl ?_
        exact ih _ _ _ f_p1_bytes_48 x3 x4 x5 (x6 + 1) hP hD hS (lv_sub hl [1, 2, 3, 4, 0] rfl) hw
  intro ls hl hP hD hS
  have hl : lv_has ls 7 [(0, .ref a_p0), (1, .ref a_p1), (2, .int x2), (3, .int x3), (4, .int x4)] := hl
  unfold wp_Nd_copyRow at hw
  refine lv_iload_n hx hb d_Nd_copyRow_0 rfl (lv_at hl 2 rfl) ?_
  refine lv_bipush (v := 16) hx hb d_Nd_copyRow_1 (by decide) ?_
  refine lv_icmp_ge hx hb d_Nd_copyRow_3 rfl (fun hc => ?_) (fun hc => ?_)
  · have hw := hw.1 hc
    refine lv_aload_n hx hb d_Nd_copyRow_13 rfl (lv_at hl 0 rfl) ?_
    refine va_get (D := (dC, dI)) (ci := 4) (v := .ref (A_p0 0)) (C := R_Nd) (T := T_Nd) (N := 3) hx hb hg in_Nd hown hK hP 0 rfl rfl 0 (by decide) (hg _ t_249) (fun _ h9 => h9) rfl d_Nd_copyRow_14 ?_
    refine lv_iload_n hx hb d_Nd_copyRow_17 rfl (lv_at hl 2 rfl) ?_
    refine lv_bipush (v := 17) hx hb d_Nd_copyRow_18 (by decide) ?_
    refine lv_isub hx hb d_Nd_copyRow_20 ?_
    obtain ⟨hin, hw⟩ := hw
    refine va_iald hx hb hK hP 1 0 rfl rfl hin d_Nd_copyRow_21 ?_
    refine lv_istore (lv' := [(5, .int (f_p0_starts (x2 - 17).toNatClampNeg)), (0, .ref a_p0), (1, .ref a_p1), (2, .int x2), (3, .int x3), (4, .int x4)]) hx hb d_Nd_copyRow_22 hl (by decide) rfl (fun ls hl => ?_)
    refine lv_iconst (v := 0) hx hb d_Nd_copyRow_24 (by decide) ?_
    refine lv_istore (lv' := [(6, .int 0), (5, .int (f_p0_starts (x2 - 17).toNatClampNeg)), (0, .ref a_p0), (1, .ref a_p1), (2, .int x2), (3, .int x3), (4, .int x4)]) hx hb d_Nd_copyRow_25 hl (by decide) rfl (fun ls hl => ?_)
    obtain ⟨n1, hw⟩ := hw
    exact l27 n1 _ _ _ f_p1_bytes x3 x4 (f_p0_starts (x2 - 17).toNatClampNeg) 0 hP hD hS (lv_sub hl [3, 5, 6, 1, 0] rfl) hw
  · have hw := hw.2 hc
    refine lv_aload_n hx hb d_Nd_copyRow_6 rfl (lv_at hl 1 rfl) ?_
    refine lv_iload_n hx hb d_Nd_copyRow_7 rfl (lv_at hl 3 rfl) ?_
    refine lv_iload_n hx hb d_Nd_copyRow_8 rfl (lv_at hl 2 rfl) ?_
    refine gc_v (wn := fun u => [oNd a_p0 A_p0 I_p0, gz cI (A_p0 0) 110 f_p0_starts, oDa a_p1 A_p1, gz cI (A_p1 0) 256 u]) (wr := [oNd a_p0 A_p0 I_p0, gz cI (A_p0 0) 110 f_p0_starts]) (gr_V (As := [.int x3, .int x2]) (rest := []) ⟨hx, hb, hml, hown, hg⟩ (c_Da_putNibble l dC dI cI a_p1 A_p1 f_p1_bytes x3 x2 hw _) (cwV 2 hg (gg_V t_722 t_723 t_724 t_66 t_725) rfl rfl rfl (by decide +kernel) ⟨Nat.le_of_ble_eq_true rfl, Nat.le_of_ble_eq_true rfl⟩) hK hN hP hD [2, 3] (by decide) rfl 2 0 rfl rfl rfl rfl hl.1 rfl (Nat.le_of_ble_eq_true rfl) d_Nd_copyRow_9 ⟨Nat.le_of_ble_eq_true rfl, Nat.le_of_ble_eq_true rfl⟩) rfl rfl hP hD hS hA [2, 3] [0, 1] [0, 1, 2, 3] rfl rfl (by decide) (by decide) (by decide) (fun _ => rfl) ?_
    intro f_p1_bytes_9 H locs hw hP hD hS
    try dsimp only at hw
    have hP : va_P (dC, dI) vwCl [oNd a_p0 A_p0 I_p0, gz cI (A_p0 0) 110 f_p0_starts, oDa a_p1 A_p1, gz cI (A_p1 0) 256 f_p1_bytes_9] H := hP
    have hD : va_D A [oNd a_p0 A_p0 I_p0, gz cI (A_p0 0) 110 f_p0_starts, oDa a_p1 A_p1, gz cI (A_p1 0) 256 f_p1_bytes_9] := hD
    exact hret _ _ _ _ f_p1_bytes_9 d_Nd_copyRow_12 hP hD hS hw
theorem d_Nd_noteCode_0 : decode b_Nd_noteCode 0 = .ok (.aload_n 0, 1) := by decide +kernel
theorem d_Nd_noteCode_1 : decode b_Nd_noteCode 1 = .ok (.dup, 1) := by decide +kernel
theorem d_Nd_noteCode_2 : decode b_Nd_noteCode 2 = .ok (.getfield 22, 3) := by decide +kernel
theorem d_Nd_noteCode_5 : decode b_Nd_noteCode 5 = .ok (.iconst 1, 1) := by decide +kernel
theorem d_Nd_noteCode_6 : decode b_Nd_noteCode 6 = .ok (.iadd, 1) := by decide +kernel
theorem d_Nd_noteCode_7 : decode b_Nd_noteCode 7 = .ok (.putfield 22, 3) := by decide +kernel
theorem d_Nd_noteCode_10 : decode b_Nd_noteCode 10 = .ok (.aload_n 0, 1) := by decide +kernel
theorem d_Nd_noteCode_11 : decode b_Nd_noteCode 11 = .ok (.getfield 22, 3) := by decide +kernel
theorem d_Nd_noteCode_14 : decode b_Nd_noteCode 14 = .ok (.bipush 109, 2) := by decide +kernel
theorem d_Nd_noteCode_16 : decode b_Nd_noteCode 16 = .ok (.if_icmp .gt 23, 3) := by decide +kernel
theorem d_Nd_noteCode_19 : decode b_Nd_noteCode 19 = .ok (.aload_n 0, 1) := by decide +kernel
theorem d_Nd_noteCode_20 : decode b_Nd_noteCode 20 = .ok (.getfield 9, 3) := by decide +kernel
theorem d_Nd_noteCode_23 : decode b_Nd_noteCode 23 = .ok (.aload_n 0, 1) := by decide +kernel
theorem d_Nd_noteCode_24 : decode b_Nd_noteCode 24 = .ok (.getfield 22, 3) := by decide +kernel
theorem d_Nd_noteCode_27 : decode b_Nd_noteCode 27 = .ok (.iload_n 1, 1) := by decide +kernel
theorem d_Nd_noteCode_28 : decode b_Nd_noteCode 28 = .ok (.iastore, 1) := by decide +kernel
theorem d_Nd_noteCode_29 : decode b_Nd_noteCode 29 = .ok (.aload_n 0, 1) := by decide +kernel
theorem d_Nd_noteCode_30 : decode b_Nd_noteCode 30 = .ok (.getfield 15, 3) := by decide +kernel
theorem d_Nd_noteCode_33 : decode b_Nd_noteCode 33 = .ok (.aload_n 0, 1) := by decide +kernel
theorem d_Nd_noteCode_34 : decode b_Nd_noteCode 34 = .ok (.getfield 22, 3) := by decide +kernel
theorem d_Nd_noteCode_37 : decode b_Nd_noteCode 37 = .ok (.iload_n 2, 1) := by decide +kernel
theorem d_Nd_noteCode_38 : decode b_Nd_noteCode 38 = .ok (.iastore, 1) := by decide +kernel
theorem d_Nd_noteCode_39 : decode b_Nd_noteCode 39 = .ok (.return_, 1) := by decide +kernel
def wp_Nd_noteCode (post : (Nat → Int32) → (Nat → Int32) → (Nat → Int32) → Prop) (I_p0 : Nat → Int32) (f_p0_sizes : Nat → Int32) (f_p0_starts : Nat → Int32) (x1 : Int32) (x2 : Int32) : Prop :=
  ((109 < ((I_p0 2) + 1) →
    post (upd I_p0 2 ((I_p0 2) + 1)) f_p0_sizes f_p0_starts) ∧
   (¬ 109 < ((I_p0 2) + 1) →
    vp_in ((I_p0 2) + 1) 110 ∧
    vp_in ((I_p0 2) + 1) 110 ∧
    post (upd I_p0 2 ((I_p0 2) + 1)) (upd f_p0_sizes ((I_p0 2) + 1).toNatClampNeg x2) (upd f_p0_starts ((I_p0 2) + 1).toNatClampNeg x1)))
set_option maxRecDepth 100000 in
set_option maxHeartbeats 4000000 in
theorem c_Nd_noteCode (l : Launch) (dC : Nat → ClassId) (dI : Nat → Nat → Nat) (cI : ClassId) (a_p0 : Nat) (A_p0 : Nat → Nat) (I_p0 : Nat → Int32) (f_p0_sizes : Nat → Int32) (f_p0_starts : Nat → Int32) (x1 : Int32) (x2 : Int32) {post : (Nat → Int32) → (Nat → Int32) → (Nat → Int32) → Prop} (hw : wp_Nd_noteCode post I_p0 f_p0_sizes f_p0_starts x1 x2) : gm_v l y_Nd_noteCode ws_Nd_noteCode ({ frames := 0, cells := 0, slots := 0, locals := 0 } : Room) (dC, dI) vwCl [(cI, .int)] [.ref a_p0, .int x1, .int x2] [oNd a_p0 A_p0 I_p0, gz cI (A_p0 1) 110 f_p0_sizes, gz cI (A_p0 0) 110 f_p0_starts] (fun (u : (Nat → Int32) × (Nat → Int32) × (Nat → Int32)) => [oNd a_p0 A_p0 u.1, gz cI (A_p0 1) 110 u.2.1, gz cI (A_p0 0) 110 u.2.2]) (fun (u : (Nat → Int32) × (Nat → Int32) × (Nat → Int32)) => post  u.1 u.2.1 u.2.2) := by
  refine gm_vof (cc := b_Nd_noteCode) (maxL := 3) (by decide) rfl (Nat.le_of_ble_eq_true rfl) ?_
  intro p e s m args below meth c A Q hx hb hml hown hg hK hN hA hnm hret
  have hown : s.vm.findClass R_Nd = some m.cls := hown
  intro ls hl hP hD hS
  have hl : lv_has ls 3 [(0, .ref a_p0), (1, .int x1), (2, .int x2)] := hl
  unfold wp_Nd_noteCode at hw
  refine lv_aload_n hx hb d_Nd_noteCode_0 rfl (lv_at hl 0 rfl) ?_
  refine lv_dup hx hb d_Nd_noteCode_1 rfl ?_
  refine va_get (D := (dC, dI)) (ci := 4) (v := .int (I_p0 2)) (C := R_Nd) (T := T_Nd) (N := 3) hx hb hg in_Nd hown hK hP 0 rfl rfl 2 (by decide) (hg _ t_251) (fun _ h9 => h9) rfl d_Nd_noteCode_2 ?_
  refine lv_iconst (v := 1) hx hb d_Nd_noteCode_5 (by decide) ?_
  refine lv_iadd hx hb d_Nd_noteCode_6 ?_
  refine va_put (D := (dC, dI)) (ci := 4) (v := .int ((I_p0 2) + 1)) (ty := .int) (C := R_Nd) (T := T_Nd) (N := 3) hx hb hg in_Nd t_Nd tok_Nd nok_Nd hown hK hP hD hS 0 rfl rfl 2 (by decide) (hg _ t_251) (fun _ h9 => h9) rfl (by decide +kernel) rfl rfl (Nat.le_of_ble_eq_true rfl) d_Nd_noteCode_7 (fun H locs hP hD hS => ?_)
  have hP : va_P (dC, dI) vwCl [oNd a_p0 A_p0 (upd I_p0 2 ((I_p0 2) + 1)), gz cI (A_p0 1) 110 f_p0_sizes, gz cI (A_p0 0) 110 f_p0_starts] H := hP
  have hD : va_D A [oNd a_p0 A_p0 (upd I_p0 2 ((I_p0 2) + 1)), gz cI (A_p0 1) 110 f_p0_sizes, gz cI (A_p0 0) 110 f_p0_starts] := hD
  refine lv_aload_n hx hb d_Nd_noteCode_10 rfl (lv_at hl 0 rfl) ?_
  refine va_get (D := (dC, dI)) (ci := 4) (v := .int ((I_p0 2) + 1)) (C := R_Nd) (T := T_Nd) (N := 3) hx hb hg in_Nd hown hK hP 0 rfl rfl 2 (by decide) (hg _ t_251) (fun _ h9 => h9) rfl d_Nd_noteCode_11 ?_
  refine lv_bipush (v := 109) hx hb d_Nd_noteCode_14 (by decide) ?_
  refine lv_icmp_gt hx hb d_Nd_noteCode_16 rfl (fun hc => ?_) (fun hc => ?_)
  · have hw := hw.1 hc
    exact hret _ _ _ _ ((upd I_p0 2 ((I_p0 2) + 1)), f_p0_sizes, f_p0_starts) d_Nd_noteCode_39 hP hD hS hw
  · have hw := hw.2 hc
    refine lv_aload_n hx hb d_Nd_noteCode_19 rfl (lv_at hl 0 rfl) ?_
    refine va_get (D := (dC, dI)) (ci := 4) (v := .ref (A_p0 0)) (C := R_Nd) (T := T_Nd) (N := 3) hx hb hg in_Nd hown hK hP 0 rfl rfl 0 (by decide) (hg _ t_249) (fun _ h9 => h9) rfl d_Nd_noteCode_20 ?_
    refine lv_aload_n hx hb d_Nd_noteCode_23 rfl (lv_at hl 0 rfl) ?_
    refine va_get (D := (dC, dI)) (ci := 4) (v := .int ((I_p0 2) + 1)) (C := R_Nd) (T := T_Nd) (N := 3) hx hb hg in_Nd hown hK hP 0 rfl rfl 2 (by decide) (hg _ t_251) (fun _ h9 => h9) rfl d_Nd_noteCode_24 ?_
    refine lv_iload_n hx hb d_Nd_noteCode_27 rfl (lv_at hl 1 rfl) ?_
    obtain ⟨hin, hw⟩ := hw
    refine va_iast hx hb hK hP hD hS 2 0 rfl rfl hin d_Nd_noteCode_28 (fun H locs hP hD hS => ?_)
    have hP : va_P (dC, dI) vwCl [oNd a_p0 A_p0 (upd I_p0 2 ((I_p0 2) + 1)), gz cI (A_p0 1) 110 f_p0_sizes, gz cI (A_p0 0) 110 (upd f_p0_starts ((I_p0 2) + 1).toNatClampNeg x1)] H := hP
    have hD : va_D A [oNd a_p0 A_p0 (upd I_p0 2 ((I_p0 2) + 1)), gz cI (A_p0 1) 110 f_p0_sizes, gz cI (A_p0 0) 110 (upd f_p0_starts ((I_p0 2) + 1).toNatClampNeg x1)] := hD
    refine lv_aload_n hx hb d_Nd_noteCode_29 rfl (lv_at hl 0 rfl) ?_
    refine va_get (D := (dC, dI)) (ci := 4) (v := .ref (A_p0 1)) (C := R_Nd) (T := T_Nd) (N := 3) hx hb hg in_Nd hown hK hP 0 rfl rfl 1 (by decide) (hg _ t_250) (fun _ h9 => h9) rfl d_Nd_noteCode_30 ?_
    refine lv_aload_n hx hb d_Nd_noteCode_33 rfl (lv_at hl 0 rfl) ?_
    refine va_get (D := (dC, dI)) (ci := 4) (v := .int ((I_p0 2) + 1)) (C := R_Nd) (T := T_Nd) (N := 3) hx hb hg in_Nd hown hK hP 0 rfl rfl 2 (by decide) (hg _ t_251) (fun _ h9 => h9) rfl d_Nd_noteCode_34 ?_
    refine lv_iload_n hx hb d_Nd_noteCode_37 rfl (lv_at hl 2 rfl) ?_
    obtain ⟨hin, hw⟩ := hw
    refine va_iast hx hb hK hP hD hS 1 0 rfl rfl hin d_Nd_noteCode_38 (fun H locs hP hD hS => ?_)
    have hP : va_P (dC, dI) vwCl [oNd a_p0 A_p0 (upd I_p0 2 ((I_p0 2) + 1)), gz cI (A_p0 1) 110 (upd f_p0_sizes ((I_p0 2) + 1).toNatClampNeg x2), gz cI (A_p0 0) 110 (upd f_p0_starts ((I_p0 2) + 1).toNatClampNeg x1)] H := hP
    have hD : va_D A [oNd a_p0 A_p0 (upd I_p0 2 ((I_p0 2) + 1)), gz cI (A_p0 1) 110 (upd f_p0_sizes ((I_p0 2) + 1).toNatClampNeg x2), gz cI (A_p0 0) 110 (upd f_p0_starts ((I_p0 2) + 1).toNatClampNeg x1)] := hD
    exact hret _ _ _ _ ((upd I_p0 2 ((I_p0 2) + 1)), (upd f_p0_sizes ((I_p0 2) + 1).toNatClampNeg x2), (upd f_p0_starts ((I_p0 2) + 1).toNatClampNeg x1)) d_Nd_noteCode_39 hP hD hS hw
theorem d_Nd_decode_0 : decode b_Nd_decode 0 = .ok (.iconst 2, 1) := by decide +kernel
theorem d_Nd_decode_1 : decode b_Nd_decode 1 = .ok (.iload 5, 2) := by decide +kernel
theorem d_Nd_decode_3 : decode b_Nd_decode 3 = .ok (.imul, 1) := by decide +kernel
theorem d_Nd_decode_4 : decode b_Nd_decode 4 = .ok (.istore 7, 2) := by decide +kernel
theorem d_Nd_decode_6 : decode b_Nd_decode 6 = .ok (.bipush 8, 2) := by decide +kernel
theorem d_Nd_decode_8 : decode b_Nd_decode 8 = .ok (.iload_n 2, 1) := by decide +kernel
theorem d_Nd_decode_9 : decode b_Nd_decode 9 = .ok (.imul, 1) := by decide +kernel
theorem d_Nd_decode_10 : decode b_Nd_decode 10 = .ok (.istore 8, 2) := by decide +kernel
theorem d_Nd_decode_12 : decode b_Nd_decode 12 = .ok (.iconst 1, 1) := by decide +kernel
theorem d_Nd_decode_13 : decode b_Nd_decode 13 = .ok (.invokestatic 18, 3) := by decide +kernel
theorem d_Nd_decode_16 : decode b_Nd_decode 16 = .ok (.istore 9, 2) := by decide +kernel
theorem d_Nd_decode_18 : decode b_Nd_decode 18 = .ok (.aload_n 0, 1) := by decide +kernel
theorem d_Nd_decode_19 : decode b_Nd_decode 19 = .ok (.iconst 0, 1) := by decide +kernel
theorem d_Nd_decode_20 : decode b_Nd_decode 20 = .ok (.putfield 22, 3) := by decide +kernel
theorem d_Nd_decode_23 : decode b_Nd_decode 23 = .ok (.iconst 0, 1) := by decide +kernel
theorem d_Nd_decode_24 : decode b_Nd_decode 24 = .ok (.istore 10, 2) := by decide +kernel
theorem d_Nd_decode_26 : decode b_Nd_decode 26 = .ok (.iload 10, 2) := by decide +kernel
theorem d_Nd_decode_28 : decode b_Nd_decode 28 = .ok (.bipush 8, 2) := by decide +kernel
theorem d_Nd_decode_30 : decode b_Nd_decode 30 = .ok (.iload_n 3, 1) := by decide +kernel
theorem d_Nd_decode_31 : decode b_Nd_decode 31 = .ok (.iload_n 2, 1) := by decide +kernel
theorem d_Nd_decode_32 : decode b_Nd_decode 32 = .ok (.isub, 1) := by decide +kernel
theorem d_Nd_decode_33 : decode b_Nd_decode 33 = .ok (.imul, 1) := by decide +kernel
theorem d_Nd_decode_34 : decode b_Nd_decode 34 = .ok (.if_icmp .ge 140, 3) := by decide +kernel
theorem d_Nd_decode_37 : decode b_Nd_decode 37 = .ok (.iload 8, 2) := by decide +kernel
theorem d_Nd_decode_39 : decode b_Nd_decode 39 = .ok (.iload 9, 2) := by decide +kernel
theorem d_Nd_decode_41 : decode b_Nd_decode 41 = .ok (.iadd, 1) := by decide +kernel
theorem d_Nd_decode_42 : decode b_Nd_decode 42 = .ok (.bipush 8, 2) := by decide +kernel
theorem d_Nd_decode_44 : decode b_Nd_decode 44 = .ok (.iload_n 3, 1) := by decide +kernel
theorem d_Nd_decode_45 : decode b_Nd_decode 45 = .ok (.imul, 1) := by decide +kernel
theorem d_Nd_decode_46 : decode b_Nd_decode 46 = .ok (.if_icmp .gt 128, 3) := by decide +kernel
theorem d_Nd_decode_49 : decode b_Nd_decode 49 = .ok (.aload_n 1, 1) := by decide +kernel
theorem d_Nd_decode_50 : decode b_Nd_decode 50 = .ok (.iload 8, 2) := by decide +kernel
theorem d_Nd_decode_52 : decode b_Nd_decode 52 = .ok (.iload 9, 2) := by decide +kernel
theorem d_Nd_decode_54 : decode b_Nd_decode 54 = .ok (.invokestatic 26, 3) := by decide +kernel
theorem d_Nd_decode_57 : decode b_Nd_decode 57 = .ok (.istore 11, 2) := by decide +kernel
theorem d_Nd_decode_59 : decode b_Nd_decode 59 = .ok (.iload 8, 2) := by decide +kernel
theorem d_Nd_decode_61 : decode b_Nd_decode 61 = .ok (.iload 9, 2) := by decide +kernel
theorem d_Nd_decode_63 : decode b_Nd_decode 63 = .ok (.iadd, 1) := by decide +kernel
theorem d_Nd_decode_64 : decode b_Nd_decode 64 = .ok (.istore 8, 2) := by decide +kernel
theorem d_Nd_decode_66 : decode b_Nd_decode 66 = .ok (.iload 11, 2) := by decide +kernel
theorem d_Nd_decode_68 : decode b_Nd_decode 68 = .ok (.bipush 17, 2) := by decide +kernel
theorem d_Nd_decode_70 : decode b_Nd_decode 70 = .ok (.if_icmp .ne 18, 3) := by decide +kernel
theorem d_Nd_decode_73 : decode b_Nd_decode 73 = .ok (.iload 7, 2) := by decide +kernel
theorem d_Nd_decode_75 : decode b_Nd_decode 75 = .ok (.iconst 2, 1) := by decide +kernel
theorem d_Nd_decode_76 : decode b_Nd_decode 76 = .ok (.iload 6, 2) := by decide +kernel
theorem d_Nd_decode_78 : decode b_Nd_decode 78 = .ok (.imul, 1) := by decide +kernel
theorem d_Nd_decode_79 : decode b_Nd_decode 79 = .ok (.if_icmp .ne 7, 3) := by decide +kernel
theorem d_Nd_decode_82 : decode b_Nd_decode 82 = .ok (.iconst 1, 1) := by decide +kernel
theorem d_Nd_decode_83 : decode b_Nd_decode 83 = .ok (.goto 4, 3) := by decide +kernel
theorem d_Nd_decode_86 : decode b_Nd_decode 86 = .ok (.iconst 0, 1) := by decide +kernel
theorem d_Nd_decode_87 : decode b_Nd_decode 87 = .ok (.ireturn, 1) := by decide +kernel
theorem d_Nd_decode_88 : decode b_Nd_decode 88 = .ok (.iload 11, 2) := by decide +kernel
theorem d_Nd_decode_90 : decode b_Nd_decode 90 = .ok (.bipush 16, 2) := by decide +kernel
theorem d_Nd_decode_92 : decode b_Nd_decode 92 = .ok (.if_icmp .ne 11, 3) := by decide +kernel
theorem d_Nd_decode_95 : decode b_Nd_decode 95 = .ok (.aload_n 0, 1) := by decide +kernel
theorem d_Nd_decode_96 : decode b_Nd_decode 96 = .ok (.iconst 0, 1) := by decide +kernel
theorem d_Nd_decode_97 : decode b_Nd_decode 97 = .ok (.putfield 22, 3) := by decide +kernel
theorem d_Nd_decode_100 : decode b_Nd_decode 100 = .ok (.goto 57, 3) := by decide +kernel
theorem d_Nd_decode_103 : decode b_Nd_decode 103 = .ok (.aload_n 0, 1) := by decide +kernel
theorem d_Nd_decode_104 : decode b_Nd_decode 104 = .ok (.iload 11, 2) := by decide +kernel
theorem d_Nd_decode_106 : decode b_Nd_decode 106 = .ok (.invokevirtual 30, 3) := by decide +kernel
theorem d_Nd_decode_109 : decode b_Nd_decode 109 = .ok (.istore 12, 2) := by decide +kernel
theorem d_Nd_decode_111 : decode b_Nd_decode 111 = .ok (.iload 12, 2) := by decide +kernel
theorem d_Nd_decode_113 : decode b_Nd_decode 113 = .ok (.ifCond .eq 15, 3) := by decide +kernel
theorem d_Nd_decode_116 : decode b_Nd_decode 116 = .ok (.iload 12, 2) := by decide +kernel
theorem d_Nd_decode_118 : decode b_Nd_decode 118 = .ok (.iconst 2, 1) := by decide +kernel
theorem d_Nd_decode_119 : decode b_Nd_decode 119 = .ok (.iload 6, 2) := by decide +kernel
theorem d_Nd_decode_121 : decode b_Nd_decode 121 = .ok (.imul, 1) := by decide +kernel
theorem d_Nd_decode_122 : decode b_Nd_decode 122 = .ok (.iload 7, 2) := by decide +kernel
theorem d_Nd_decode_124 : decode b_Nd_decode 124 = .ok (.isub, 1) := by decide +kernel
theorem d_Nd_decode_125 : decode b_Nd_decode 125 = .ok (.if_icmp .le 5, 3) := by decide +kernel
theorem d_Nd_decode_128 : decode b_Nd_decode 128 = .ok (.iconst 0, 1) := by decide +kernel
theorem d_Nd_decode_129 : decode b_Nd_decode 129 = .ok (.ireturn, 1) := by decide +kernel
theorem d_Nd_decode_130 : decode b_Nd_decode 130 = .ok (.aload_n 0, 1) := by decide +kernel
theorem d_Nd_decode_131 : decode b_Nd_decode 131 = .ok (.aload 4, 2) := by decide +kernel
theorem d_Nd_decode_133 : decode b_Nd_decode 133 = .ok (.iload 11, 2) := by decide +kernel
theorem d_Nd_decode_135 : decode b_Nd_decode 135 = .ok (.iload 7, 2) := by decide +kernel
theorem d_Nd_decode_137 : decode b_Nd_decode 137 = .ok (.iload 12, 2) := by decide +kernel
theorem d_Nd_decode_139 : decode b_Nd_decode 139 = .ok (.invokevirtual 33, 3) := by decide +kernel
theorem d_Nd_decode_142 : decode b_Nd_decode 142 = .ok (.aload_n 0, 1) := by decide +kernel
theorem d_Nd_decode_143 : decode b_Nd_decode 143 = .ok (.iload 7, 2) := by decide +kernel
theorem d_Nd_decode_145 : decode b_Nd_decode 145 = .ok (.iload 12, 2) := by decide +kernel
theorem d_Nd_decode_147 : decode b_Nd_decode 147 = .ok (.invokevirtual 37, 3) := by decide +kernel
theorem d_Nd_decode_150 : decode b_Nd_decode 150 = .ok (.iload 7, 2) := by decide +kernel
theorem d_Nd_decode_152 : decode b_Nd_decode 152 = .ok (.iload 12, 2) := by decide +kernel
theorem d_Nd_decode_154 : decode b_Nd_decode 154 = .ok (.iadd, 1) := by decide +kernel
theorem d_Nd_decode_155 : decode b_Nd_decode 155 = .ok (.istore 7, 2) := by decide +kernel
theorem d_Nd_decode_157 : decode b_Nd_decode 157 = .ok (.aload_n 0, 1) := by decide +kernel
theorem d_Nd_decode_158 : decode b_Nd_decode 158 = .ok (.getfield 22, 3) := by decide +kernel
theorem d_Nd_decode_161 : decode b_Nd_decode 161 = .ok (.iconst 1, 1) := by decide +kernel
theorem d_Nd_decode_162 : decode b_Nd_decode 162 = .ok (.iadd, 1) := by decide +kernel
theorem d_Nd_decode_163 : decode b_Nd_decode 163 = .ok (.invokestatic 18, 3) := by decide +kernel
theorem d_Nd_decode_166 : decode b_Nd_decode 166 = .ok (.istore 9, 2) := by decide +kernel
theorem d_Nd_decode_168 : decode b_Nd_decode 168 = .ok (.iinc 10 1, 3) := by decide +kernel
theorem d_Nd_decode_171 : decode b_Nd_decode 171 = .ok (.goto (-145), 3) := by decide +kernel
theorem d_Nd_decode_174 : decode b_Nd_decode 174 = .ok (.iconst 0, 1) := by decide +kernel
theorem d_Nd_decode_175 : decode b_Nd_decode 175 = .ok (.ireturn, 1) := by decide +kernel
def wp_Nd_decode_b157 (post : Int32 → (Nat → Int32) → (Nat → Int32) → (Nat → Int32) → (Nat → Int32) → Prop) (k26 : (Nat → Int32) → (Nat → Int32) → (Nat → Int32) → (Nat → Int32) → Int32 → Int32 → Int32 → Int32 → Int32 → Int32 → Int32 → Prop) (I_p1 : Nat → Int32) (f_p1_bytes : Nat → Int32) (I_p0 : Nat → Int32) (f_p0_sizes : Nat → Int32) (f_p0_starts : Nat → Int32) (f_p4_bytes : Nat → Int32) (x2 : Int32) (x3 : Int32) (x6 : Int32) (x7 : Int32) (x8 : Int32) (x10 : Int32) : Prop :=
  wp_X_codeWidth (fun (r163 : Int32) =>
    k26 I_p0 f_p0_sizes f_p0_starts f_p4_bytes x2 x3 x6 x7 x8 r163 (x10 + 1)) ((I_p0 2) + 1)
def wp_Nd_decode_l26 (post : Int32 → (Nat → Int32) → (Nat → Int32) → (Nat → Int32) → (Nat → Int32) → Prop) (I_p1 : Nat → Int32) (f_p1_bytes : Nat → Int32) : Nat → (Nat → Int32) → (Nat → Int32) → (Nat → Int32) → (Nat → Int32) → Int32 → Int32 → Int32 → Int32 → Int32 → Int32 → Int32 → Prop
  | 0, _, _, _, _, _, _, _, _, _, _, _ => False
  | n + 1, I_p0, f_p0_sizes, f_p0_starts, f_p4_bytes, x2, x3, x6, x7, x8, x9, x10 =>
    (((8 * (x3 - x2)) ≤ x10 →
      post 0 I_p0 f_p0_sizes f_p0_starts f_p4_bytes) ∧
     (¬ (8 * (x3 - x2)) ≤ x10 →
      (((8 * x3) < (x8 + x9) →
        post 0 I_p0 f_p0_sizes f_p0_starts f_p4_bytes) ∧
       (¬ (8 * x3) < (x8 + x9) →
        wp_Nd_readBits (fun (r54 : Int32) =>
          ((r54 = 17 →
            ((x7 = (2 * x6) →
              post 1 I_p0 f_p0_sizes f_p0_starts f_p4_bytes) ∧
             (¬ x7 = (2 * x6) →
              post 0 I_p0 f_p0_sizes f_p0_starts f_p4_bytes))) ∧
           (¬ r54 = 17 →
            ((r54 = 16 →
              wp_Nd_decode_b157 post (wp_Nd_decode_l26 post I_p1 f_p1_bytes n) I_p1 f_p1_bytes (upd I_p0 2 0) f_p0_sizes f_p0_starts f_p4_bytes x2 x3 x6 x7 (x8 + x9) x10) ∧
             (¬ r54 = 16 →
              wp_Nd_rowSize (fun (r106 : Int32) =>
                ((r106 = 0 →
                  post 0 I_p0 f_p0_sizes f_p0_starts f_p4_bytes) ∧
                 (¬ r106 = 0 →
                  ((r106 ≤ ((2 * x6) - x7) →
                    wp_Nd_copyRow (fun (f_p4_bytes_139 : Nat → Int32) =>
                      wp_Nd_noteCode (fun (I_p0_147 : Nat → Int32) (f_p0_sizes_147 : Nat → Int32) (f_p0_starts_147 : Nat → Int32) =>
                        wp_Nd_decode_b157 post (wp_Nd_decode_l26 post I_p1 f_p1_bytes n) I_p1 f_p1_bytes I_p0_147 f_p0_sizes_147 f_p0_starts_147 f_p4_bytes_139 x2 x3 x6 (x7 + r106) (x8 + x9) x10) I_p0 f_p0_sizes f_p0_starts x7 r106) I_p0 f_p0_starts f_p4_bytes r54 x7 r106) ∧
                   (¬ r106 ≤ ((2 * x6) - x7) →
                    post 0 I_p0 f_p0_sizes f_p0_starts f_p4_bytes))))) I_p0 f_p0_sizes r54))))) I_p1 f_p1_bytes x8 x9))))
def wp_Nd_decode (post : Int32 → (Nat → Int32) → (Nat → Int32) → (Nat → Int32) → (Nat → Int32) → Prop) (I_p1 : Nat → Int32) (f_p1_bytes : Nat → Int32) (I_p0 : Nat → Int32) (f_p0_sizes : Nat → Int32) (f_p0_starts : Nat → Int32) (f_p4_bytes : Nat → Int32) (x2 : Int32) (x3 : Int32) (x5 : Int32) (x6 : Int32) : Prop :=
  wp_X_codeWidth (fun (r13 : Int32) =>
    (∃ n1 : Nat, wp_Nd_decode_l26 post I_p1 f_p1_bytes n1 (upd I_p0 2 0) f_p0_sizes f_p0_starts f_p4_bytes x2 x3 x6 (2 * x5) (8 * x2) r13 0)) 1
set_option maxRecDepth 100000 in
set_option maxHeartbeats 4000000 in
theorem c_Nd_decode (l : Launch) (dC : Nat → ClassId) (dI : Nat → Nat → Nat) (cI : ClassId) (a_p0 : Nat) (a_p1 : Nat) (a_p4 : Nat) (A_p0 : Nat → Nat) (A_p1 : Nat → Nat) (A_p4 : Nat → Nat) (I_p1 : Nat → Int32) (f_p1_bytes : Nat → Int32) (I_p0 : Nat → Int32) (f_p0_sizes : Nat → Int32) (f_p0_starts : Nat → Int32) (f_p4_bytes : Nat → Int32) (x2 : Int32) (x3 : Int32) (x5 : Int32) (x6 : Int32) {post : Int32 → (Nat → Int32) → (Nat → Int32) → (Nat → Int32) → (Nat → Int32) → Prop} (hw : wp_Nd_decode post I_p1 f_p1_bytes I_p0 f_p0_sizes f_p0_starts f_p4_bytes x2 x3 x5 x6) : gm_i l y_Nd_decode ws_Nd_decode ({ frames := 2, cells := 0, slots := 0, locals := 49 } : Room) (dC, dI) vwCl [(cI, .int)] [.ref a_p0, .ref a_p1, .int x2, .int x3, .ref a_p4, .int x5, .int x6] [oNd a_p0 A_p0 I_p0, gz cI (A_p0 1) 110 f_p0_sizes, gz cI (A_p0 0) 110 f_p0_starts, oSt a_p1 A_p1 I_p1, gz cI (A_p1 0) 900 f_p1_bytes, oDa a_p4 A_p4, gz cI (A_p4 0) 256 f_p4_bytes] (fun (u : (Nat → Int32) × (Nat → Int32) × (Nat → Int32) × (Nat → Int32)) => [oNd a_p0 A_p0 u.1, gz cI (A_p0 1) 110 u.2.1, gz cI (A_p0 0) 110 u.2.2.1, oSt a_p1 A_p1 I_p1, gz cI (A_p1 0) 900 f_p1_bytes, oDa a_p4 A_p4, gz cI (A_p4 0) 256 u.2.2.2]) (fun (r : Int32) (u : (Nat → Int32) × (Nat → Int32) × (Nat → Int32) × (Nat → Int32)) => post r u.1 u.2.1 u.2.2.1 u.2.2.2) := by
  refine gm_iof (cc := b_Nd_decode) (maxL := 13) (ty := .boolean) (by decide) rfl (Nat.le_of_ble_eq_true rfl) ?_
  intro p e s m args below meth c A Q hx hb hml hown hg hK hN hA hret
  have hown : s.vm.findClass R_Nd = some m.cls := hown
  have b157 : ∀ (k26 : (Nat → Int32) → (Nat → Int32) → (Nat → Int32) → (Nat → Int32) → Int32 → Int32 → Int32 → Int32 → Int32 → Int32 → Int32 → Prop), (∀ (H : Heap) (locs : List Loc) (ls : Array Slot) (I_p0 : Nat → Int32) (f_p0_sizes : Nat → Int32) (f_p0_starts : Nat → Int32) (f_p4_bytes : Nat → Int32) (x2 : Int32) (x3 : Int32) (x6 : Int32) (x7 : Int32) (x8 : Int32) (x9 : Int32) (x10 : Int32), va_P (dC, dI) vwCl [oNd a_p0 A_p0 I_p0, gz cI (A_p0 1) 110 f_p0_sizes, gz cI (A_p0 0) 110 f_p0_starts, oSt a_p1 A_p1 I_p1, gz cI (A_p1 0) 900 f_p1_bytes, oDa a_p4 A_p4, gz cI (A_p4 0) 256 f_p4_bytes] H → va_D A [oNd a_p0 A_p0 I_p0, gz cI (A_p0 1) 110 f_p0_sizes, gz cI (A_p0 0) 110 f_p0_starts, oSt a_p1 A_p1 I_p1, gz cI (A_p1 0) 900 f_p1_bytes, oDa a_p4 A_p4, gz cI (A_p4 0) 256 f_p4_bytes] → va_S A s.heap H locs → lv_has ls 13 [(0, .ref a_p0), (1, .ref a_p1), (2, .int x2), (3, .int x3), (4, .ref a_p4), (6, .int x6), (7, .int x7), (8, .int x8), (9, .int x9), (10, .int x10)] → k26 I_p0 f_p0_sizes f_p0_starts f_p4_bytes x2 x3 x6 x7 x8 x9 x10 → W p l e ({ frames := 2, cells := 0, slots := 0, locals := 49 } : Room) s m args below meth c H locs 0 0 Q (F0 m 26 ls [])) → ∀ (H : Heap) (locs : List Loc) (ls : Array Slot) (I_p0 : Nat → Int32) (f_p0_sizes : Nat → Int32) (f_p0_starts : Nat → Int32) (f_p4_bytes : Nat → Int32) (x2 : Int32) (x3 : Int32) (x6 : Int32) (x7 : Int32) (x8 : Int32) (x10 : Int32), va_P (dC, dI) vwCl [oNd a_p0 A_p0 I_p0, gz cI (A_p0 1) 110 f_p0_sizes, gz cI (A_p0 0) 110 f_p0_starts, oSt a_p1 A_p1 I_p1, gz cI (A_p1 0) 900 f_p1_bytes, oDa a_p4 A_p4, gz cI (A_p4 0) 256 f_p4_bytes] H → va_D A [oNd a_p0 A_p0 I_p0, gz cI (A_p0 1) 110 f_p0_sizes, gz cI (A_p0 0) 110 f_p0_starts, oSt a_p1 A_p1 I_p1, gz cI (A_p1 0) 900 f_p1_bytes, oDa a_p4 A_p4, gz cI (A_p4 0) 256 f_p4_bytes] → va_S A s.heap H locs → lv_has ls 13 [(0, .ref a_p0), (1, .ref a_p1), (2, .int x2), (3, .int x3), (4, .ref a_p4), (6, .int x6), (7, .int x7), (8, .int x8), (10, .int x10)] → wp_Nd_decode_b157 post k26 I_p1 f_p1_bytes I_p0 f_p0_sizes f_p0_starts f_p4_bytes x2 x3 x6 x7 x8 x10 → W p l e ({ frames := 2, cells := 0, slots := 0, locals := 49 } : Room) s m args below meth c H locs 0 0 Q (F0 m 157 ls []) := by
    intro k26 hk26 H locs ls I_p0 f_p0_sizes f_p0_starts f_p4_bytes x2 x3 x6 x7 x8 x10 hP hD hS hl hw
    unfold wp_Nd_decode_b157 at hw
    refine lv_aload_n hx hb d_Nd_decode_157 rfl (lv_at hl 0 rfl) ?_
    refine va_get (D := (dC, dI)) (ci := 4) (v := .int (I_p0 2)) (C := R_Nd) (T := T_Nd) (N := 3) hx hb hg in_Nd hown hK hP 0 rfl rfl 2 (by decide) (hg _ t_251) (fun _ h9 => h9) rfl d_Nd_decode_158 ?_
    refine lv_iconst (v := 1) hx hb d_Nd_decode_161 (by decide) ?_
    refine lv_iadd hx hb d_Nd_decode_162 ?_
    refine gc_i (wn := fun (_ : Unit) => [oNd a_p0 A_p0 I_p0, gz cI (A_p0 1) 110 f_p0_sizes, gz cI (A_p0 0) 110 f_p0_starts, oSt a_p1 A_p1 I_p1, gz cI (A_p1 0) 900 f_p1_bytes, oDa a_p4 A_p4, gz cI (A_p4 0) 256 f_p4_bytes]) (wr := [oNd a_p0 A_p0 I_p0, gz cI (A_p0 1) 110 f_p0_sizes, gz cI (A_p0 0) 110 f_p0_starts, oSt a_p1 A_p1 I_p1, gz cI (A_p1 0) 900 f_p1_bytes, oDa a_p4 A_p4, gz cI (A_p4 0) 256 f_p4_bytes]) (gr_SN (As := [.int ((I_p0 2) + 1)]) (rest := []) ⟨hx, hb, hml, hown, hg⟩ (c_X_codeWidth l dC dI cI ((I_p0 2) + 1) hw _) ⟨va_cnB (host := "TaggedRaster") 1 hg (gg_B t_570) rfl rfl rfl (hN _ nw_10) (hg _ t_60) (by decide +kernel) ⟨Nat.le_of_ble_eq_true rfl, Nat.le_of_ble_eq_true rfl⟩, hg _ t_569, trivial⟩ hK hN hP hD [] (by decide) rfl rfl hl.1 rfl (Nat.le_of_ble_eq_true rfl) d_Nd_decode_163 ⟨Nat.le_of_ble_eq_true rfl, Nat.le_of_ble_eq_true rfl⟩) rfl rfl hP hD hS hA [] [0, 1, 2, 3, 4, 5, 6] [0, 1, 2, 3, 4, 5, 6] rfl rfl (by decide) (by decide) (by decide) (fun _ => rfl) ?_
    intro r163 _ H locs hw hP hD hS
    try dsimp only at hw
    have hP : va_P (dC, dI) vwCl [oNd a_p0 A_p0 I_p0, gz cI (A_p0 1) 110 f_p0_sizes, gz cI (A_p0 0) 110 f_p0_starts, oSt a_p1 A_p1 I_p1, gz cI (A_p1 0) 900 f_p1_bytes, oDa a_p4 A_p4, gz cI (A_p4 0) 256 f_p4_bytes] H := hP
    have hD : va_D A [oNd a_p0 A_p0 I_p0, gz cI (A_p0 1) 110 f_p0_sizes, gz cI (A_p0 0) 110 f_p0_starts, oSt a_p1 A_p1 I_p1, gz cI (A_p1 0) 900 f_p1_bytes, oDa a_p4 A_p4, gz cI (A_p4 0) 256 f_p4_bytes] := hD
    refine lv_istore (lv' := [(9, .int r163), (0, .ref a_p0), (1, .ref a_p1), (2, .int x2), (3, .int x3), (4, .ref a_p4), (6, .int x6), (7, .int x7), (8, .int x8), (10, .int x10)]) hx hb d_Nd_decode_166 hl (by decide) rfl (fun ls hl => ?_)
    refine lv_iinc (k := 9) (v := (x10 + 1)) (lv' := [(10, .int (x10 + 1)), (9, .int r163), (0, .ref a_p0), (1, .ref a_p1), (2, .int x2), (3, .int x3), (4, .ref a_p4), (6, .int x6), (7, .int x7), (8, .int x8)]) hx hb d_Nd_decode_168 hl rfl (congrArg (fun z => x10 + z) (by decide : Int32.ofInt 1 = 1)) (by decide) rfl (fun ls hl => ?_)
    refine lv_goto hx hb d_Nd_decode_171 rfl ?_
    exact hk26 _ _ _ I_p0 f_p0_sizes f_p0_starts f_p4_bytes x2 x3 x6 x7 x8 r163 (x10 + 1) hP hD hS (lv_sub hl [2, 3, 4, 5, 6, 7, 8, 9, 1, 0] rfl) hw
  have l26 : ∀ n : Nat, ∀ (H : Heap) (locs : List Loc) (ls : Array Slot) (I_p0 : Nat → Int32) (f_p0_sizes : Nat → Int32) (f_p0_starts : Nat → Int32) (f_p4_bytes : Nat → Int32) (x2 : Int32) (x3 : Int32) (x6 : Int32) (x7 : Int32) (x8 : Int32) (x9 : Int32) (x10 : Int32), va_P (dC, dI) vwCl [oNd a_p0 A_p0 I_p0, gz cI (A_p0 1) 110 f_p0_sizes, gz cI (A_p0 0) 110 f_p0_starts, oSt a_p1 A_p1 I_p1, gz cI (A_p1 0) 900 f_p1_bytes, oDa a_p4 A_p4, gz cI (A_p4 0) 256 f_p4_bytes] H → va_D A [oNd a_p0 A_p0 I_p0, gz cI (A_p0 1) 110 f_p0_sizes, gz cI (A_p0 0) 110 f_p0_starts, oSt a_p1 A_p1 I_p1, gz cI (A_p1 0) 900 f_p1_bytes, oDa a_p4 A_p4, gz cI (A_p4 0) 256 f_p4_bytes] → va_S A s.heap H locs → lv_has ls 13 [(0, .ref a_p0), (1, .ref a_p1), (2, .int x2), (3, .int x3), (4, .ref a_p4), (6, .int x6), (7, .int x7), (8, .int x8), (9, .int x9), (10, .int x10)] → wp_Nd_decode_l26 post I_p1 f_p1_bytes n I_p0 f_p0_sizes f_p0_starts f_p4_bytes x2 x3 x6 x7 x8 x9 x10 → W p l e ({ frames := 2, cells := 0, slots := 0, locals := 49 } : Room) s m args below meth c H locs 0 0 Q (F0 m 26 ls []) := by
    intro n
    induction n with
    | zero => intro H locs ls I_p0 f_p0_sizes f_p0_starts f_p4_bytes x2 x3 x6 x7 x8 x9 x10 hP hD hS hl hw; exact hw.elim
    | succ n ih =>
      intro H locs ls I_p0 f_p0_sizes f_p0_starts f_p4_bytes x2 x3 x6 x7 x8 x9 x10 hP hD hS hl hw
      unfold wp_Nd_decode_l26 at hw
      refine lv_iload hx hb d_Nd_decode_26 (lv_at hl 9 rfl) ?_
      refine lv_bipush (v := 8) hx hb d_Nd_decode_28 (by decide) ?_
      refine lv_iload_n hx hb d_Nd_decode_30 rfl (lv_at hl 3 rfl) ?_
      refine lv_iload_n hx hb d_Nd_decode_31 rfl (lv_at hl 2 rfl) ?_
      refine lv_isub hx hb d_Nd_decode_32 ?_
      refine lv_imul hx hb d_Nd_decode_33 ?_
      refine lv_icmp_ge hx hb d_Nd_decode_34 rfl (fun hc => ?_) (fun hc => ?_)
      · have hw := hw.1 hc
        refine lv_iconst (v := 0) hx hb d_Nd_decode_174 (by decide) ?_
        exact hret _ _ _ _ _ (I_p0, f_p0_sizes, f_p0_starts, f_p4_bytes) d_Nd_decode_175 rfl hP hD hS hw
      · have hw := hw.2 hc
        refine lv_iload hx hb d_Nd_decode_37 (lv_at hl 7 rfl) ?_
        refine lv_iload hx hb d_Nd_decode_39 (lv_at hl 8 rfl) ?_
        refine lv_iadd hx hb d_Nd_decode_41 ?_
        refine lv_bipush (v := 8) hx hb d_Nd_decode_42 (by decide) ?_
        refine lv_iload_n hx hb d_Nd_decode_44 rfl (lv_at hl 3 rfl) ?_
        refine lv_imul hx hb d_Nd_decode_45 ?_
        refine lv_icmp_gt hx hb d_Nd_decode_46 rfl (fun hc => ?_) (fun hc => ?_)
        · have hw := hw.1 hc
          refine lv_iconst (v := 0) hx hb d_Nd_decode_174 (by decide) ?_
          exact hret _ _ _ _ _ (I_p0, f_p0_sizes, f_p0_starts, f_p4_bytes) d_Nd_decode_175 rfl hP hD hS hw
        · have hw := hw.2 hc
          refine lv_aload_n hx hb d_Nd_decode_49 rfl (lv_at hl 1 rfl) ?_
          refine lv_iload hx hb d_Nd_decode_50 (lv_at hl 7 rfl) ?_
          refine lv_iload hx hb d_Nd_decode_52 (lv_at hl 8 rfl) ?_
          refine gc_i (wn := fun (_ : Unit) => [oNd a_p0 A_p0 I_p0, gz cI (A_p0 1) 110 f_p0_sizes, gz cI (A_p0 0) 110 f_p0_starts, oSt a_p1 A_p1 I_p1, gz cI (A_p1 0) 900 f_p1_bytes, oDa a_p4 A_p4, gz cI (A_p4 0) 256 f_p4_bytes]) (wr := [oNd a_p0 A_p0 I_p0, gz cI (A_p0 1) 110 f_p0_sizes, gz cI (A_p0 0) 110 f_p0_starts, oDa a_p4 A_p4, gz cI (A_p4 0) 256 f_p4_bytes]) (gr_S (As := [.ref a_p1, .int x8, .int x9]) (rest := []) ⟨hx, hb, hml, hown, hg⟩ (c_Nd_readBits l dC dI cI a_p1 A_p1 I_p1 f_p1_bytes x8 x9 hw _) (va_cwS 3 hg (gg_S t_711 t_712 t_68 t_713) rfl rfl rfl (by decide +kernel) ⟨Nat.le_of_ble_eq_true rfl, Nat.le_of_ble_eq_true rfl⟩) hK hN hP hD [3, 4] (by decide) rfl rfl hl.1 rfl (Nat.le_of_ble_eq_true rfl) d_Nd_decode_54 ⟨Nat.le_of_ble_eq_true rfl, Nat.le_of_ble_eq_true rfl⟩) rfl rfl hP hD hS hA [3, 4] [0, 1, 2, 5, 6] [0, 1, 2, 5, 6, 3, 4] rfl rfl (by decide) (by decide) (by decide) (fun _ => rfl) ?_
          intro r54 _ H locs hw hP hD hS
          try dsimp only at hw
          have hP : va_P (dC, dI) vwCl [oNd a_p0 A_p0 I_p0, gz cI (A_p0 1) 110 f_p0_sizes, gz cI (A_p0 0) 110 f_p0_starts, oSt a_p1 A_p1 I_p1, gz cI (A_p1 0) 900 f_p1_bytes, oDa a_p4 A_p4, gz cI (A_p4 0) 256 f_p4_bytes] H := hP
          have hD : va_D A [oNd a_p0 A_p0 I_p0, gz cI (A_p0 1) 110 f_p0_sizes, gz cI (A_p0 0) 110 f_p0_starts, oSt a_p1 A_p1 I_p1, gz cI (A_p1 0) 900 f_p1_bytes, oDa a_p4 A_p4, gz cI (A_p4 0) 256 f_p4_bytes] := hD
          refine lv_istore (lv' := [(11, .int r54), (0, .ref a_p0), (1, .ref a_p1), (2, .int x2), (3, .int x3), (4, .ref a_p4), (6, .int x6), (7, .int x7), (8, .int x8), (9, .int x9), (10, .int x10)]) hx hb d_Nd_decode_57 hl (by decide) rfl (fun ls hl => ?_)
          refine lv_iload hx hb d_Nd_decode_59 (lv_at hl 8 rfl) ?_
          refine lv_iload hx hb d_Nd_decode_61 (lv_at hl 9 rfl) ?_
          refine lv_iadd hx hb d_Nd_decode_63 ?_
          refine lv_istore (lv' := [(8, .int (x8 + x9)), (11, .int r54), (0, .ref a_p0), (1, .ref a_p1), (2, .int x2), (3, .int x3), (4, .ref a_p4), (6, .int x6), (7, .int x7), (9, .int x9), (10, .int x10)]) hx hb d_Nd_decode_64 hl (by decide) rfl (fun ls hl => ?_)
          refine lv_iload hx hb d_Nd_decode_66 (lv_at hl 1 rfl) ?_
          refine lv_bipush (v := 17) hx hb d_Nd_decode_68 (by decide) ?_
          refine lv_icmp_ne hx hb d_Nd_decode_70 rfl (fun hc => ?_) (fun hc => ?_)
          · have hw := hw.2 hc
            refine lv_iload hx hb d_Nd_decode_88 (lv_at hl 1 rfl) ?_
            refine lv_bipush (v := 16) hx hb d_Nd_decode_90 (by decide) ?_
            refine lv_icmp_ne hx hb d_Nd_decode_92 rfl (fun hc => ?_) (fun hc => ?_)
            · have hw := hw.2 hc
              refine lv_aload_n hx hb d_Nd_decode_103 rfl (lv_at hl 2 rfl) ?_
              refine lv_iload hx hb d_Nd_decode_104 (lv_at hl 1 rfl) ?_
              refine gc_i (wn := fun (_ : Unit) => [oNd a_p0 A_p0 I_p0, gz cI (A_p0 1) 110 f_p0_sizes, gz cI (A_p0 0) 110 f_p0_starts, oSt a_p1 A_p1 I_p1, gz cI (A_p1 0) 900 f_p1_bytes, oDa a_p4 A_p4, gz cI (A_p4 0) 256 f_p4_bytes]) (wr := [gz cI (A_p0 0) 110 f_p0_starts, oSt a_p1 A_p1 I_p1, gz cI (A_p1 0) 900 f_p1_bytes, oDa a_p4 A_p4, gz cI (A_p4 0) 256 f_p4_bytes]) (gr_V (As := [.int r54]) (rest := []) ⟨hx, hb, hml, hown, hg⟩ (c_Nd_rowSize l dC dI cI a_p0 A_p0 I_p0 f_p0_sizes r54 hw _) (cwV 1 hg (gg_V t_714 t_716 t_23 t_68 t_717) rfl rfl rfl (by decide +kernel) ⟨Nat.le_of_ble_eq_true rfl, Nat.le_of_ble_eq_true rfl⟩) hK hN hP hD [0, 1] (by decide) rfl 0 4 rfl rfl rfl rfl hl.1 rfl (Nat.le_of_ble_eq_true rfl) d_Nd_decode_106 ⟨Nat.le_of_ble_eq_true rfl, Nat.le_of_ble_eq_true rfl⟩) rfl rfl hP hD hS hA [0, 1] [2, 3, 4, 5, 6] [5, 6, 0, 1, 2, 3, 4] rfl rfl (by decide) (by decide) (by decide) (fun _ => rfl) ?_
              intro r106 _ H locs hw hP hD hS
              try dsimp only at hw
              have hP : va_P (dC, dI) vwCl [oNd a_p0 A_p0 I_p0, gz cI (A_p0 1) 110 f_p0_sizes, gz cI (A_p0 0) 110 f_p0_starts, oSt a_p1 A_p1 I_p1, gz cI (A_p1 0) 900 f_p1_bytes, oDa a_p4 A_p4, gz cI (A_p4 0) 256 f_p4_bytes] H := hP
              have hD : va_D A [oNd a_p0 A_p0 I_p0, gz cI (A_p0 1) 110 f_p0_sizes, gz cI (A_p0 0) 110 f_p0_starts, oSt a_p1 A_p1 I_p1, gz cI (A_p1 0) 900 f_p1_bytes, oDa a_p4 A_p4, gz cI (A_p4 0) 256 f_p4_bytes] := hD
              refine lv_istore (lv' := [(12, .int r106), (8, .int (x8 + x9)), (11, .int r54), (0, .ref a_p0), (1, .ref a_p1), (2, .int x2), (3, .int x3), (4, .ref a_p4), (6, .int x6), (7, .int x7), (9, .int x9), (10, .int x10)]) hx hb d_Nd_decode_109 hl (by decide) rfl (fun ls hl => ?_)
              refine lv_iload hx hb d_Nd_decode_111 (lv_at hl 0 rfl) ?_
              refine lv_if_eq hx hb d_Nd_decode_113 rfl (fun hc => ?_) (fun hc => ?_)
              · have hw := hw.1 hc
                refine lv_iconst (v := 0) hx hb d_Nd_decode_128 (by decide) ?_
                exact hret _ _ _ _ _ (I_p0, f_p0_sizes, f_p0_starts, f_p4_bytes) d_Nd_decode_129 rfl hP hD hS hw
              · have hw := hw.2 hc
                refine lv_iload hx hb d_Nd_decode_116 (lv_at hl 0 rfl) ?_
                refine lv_iconst (v := 2) hx hb d_Nd_decode_118 (by decide) ?_
                refine lv_iload hx hb d_Nd_decode_119 (lv_at hl 8 rfl) ?_
                refine lv_imul hx hb d_Nd_decode_121 ?_
                refine lv_iload hx hb d_Nd_decode_122 (lv_at hl 9 rfl) ?_
                refine lv_isub hx hb d_Nd_decode_124 ?_
                refine lv_icmp_le hx hb d_Nd_decode_125 rfl (fun hc => ?_) (fun hc => ?_)
                · have hw := hw.1 hc
                  refine lv_aload_n hx hb d_Nd_decode_130 rfl (lv_at hl 3 rfl) ?_
                  refine lv_aload hx hb d_Nd_decode_131 (lv_at hl 7 rfl) ?_
                  refine lv_iload hx hb d_Nd_decode_133 (lv_at hl 2 rfl) ?_
                  refine lv_iload hx hb d_Nd_decode_135 (lv_at hl 9 rfl) ?_
                  refine lv_iload hx hb d_Nd_decode_137 (lv_at hl 0 rfl) ?_
                  refine gc_v (wn := fun u => [oNd a_p0 A_p0 I_p0, gz cI (A_p0 1) 110 f_p0_sizes, gz cI (A_p0 0) 110 f_p0_starts, oSt a_p1 A_p1 I_p1, gz cI (A_p1 0) 900 f_p1_bytes, oDa a_p4 A_p4, gz cI (A_p4 0) 256 u]) (wr := [gz cI (A_p0 1) 110 f_p0_sizes, oSt a_p1 A_p1 I_p1, gz cI (A_p1 0) 900 f_p1_bytes]) (gr_V (As := [.ref a_p4, .int r54, .int x7, .int r106]) (rest := []) ⟨hx, hb, hml, hown, hg⟩ (c_Nd_copyRow l dC dI cI a_p0 a_p4 A_p0 A_p4 I_p0 f_p0_starts f_p4_bytes r54 x7 r106 hw _) (cwV 4 hg (gg_V t_718 t_720 t_24 t_68 t_721) rfl rfl rfl (by decide +kernel) ⟨Nat.le_of_ble_eq_true rfl, Nat.le_of_ble_eq_true rfl⟩) hK hN hP hD [0, 2, 5, 6] (by decide) rfl 0 4 rfl rfl rfl rfl hl.1 rfl (Nat.le_of_ble_eq_true rfl) d_Nd_decode_139 ⟨Nat.le_of_ble_eq_true rfl, Nat.le_of_ble_eq_true rfl⟩) rfl rfl hP hD hS hA [0, 2, 5, 6] [1, 3, 4] [3, 0, 4, 1, 2, 5, 6] rfl rfl (by decide) (by decide) (by decide) (fun _ => rfl) ?_
                  intro f_p4_bytes_139 H locs hw hP hD hS
                  try dsimp only at hw
                  have hP : va_P (dC, dI) vwCl [oNd a_p0 A_p0 I_p0, gz cI (A_p0 1) 110 f_p0_sizes, gz cI (A_p0 0) 110 f_p0_starts, oSt a_p1 A_p1 I_p1, gz cI (A_p1 0) 900 f_p1_bytes, oDa a_p4 A_p4, gz cI (A_p4 0) 256 f_p4_bytes_139] H := hP
                  have hD : va_D A [oNd a_p0 A_p0 I_p0, gz cI (A_p0 1) 110 f_p0_sizes, gz cI (A_p0 0) 110 f_p0_starts, oSt a_p1 A_p1 I_p1, gz cI (A_p1 0) 900 f_p1_bytes, oDa a_p4 A_p4, gz cI (A_p4 0) 256 f_p4_bytes_139] := hD
                  refine lv_aload_n hx hb d_Nd_decode_142 rfl (lv_at hl 3 rfl) ?_
                  refine lv_iload hx hb d_Nd_decode_143 (lv_at hl 9 rfl) ?_
                  refine lv_iload hx hb d_Nd_decode_145 (lv_at hl 0 rfl) ?_
                  refine gc_v (wn := fun u => [oNd a_p0 A_p0 u.1, gz cI (A_p0 1) 110 u.2.1, gz cI (A_p0 0) 110 u.2.2, oSt a_p1 A_p1 I_p1, gz cI (A_p1 0) 900 f_p1_bytes, oDa a_p4 A_p4, gz cI (A_p4 0) 256 f_p4_bytes_139]) (wr := [oSt a_p1 A_p1 I_p1, gz cI (A_p1 0) 900 f_p1_bytes, oDa a_p4 A_p4, gz cI (A_p4 0) 256 f_p4_bytes_139]) (gr_V (As := [.int x7, .int r106]) (rest := []) ⟨hx, hb, hml, hown, hg⟩ (c_Nd_noteCode l dC dI cI a_p0 A_p0 I_p0 f_p0_sizes f_p0_starts x7 r106 hw _) (cwV 2 hg (gg_V t_727 t_729 t_25 t_68 t_730) rfl rfl rfl (by decide +kernel) ⟨Nat.le_of_ble_eq_true rfl, Nat.le_of_ble_eq_true rfl⟩) hK hN hP hD [0, 1, 2] (by decide) rfl 0 4 rfl rfl rfl rfl hl.1 rfl (Nat.le_of_ble_eq_true rfl) d_Nd_decode_147 ⟨Nat.le_of_ble_eq_true rfl, Nat.le_of_ble_eq_true rfl⟩) rfl rfl hP hD hS hA [0, 1, 2] [3, 4, 5, 6] [4, 5, 6, 0, 1, 2, 3] rfl rfl (by decide) (by decide) (by decide) (fun _ => rfl) ?_
                  intro u9 H locs hw hP hD hS
                  obtain ⟨I_p0_147, f_p0_sizes_147, f_p0_starts_147⟩ := u9
                  try dsimp only at hw
                  have hP : va_P (dC, dI) vwCl [oNd a_p0 A_p0 I_p0_147, gz cI (A_p0 1) 110 f_p0_sizes_147, gz cI (A_p0 0) 110 f_p0_starts_147, oSt a_p1 A_p1 I_p1, gz cI (A_p1 0) 900 f_p1_bytes, oDa a_p4 A_p4, gz cI (A_p4 0) 256 f_p4_bytes_139] H := hP
                  have hD : va_D A [oNd a_p0 A_p0 I_p0_147, gz cI (A_p0 1) 110 f_p0_sizes_147, gz cI (A_p0 0) 110 f_p0_starts_147, oSt a_p1 A_p1 I_p1, gz cI (A_p1 0) 900 f_p1_bytes, oDa a_p4 A_p4, gz cI (A_p4 0) 256 f_p4_bytes_139] := hD
                  refine lv_iload hx hb d_Nd_decode_150 (lv_at hl 9 rfl) ?_
                  refine lv_iload hx hb d_Nd_decode_152 (lv_at hl 0 rfl) ?_
                  refine lv_iadd hx hb d_Nd_decode_154 ?_
                  refine lv_istore (lv' := [(7, .int (x7 + r106)), (12, .int r106), (8, .int (x8 + x9)), (11, .int r54), (0, .ref a_p0), (1, .ref a_p1), (2, .int x2), (3, .int x3), (4, .ref a_p4), (6, .int x6), (9, .int x9), (10, .int x10)]) hx hb d_Nd_decode_155 hl (by decide) rfl (fun ls hl => ?_)
                  exact b157 _ ih _ _ _ I_p0_147 f_p0_sizes_147 f_p0_starts_147 f_p4_bytes_139 x2 x3 x6 (x7 + r106) (x8 + x9) x10 hP hD hS (lv_sub hl [4, 5, 6, 7, 8, 9, 0, 2, 11] rfl) hw
                · have hw := hw.2 hc
                  refine lv_iconst (v := 0) hx hb d_Nd_decode_128 (by decide) ?_
                  exact hret _ _ _ _ _ (I_p0, f_p0_sizes, f_p0_starts, f_p4_bytes) d_Nd_decode_129 rfl hP hD hS hw
            · have hw := hw.1 hc
              refine lv_aload_n hx hb d_Nd_decode_95 rfl (lv_at hl 2 rfl) ?_
              refine lv_iconst (v := 0) hx hb d_Nd_decode_96 (by decide) ?_
              refine va_put (D := (dC, dI)) (ci := 4) (v := .int 0) (ty := .int) (C := R_Nd) (T := T_Nd) (N := 3) hx hb hg in_Nd t_Nd tok_Nd nok_Nd hown hK hP hD hS 0 rfl rfl 2 (by decide) (hg _ t_251) (fun _ h9 => h9) rfl (by decide +kernel) rfl rfl (Nat.le_of_ble_eq_true rfl) d_Nd_decode_97 (fun H locs hP hD hS => ?_)
              have hP : va_P (dC, dI) vwCl [oNd a_p0 A_p0 (upd I_p0 2 0), gz cI (A_p0 1) 110 f_p0_sizes, gz cI (A_p0 0) 110 f_p0_starts, oSt a_p1 A_p1 I_p1, gz cI (A_p1 0) 900 f_p1_bytes, oDa a_p4 A_p4, gz cI (A_p4 0) 256 f_p4_bytes] H := hP
              have hD : va_D A [oNd a_p0 A_p0 (upd I_p0 2 0), gz cI (A_p0 1) 110 f_p0_sizes, gz cI (A_p0 0) 110 f_p0_starts, oSt a_p1 A_p1 I_p1, gz cI (A_p1 0) 900 f_p1_bytes, oDa a_p4 A_p4, gz cI (A_p4 0) 256 f_p4_bytes] := hD
              refine lv_goto hx hb d_Nd_decode_100 rfl ?_
              exact b157 _ ih _ _ _ (upd I_p0 2 0) f_p0_sizes f_p0_starts f_p4_bytes x2 x3 x6 x7 (x8 + x9) x10 hP hD hS (lv_sub hl [2, 3, 4, 5, 6, 7, 8, 0, 10] rfl) hw
          · have hw := hw.1 hc
            refine lv_iload hx hb d_Nd_decode_73 (lv_at hl 8 rfl) ?_
            refine lv_iconst (v := 2) hx hb d_Nd_decode_75 (by decide) ?_
            refine lv_iload hx hb d_Nd_decode_76 (lv_at hl 7 rfl) ?_
            refine lv_imul hx hb d_Nd_decode_78 ?_
            refine lv_icmp_ne hx hb d_Nd_decode_79 rfl (fun hc => ?_) (fun hc => ?_)
            · have hw := hw.2 hc
              refine lv_iconst (v := 0) hx hb d_Nd_decode_86 (by decide) ?_
              exact hret _ _ _ _ _ (I_p0, f_p0_sizes, f_p0_starts, f_p4_bytes) d_Nd_decode_87 rfl hP hD hS hw
            · have hw := hw.1 hc
              refine lv_iconst (v := 1) hx hb d_Nd_decode_82 (by decide) ?_
              refine lv_goto hx hb d_Nd_decode_83 rfl ?_
              exact hret _ _ _ _ _ (I_p0, f_p0_sizes, f_p0_starts, f_p4_bytes) d_Nd_decode_87 rfl hP hD hS hw
  intro ls hl hP hD hS
  have hl : lv_has ls 13 [(0, .ref a_p0), (1, .ref a_p1), (2, .int x2), (3, .int x3), (4, .ref a_p4), (5, .int x5), (6, .int x6)] := hl
  unfold wp_Nd_decode at hw
  refine lv_iconst (v := 2) hx hb d_Nd_decode_0 (by decide) ?_
  refine lv_iload hx hb d_Nd_decode_1 (lv_at hl 5 rfl) ?_
  refine lv_imul hx hb d_Nd_decode_3 ?_
  refine lv_istore (lv' := [(7, .int (2 * x5)), (0, .ref a_p0), (1, .ref a_p1), (2, .int x2), (3, .int x3), (4, .ref a_p4), (5, .int x5), (6, .int x6)]) hx hb d_Nd_decode_4 hl (by decide) rfl (fun ls hl => ?_)
  refine lv_bipush (v := 8) hx hb d_Nd_decode_6 (by decide) ?_
  refine lv_iload_n hx hb d_Nd_decode_8 rfl (lv_at hl 3 rfl) ?_
  refine lv_imul hx hb d_Nd_decode_9 ?_
  refine lv_istore (lv' := [(8, .int (8 * x2)), (7, .int (2 * x5)), (0, .ref a_p0), (1, .ref a_p1), (2, .int x2), (3, .int x3), (4, .ref a_p4), (5, .int x5), (6, .int x6)]) hx hb d_Nd_decode_10 hl (by decide) rfl (fun ls hl => ?_)
  refine lv_iconst (v := 1) hx hb d_Nd_decode_12 (by decide) ?_
  refine gc_i (wn := fun (_ : Unit) => [oNd a_p0 A_p0 I_p0, gz cI (A_p0 1) 110 f_p0_sizes, gz cI (A_p0 0) 110 f_p0_starts, oSt a_p1 A_p1 I_p1, gz cI (A_p1 0) 900 f_p1_bytes, oDa a_p4 A_p4, gz cI (A_p4 0) 256 f_p4_bytes]) (wr := [oNd a_p0 A_p0 I_p0, gz cI (A_p0 1) 110 f_p0_sizes, gz cI (A_p0 0) 110 f_p0_starts, oSt a_p1 A_p1 I_p1, gz cI (A_p1 0) 900 f_p1_bytes, oDa a_p4 A_p4, gz cI (A_p4 0) 256 f_p4_bytes]) (gr_SN (As := [.int 1]) (rest := []) ⟨hx, hb, hml, hown, hg⟩ (c_X_codeWidth l dC dI cI 1 hw _) ⟨va_cnB (host := "TaggedRaster") 1 hg (gg_B t_570) rfl rfl rfl (hN _ nw_10) (hg _ t_60) (by decide +kernel) ⟨Nat.le_of_ble_eq_true rfl, Nat.le_of_ble_eq_true rfl⟩, hg _ t_569, trivial⟩ hK hN hP hD [] (by decide) rfl rfl hl.1 rfl (Nat.le_of_ble_eq_true rfl) d_Nd_decode_13 ⟨Nat.le_of_ble_eq_true rfl, Nat.le_of_ble_eq_true rfl⟩) rfl rfl hP hD hS hA [] [0, 1, 2, 3, 4, 5, 6] [0, 1, 2, 3, 4, 5, 6] rfl rfl (by decide) (by decide) (by decide) (fun _ => rfl) ?_
  intro r13 _ H locs hw hP hD hS
  try dsimp only at hw
  have hP : va_P (dC, dI) vwCl [oNd a_p0 A_p0 I_p0, gz cI (A_p0 1) 110 f_p0_sizes, gz cI (A_p0 0) 110 f_p0_starts, oSt a_p1 A_p1 I_p1, gz cI (A_p1 0) 900 f_p1_bytes, oDa a_p4 A_p4, gz cI (A_p4 0) 256 f_p4_bytes] H := hP
  have hD : va_D A [oNd a_p0 A_p0 I_p0, gz cI (A_p0 1) 110 f_p0_sizes, gz cI (A_p0 0) 110 f_p0_starts, oSt a_p1 A_p1 I_p1, gz cI (A_p1 0) 900 f_p1_bytes, oDa a_p4 A_p4, gz cI (A_p4 0) 256 f_p4_bytes] := hD
  refine lv_istore (lv' := [(9, .int r13), (8, .int (8 * x2)), (7, .int (2 * x5)), (0, .ref a_p0), (1, .ref a_p1), (2, .int x2), (3, .int x3), (4, .ref a_p4), (5, .int x5), (6, .int x6)]) hx hb d_Nd_decode_16 hl (by decide) rfl (fun ls hl => ?_)
  refine lv_aload_n hx hb d_Nd_decode_18 rfl (lv_at hl 3 rfl) ?_
  refine lv_iconst (v := 0) hx hb d_Nd_decode_19 (by decide) ?_
  refine va_put (D := (dC, dI)) (ci := 4) (v := .int 0) (ty := .int) (C := R_Nd) (T := T_Nd) (N := 3) hx hb hg in_Nd t_Nd tok_Nd nok_Nd hown hK hP hD hS 0 rfl rfl 2 (by decide) (hg _ t_251) (fun _ h9 => h9) rfl (by decide +kernel) rfl rfl (Nat.le_of_ble_eq_true rfl) d_Nd_decode_20 (fun H locs hP hD hS => ?_)
  have hP : va_P (dC, dI) vwCl [oNd a_p0 A_p0 (upd I_p0 2 0), gz cI (A_p0 1) 110 f_p0_sizes, gz cI (A_p0 0) 110 f_p0_starts, oSt a_p1 A_p1 I_p1, gz cI (A_p1 0) 900 f_p1_bytes, oDa a_p4 A_p4, gz cI (A_p4 0) 256 f_p4_bytes] H := hP
  have hD : va_D A [oNd a_p0 A_p0 (upd I_p0 2 0), gz cI (A_p0 1) 110 f_p0_sizes, gz cI (A_p0 0) 110 f_p0_starts, oSt a_p1 A_p1 I_p1, gz cI (A_p1 0) 900 f_p1_bytes, oDa a_p4 A_p4, gz cI (A_p4 0) 256 f_p4_bytes] := hD
  refine lv_iconst (v := 0) hx hb d_Nd_decode_23 (by decide) ?_
  refine lv_istore (lv' := [(10, .int 0), (9, .int r13), (8, .int (8 * x2)), (7, .int (2 * x5)), (0, .ref a_p0), (1, .ref a_p1), (2, .int x2), (3, .int x3), (4, .ref a_p4), (5, .int x5), (6, .int x6)]) hx hb d_Nd_decode_24 hl (by decide) rfl (fun ls hl => ?_)
  obtain ⟨n1, hw⟩ := hw
  exact l26 n1 _ _ _ (upd I_p0 2 0) f_p0_sizes f_p0_starts f_p4_bytes x2 x3 x6 (2 * x5) (8 * x2) r13 0 hP hD hS (lv_sub hl [4, 5, 6, 7, 8, 10, 3, 2, 1, 0] rfl) hw
theorem d_Pk_decode_0 : decode b_Pk_decode 0 = .ok (.iload_n 1, 1) := by decide +kernel
theorem d_Pk_decode_1 : decode b_Pk_decode 1 = .ok (.istore 6, 2) := by decide +kernel
theorem d_Pk_decode_3 : decode b_Pk_decode 3 = .ok (.iload 4, 2) := by decide +kernel
theorem d_Pk_decode_5 : decode b_Pk_decode 5 = .ok (.istore 7, 2) := by decide +kernel
theorem d_Pk_decode_7 : decode b_Pk_decode 7 = .ok (.iload 6, 2) := by decide +kernel
theorem d_Pk_decode_9 : decode b_Pk_decode 9 = .ok (.iload_n 2, 1) := by decide +kernel
theorem d_Pk_decode_10 : decode b_Pk_decode 10 = .ok (.if_icmp .ge 155, 3) := by decide +kernel
theorem d_Pk_decode_13 : decode b_Pk_decode 13 = .ok (.aload_n 0, 1) := by decide +kernel
theorem d_Pk_decode_14 : decode b_Pk_decode 14 = .ok (.getfield 26, 3) := by decide +kernel
theorem d_Pk_decode_17 : decode b_Pk_decode 17 = .ok (.iload 6, 2) := by decide +kernel
theorem d_Pk_decode_19 : decode b_Pk_decode 19 = .ok (.iaload, 1) := by decide +kernel
theorem d_Pk_decode_20 : decode b_Pk_decode 20 = .ok (.istore 8, 2) := by decide +kernel
theorem d_Pk_decode_22 : decode b_Pk_decode 22 = .ok (.iinc 6 1, 3) := by decide +kernel
theorem d_Pk_decode_25 : decode b_Pk_decode 25 = .ok (.iload 8, 2) := by decide +kernel
theorem d_Pk_decode_27 : decode b_Pk_decode 27 = .ok (.sipush 128, 3) := by decide +kernel
theorem d_Pk_decode_30 : decode b_Pk_decode 30 = .ok (.if_icmp .ne 6, 3) := by decide +kernel
theorem d_Pk_decode_33 : decode b_Pk_decode 33 = .ok (.goto (-26), 3) := by decide +kernel
theorem d_Pk_decode_36 : decode b_Pk_decode 36 = .ok (.iload 8, 2) := by decide +kernel
theorem d_Pk_decode_38 : decode b_Pk_decode 38 = .ok (.sipush 128, 3) := by decide +kernel
theorem d_Pk_decode_41 : decode b_Pk_decode 41 = .ok (.if_icmp .le 7, 3) := by decide +kernel
theorem d_Pk_decode_44 : decode b_Pk_decode 44 = .ok (.iconst 1, 1) := by decide +kernel
theorem d_Pk_decode_45 : decode b_Pk_decode 45 = .ok (.goto 4, 3) := by decide +kernel
theorem d_Pk_decode_48 : decode b_Pk_decode 48 = .ok (.iconst 0, 1) := by decide +kernel
theorem d_Pk_decode_49 : decode b_Pk_decode 49 = .ok (.istore 9, 2) := by decide +kernel
theorem d_Pk_decode_51 : decode b_Pk_decode 51 = .ok (.iload 9, 2) := by decide +kernel
theorem d_Pk_decode_53 : decode b_Pk_decode 53 = .ok (.ifCond .eq 12, 3) := by decide +kernel
theorem d_Pk_decode_56 : decode b_Pk_decode 56 = .ok (.sipush 257, 3) := by decide +kernel
theorem d_Pk_decode_59 : decode b_Pk_decode 59 = .ok (.iload 8, 2) := by decide +kernel
theorem d_Pk_decode_61 : decode b_Pk_decode 61 = .ok (.isub, 1) := by decide +kernel
theorem d_Pk_decode_62 : decode b_Pk_decode 62 = .ok (.goto 7, 3) := by decide +kernel
theorem d_Pk_decode_65 : decode b_Pk_decode 65 = .ok (.iload 8, 2) := by decide +kernel
theorem d_Pk_decode_67 : decode b_Pk_decode 67 = .ok (.iconst 1, 1) := by decide +kernel
theorem d_Pk_decode_68 : decode b_Pk_decode 68 = .ok (.iadd, 1) := by decide +kernel
theorem d_Pk_decode_69 : decode b_Pk_decode 69 = .ok (.istore 10, 2) := by decide +kernel
theorem d_Pk_decode_71 : decode b_Pk_decode 71 = .ok (.iload 9, 2) := by decide +kernel
theorem d_Pk_decode_73 : decode b_Pk_decode 73 = .ok (.ifCond .eq 7, 3) := by decide +kernel
theorem d_Pk_decode_76 : decode b_Pk_decode 76 = .ok (.iconst 1, 1) := by decide +kernel
theorem d_Pk_decode_77 : decode b_Pk_decode 77 = .ok (.goto 5, 3) := by decide +kernel
theorem d_Pk_decode_80 : decode b_Pk_decode 80 = .ok (.iload 10, 2) := by decide +kernel
theorem d_Pk_decode_82 : decode b_Pk_decode 82 = .ok (.istore 11, 2) := by decide +kernel
theorem d_Pk_decode_84 : decode b_Pk_decode 84 = .ok (.iload 11, 2) := by decide +kernel
theorem d_Pk_decode_86 : decode b_Pk_decode 86 = .ok (.iload_n 2, 1) := by decide +kernel
theorem d_Pk_decode_87 : decode b_Pk_decode 87 = .ok (.iload 6, 2) := by decide +kernel
theorem d_Pk_decode_89 : decode b_Pk_decode 89 = .ok (.isub, 1) := by decide +kernel
theorem d_Pk_decode_90 : decode b_Pk_decode 90 = .ok (.if_icmp .gt 13, 3) := by decide +kernel
theorem d_Pk_decode_93 : decode b_Pk_decode 93 = .ok (.iload 10, 2) := by decide +kernel
theorem d_Pk_decode_95 : decode b_Pk_decode 95 = .ok (.iload 5, 2) := by decide +kernel
theorem d_Pk_decode_97 : decode b_Pk_decode 97 = .ok (.iload 7, 2) := by decide +kernel
theorem d_Pk_decode_99 : decode b_Pk_decode 99 = .ok (.isub, 1) := by decide +kernel
theorem d_Pk_decode_100 : decode b_Pk_decode 100 = .ok (.if_icmp .le 5, 3) := by decide +kernel
theorem d_Pk_decode_103 : decode b_Pk_decode 103 = .ok (.iconst 0, 1) := by decide +kernel
theorem d_Pk_decode_104 : decode b_Pk_decode 104 = .ok (.ireturn, 1) := by decide +kernel
theorem d_Pk_decode_105 : decode b_Pk_decode 105 = .ok (.iconst 0, 1) := by decide +kernel
theorem d_Pk_decode_106 : decode b_Pk_decode 106 = .ok (.istore 12, 2) := by decide +kernel
theorem d_Pk_decode_108 : decode b_Pk_decode 108 = .ok (.iload 12, 2) := by decide +kernel
theorem d_Pk_decode_110 : decode b_Pk_decode 110 = .ok (.iload 10, 2) := by decide +kernel
theorem d_Pk_decode_112 : decode b_Pk_decode 112 = .ok (.if_icmp .ge 36, 3) := by decide +kernel
theorem d_Pk_decode_115 : decode b_Pk_decode 115 = .ok (.aload_n 3, 1) := by decide +kernel
theorem d_Pk_decode_116 : decode b_Pk_decode 116 = .ok (.iload 7, 2) := by decide +kernel
theorem d_Pk_decode_118 : decode b_Pk_decode 118 = .ok (.iload 12, 2) := by decide +kernel
theorem d_Pk_decode_120 : decode b_Pk_decode 120 = .ok (.iadd, 1) := by decide +kernel
theorem d_Pk_decode_121 : decode b_Pk_decode 121 = .ok (.aload_n 0, 1) := by decide +kernel
theorem d_Pk_decode_122 : decode b_Pk_decode 122 = .ok (.getfield 26, 3) := by decide +kernel
theorem d_Pk_decode_125 : decode b_Pk_decode 125 = .ok (.iload 9, 2) := by decide +kernel
theorem d_Pk_decode_127 : decode b_Pk_decode 127 = .ok (.ifCond .eq 8, 3) := by decide +kernel
theorem d_Pk_decode_130 : decode b_Pk_decode 130 = .ok (.iload 6, 2) := by decide +kernel
theorem d_Pk_decode_132 : decode b_Pk_decode 132 = .ok (.goto 8, 3) := by decide +kernel
theorem d_Pk_decode_135 : decode b_Pk_decode 135 = .ok (.iload 6, 2) := by decide +kernel
theorem d_Pk_decode_137 : decode b_Pk_decode 137 = .ok (.iload 12, 2) := by decide +kernel
theorem d_Pk_decode_139 : decode b_Pk_decode 139 = .ok (.iadd, 1) := by decide +kernel
theorem d_Pk_decode_140 : decode b_Pk_decode 140 = .ok (.iaload, 1) := by decide +kernel
theorem d_Pk_decode_141 : decode b_Pk_decode 141 = .ok (.iastore, 1) := by decide +kernel
theorem d_Pk_decode_142 : decode b_Pk_decode 142 = .ok (.iinc 12 1, 3) := by decide +kernel
theorem d_Pk_decode_145 : decode b_Pk_decode 145 = .ok (.goto (-37), 3) := by decide +kernel
theorem d_Pk_decode_148 : decode b_Pk_decode 148 = .ok (.iload 6, 2) := by decide +kernel
theorem d_Pk_decode_150 : decode b_Pk_decode 150 = .ok (.iload 11, 2) := by decide +kernel
theorem d_Pk_decode_152 : decode b_Pk_decode 152 = .ok (.iadd, 1) := by decide +kernel
theorem d_Pk_decode_153 : decode b_Pk_decode 153 = .ok (.istore 6, 2) := by decide +kernel
theorem d_Pk_decode_155 : decode b_Pk_decode 155 = .ok (.iload 7, 2) := by decide +kernel
theorem d_Pk_decode_157 : decode b_Pk_decode 157 = .ok (.iload 10, 2) := by decide +kernel
theorem d_Pk_decode_159 : decode b_Pk_decode 159 = .ok (.iadd, 1) := by decide +kernel
theorem d_Pk_decode_160 : decode b_Pk_decode 160 = .ok (.istore 7, 2) := by decide +kernel
theorem d_Pk_decode_162 : decode b_Pk_decode 162 = .ok (.goto (-155), 3) := by decide +kernel
theorem d_Pk_decode_165 : decode b_Pk_decode 165 = .ok (.iload 7, 2) := by decide +kernel
theorem d_Pk_decode_167 : decode b_Pk_decode 167 = .ok (.iload 5, 2) := by decide +kernel
theorem d_Pk_decode_169 : decode b_Pk_decode 169 = .ok (.if_icmp .ne 7, 3) := by decide +kernel
theorem d_Pk_decode_172 : decode b_Pk_decode 172 = .ok (.iconst 1, 1) := by decide +kernel
theorem d_Pk_decode_173 : decode b_Pk_decode 173 = .ok (.goto 4, 3) := by decide +kernel
theorem d_Pk_decode_176 : decode b_Pk_decode 176 = .ok (.iconst 0, 1) := by decide +kernel
theorem d_Pk_decode_177 : decode b_Pk_decode 177 = .ok (.ireturn, 1) := by decide +kernel
def wp_Pk_decode_b140 (post : Int32 → (Nat → Int32) → Prop) (k7 : (Nat → Int32) → Int32 → Int32 → Int32 → Int32 → Prop) (k108 : (Nat → Int32) → Int32 → Int32 → Int32 → Int32 → Int32 → Int32 → Int32 → Int32 → Prop) (I_p0 : Nat → Int32) (f_p0_bytes : Nat → Int32) (f_p3 : Nat → Int32) (x2 : Int32) (x5 : Int32) (x6 : Int32) (x7 : Int32) (x9 : Int32) (x10 : Int32) (x11 : Int32) (x12 : Int32) (s0 : Int32) (s2 : Int32) : Prop :=
  vp_in s0 900 ∧
  vp_in s2 256 ∧
  k108 (upd f_p3 (s2).toNatClampNeg (f_p0_bytes (s0).toNatClampNeg)) x2 x5 x6 x7 x9 x10 x11 (x12 + 1)
def wp_Pk_decode_l108 (post : Int32 → (Nat → Int32) → Prop) (k7 : (Nat → Int32) → Int32 → Int32 → Int32 → Int32 → Prop) (I_p0 : Nat → Int32) (f_p0_bytes : Nat → Int32) : Nat → (Nat → Int32) → Int32 → Int32 → Int32 → Int32 → Int32 → Int32 → Int32 → Int32 → Prop
  | 0, _, _, _, _, _, _, _, _, _ => False
  | n + 1, f_p3, x2, x5, x6, x7, x9, x10, x11, x12 =>
    ((x10 ≤ x12 →
      k7 f_p3 x2 x5 (x6 + x11) (x7 + x10)) ∧
     (¬ x10 ≤ x12 →
      ((x9 = 0 →
        wp_Pk_decode_b140 post k7 (wp_Pk_decode_l108 post k7 I_p0 f_p0_bytes n) I_p0 f_p0_bytes f_p3 x2 x5 x6 x7 x9 x10 x11 x12 (x6 + x12) (x7 + x12)) ∧
       (¬ x9 = 0 →
        wp_Pk_decode_b140 post k7 (wp_Pk_decode_l108 post k7 I_p0 f_p0_bytes n) I_p0 f_p0_bytes f_p3 x2 x5 x6 x7 x9 x10 x11 x12 x6 (x7 + x12)))))
def wp_Pk_decode_b82 (post : Int32 → (Nat → Int32) → Prop) (k7 : (Nat → Int32) → Int32 → Int32 → Int32 → Int32 → Prop) (I_p0 : Nat → Int32) (f_p0_bytes : Nat → Int32) (f_p3 : Nat → Int32) (x2 : Int32) (x5 : Int32) (x6 : Int32) (x7 : Int32) (x9 : Int32) (x10 : Int32) (s0 : Int32) : Prop :=
  (((x2 - x6) < s0 →
    post 0 f_p3) ∧
   (¬ (x2 - x6) < s0 →
    ((x10 ≤ (x5 - x7) →
      (∃ n1 : Nat, wp_Pk_decode_l108 post k7 I_p0 f_p0_bytes n1 f_p3 x2 x5 x6 x7 x9 x10 s0 0)) ∧
     (¬ x10 ≤ (x5 - x7) →
      post 0 f_p3))))
def wp_Pk_decode_b69 (post : Int32 → (Nat → Int32) → Prop) (k7 : (Nat → Int32) → Int32 → Int32 → Int32 → Int32 → Prop) (I_p0 : Nat → Int32) (f_p0_bytes : Nat → Int32) (f_p3 : Nat → Int32) (x2 : Int32) (x5 : Int32) (x6 : Int32) (x7 : Int32) (x9 : Int32) (s0 : Int32) : Prop :=
  ((x9 = 0 →
    wp_Pk_decode_b82 post k7 I_p0 f_p0_bytes f_p3 x2 x5 x6 x7 x9 s0 s0) ∧
   (¬ x9 = 0 →
    wp_Pk_decode_b82 post k7 I_p0 f_p0_bytes f_p3 x2 x5 x6 x7 x9 s0 1))
def wp_Pk_decode_b49 (post : Int32 → (Nat → Int32) → Prop) (k7 : (Nat → Int32) → Int32 → Int32 → Int32 → Int32 → Prop) (I_p0 : Nat → Int32) (f_p0_bytes : Nat → Int32) (f_p3 : Nat → Int32) (x2 : Int32) (x5 : Int32) (x6 : Int32) (x7 : Int32) (x8 : Int32) (s0 : Int32) : Prop :=
  ((s0 = 0 →
    wp_Pk_decode_b69 post k7 I_p0 f_p0_bytes f_p3 x2 x5 x6 x7 s0 (x8 + 1)) ∧
   (¬ s0 = 0 →
    wp_Pk_decode_b69 post k7 I_p0 f_p0_bytes f_p3 x2 x5 x6 x7 s0 (257 - x8)))
def wp_Pk_decode_l7 (post : Int32 → (Nat → Int32) → Prop) (I_p0 : Nat → Int32) (f_p0_bytes : Nat → Int32) : Nat → (Nat → Int32) → Int32 → Int32 → Int32 → Int32 → Prop
  | 0, _, _, _, _, _ => False
  | n + 1, f_p3, x2, x5, x6, x7 =>
    ((x2 ≤ x6 →
      ((x7 = x5 →
        post 1 f_p3) ∧
       (¬ x7 = x5 →
        post 0 f_p3))) ∧
     (¬ x2 ≤ x6 →
      vp_in x6 900 ∧
      (((f_p0_bytes (x6).toNatClampNeg) = 128 →
        wp_Pk_decode_l7 post I_p0 f_p0_bytes n f_p3 x2 x5 (x6 + 1) x7) ∧
       (¬ (f_p0_bytes (x6).toNatClampNeg) = 128 →
        (((f_p0_bytes (x6).toNatClampNeg) ≤ 128 →
          wp_Pk_decode_b49 post (wp_Pk_decode_l7 post I_p0 f_p0_bytes n) I_p0 f_p0_bytes f_p3 x2 x5 (x6 + 1) x7 (f_p0_bytes (x6).toNatClampNeg) 0) ∧
         (¬ (f_p0_bytes (x6).toNatClampNeg) ≤ 128 →
          wp_Pk_decode_b49 post (wp_Pk_decode_l7 post I_p0 f_p0_bytes n) I_p0 f_p0_bytes f_p3 x2 x5 (x6 + 1) x7 (f_p0_bytes (x6).toNatClampNeg) 1))))))
def wp_Pk_decode (post : Int32 → (Nat → Int32) → Prop) (I_p0 : Nat → Int32) (f_p0_bytes : Nat → Int32) (f_p3 : Nat → Int32) (x1 : Int32) (x2 : Int32) (x4 : Int32) (x5 : Int32) : Prop :=
  (∃ n1 : Nat, wp_Pk_decode_l7 post I_p0 f_p0_bytes n1 f_p3 x2 x5 x1 x4)
set_option maxRecDepth 100000 in
set_option maxHeartbeats 4000000 in
theorem c_Pk_decode (l : Launch) (dC : Nat → ClassId) (dI : Nat → Nat → Nat) (cI : ClassId) (a_p0 : Nat) (a_p3 : Nat) (A_p0 : Nat → Nat) (I_p0 : Nat → Int32) (f_p0_bytes : Nat → Int32) (f_p3 : Nat → Int32) (x1 : Int32) (x2 : Int32) (x4 : Int32) (x5 : Int32) {post : Int32 → (Nat → Int32) → Prop} (hw : wp_Pk_decode post I_p0 f_p0_bytes f_p3 x1 x2 x4 x5) : gm_i l y_Pk_decode ws_Pk_decode ({ frames := 0, cells := 0, slots := 0, locals := 0 } : Room) (dC, dI) vwCl [(cI, .int)] [.ref a_p0, .int x1, .int x2, .ref a_p3, .int x4, .int x5] [oSt a_p0 A_p0 I_p0, gz cI (A_p0 0) 900 f_p0_bytes, gz cI a_p3 256 f_p3] (fun (u : (Nat → Int32)) => [oSt a_p0 A_p0 I_p0, gz cI (A_p0 0) 900 f_p0_bytes, gz cI a_p3 256 u]) (fun (r : Int32) (u : (Nat → Int32)) => post r u) := by
  refine gm_iof (cc := b_Pk_decode) (maxL := 13) (ty := .boolean) (by decide) rfl (Nat.le_of_ble_eq_true rfl) ?_
  intro p e s m args below meth c A Q hx hb hml hown hg hK hN hA hret
  have hown : s.vm.findClass R_Pk = some m.cls := hown
  have b140 : ∀ (k7 : (Nat → Int32) → Int32 → Int32 → Int32 → Int32 → Prop), (∀ (H : Heap) (locs : List Loc) (ls : Array Slot) (f_p3 : Nat → Int32) (x2 : Int32) (x5 : Int32) (x6 : Int32) (x7 : Int32), va_P (dC, dI) vwCl [oSt a_p0 A_p0 I_p0, gz cI (A_p0 0) 900 f_p0_bytes, gz cI a_p3 256 f_p3] H → va_D A [oSt a_p0 A_p0 I_p0, gz cI (A_p0 0) 900 f_p0_bytes, gz cI a_p3 256 f_p3] → va_S A s.heap H locs → lv_has ls 13 [(0, .ref a_p0), (2, .int x2), (3, .ref a_p3), (5, .int x5), (6, .int x6), (7, .int x7)] → k7 f_p3 x2 x5 x6 x7 → W p l e ({ frames := 0, cells := 0, slots := 0, locals := 0 } : Room) s m args below meth c H locs 0 0 Q (F0 m 7 ls [])) → ∀ (k108 : (Nat → Int32) → Int32 → Int32 → Int32 → Int32 → Int32 → Int32 → Int32 → Int32 → Prop), (∀ (H : Heap) (locs : List Loc) (ls : Array Slot) (f_p3 : Nat → Int32) (x2 : Int32) (x5 : Int32) (x6 : Int32) (x7 : Int32) (x9 : Int32) (x10 : Int32) (x11 : Int32) (x12 : Int32), va_P (dC, dI) vwCl [oSt a_p0 A_p0 I_p0, gz cI (A_p0 0) 900 f_p0_bytes, gz cI a_p3 256 f_p3] H → va_D A [oSt a_p0 A_p0 I_p0, gz cI (A_p0 0) 900 f_p0_bytes, gz cI a_p3 256 f_p3] → va_S A s.heap H locs → lv_has ls 13 [(0, .ref a_p0), (2, .int x2), (3, .ref a_p3), (5, .int x5), (6, .int x6), (7, .int x7), (9, .int x9), (10, .int x10), (11, .int x11), (12, .int x12)] → k108 f_p3 x2 x5 x6 x7 x9 x10 x11 x12 → W p l e ({ frames := 0, cells := 0, slots := 0, locals := 0 } : Room) s m args below meth c H locs 0 0 Q (F0 m 108 ls [])) → ∀ (H : Heap) (locs : List Loc) (ls : Array Slot) (f_p3 : Nat → Int32) (x2 : Int32) (x5 : Int32) (x6 : Int32) (x7 : Int32) (x9 : Int32) (x10 : Int32) (x11 : Int32) (x12 : Int32) (s0 : Int32) (s2 : Int32), va_P (dC, dI) vwCl [oSt a_p0 A_p0 I_p0, gz cI (A_p0 0) 900 f_p0_bytes, gz cI a_p3 256 f_p3] H → va_D A [oSt a_p0 A_p0 I_p0, gz cI (A_p0 0) 900 f_p0_bytes, gz cI a_p3 256 f_p3] → va_S A s.heap H locs → lv_has ls 13 [(0, .ref a_p0), (2, .int x2), (3, .ref a_p3), (5, .int x5), (6, .int x6), (7, .int x7), (9, .int x9), (10, .int x10), (11, .int x11), (12, .int x12)] → wp_Pk_decode_b140 post k7 k108 I_p0 f_p0_bytes f_p3 x2 x5 x6 x7 x9 x10 x11 x12 s0 s2 → W p l e ({ frames := 0, cells := 0, slots := 0, locals := 0 } : Room) s m args below meth c H locs 0 0 Q (F0 m 140 ls [.int s0, .ref (A_p0 0), .int s2, .ref a_p3]) := by
    intro k7 hk7 k108 hk108 H locs ls f_p3 x2 x5 x6 x7 x9 x10 x11 x12 s0 s2 hP hD hS hl hw
    unfold wp_Pk_decode_b140 at hw
    obtain ⟨hin, hw⟩ := hw
    refine va_iald hx hb hK hP 1 0 rfl rfl hin d_Pk_decode_140 ?_
    obtain ⟨hin, hw⟩ := hw
    refine va_iast hx hb hK hP hD hS 2 0 rfl rfl hin d_Pk_decode_141 (fun H locs hP hD hS => ?_)
    have hP : va_P (dC, dI) vwCl [oSt a_p0 A_p0 I_p0, gz cI (A_p0 0) 900 f_p0_bytes, gz cI a_p3 256 (upd f_p3 (s2).toNatClampNeg (f_p0_bytes (s0).toNatClampNeg))] H := hP
    have hD : va_D A [oSt a_p0 A_p0 I_p0, gz cI (A_p0 0) 900 f_p0_bytes, gz cI a_p3 256 (upd f_p3 (s2).toNatClampNeg (f_p0_bytes (s0).toNatClampNeg))] := hD
    refine lv_iinc (k := 9) (v := (x12 + 1)) (lv' := [(12, .int (x12 + 1)), (0, .ref a_p0), (2, .int x2), (3, .ref a_p3), (5, .int x5), (6, .int x6), (7, .int x7), (9, .int x9), (10, .int x10), (11, .int x11)]) hx hb d_Pk_decode_142 hl rfl (congrArg (fun z => x12 + z) (by decide : Int32.ofInt 1 = 1)) (by decide) rfl (fun ls hl => ?_)
    refine lv_goto hx hb d_Pk_decode_145 rfl ?_
    exact hk108 _ _ _ (upd f_p3 (s2).toNatClampNeg (f_p0_bytes (s0).toNatClampNeg)) x2 x5 x6 x7 x9 x10 x11 (x12 + 1) hP hD hS (lv_sub hl [1, 2, 3, 4, 5, 6, 7, 8, 9, 0] rfl) hw
  have l108 : ∀ (k7 : (Nat → Int32) → Int32 → Int32 → Int32 → Int32 → Prop), (∀ (H : Heap) (locs : List Loc) (ls : Array Slot) (f_p3 : Nat → Int32) (x2 : Int32) (x5 : Int32) (x6 : Int32) (x7 : Int32), va_P (dC, dI) vwCl [oSt a_p0 A_p0 I_p0, gz cI (A_p0 0) 900 f_p0_bytes, gz cI a_p3 256 f_p3] H → va_D A [oSt a_p0 A_p0 I_p0, gz cI (A_p0 0) 900 f_p0_bytes, gz cI a_p3 256 f_p3] → va_S A s.heap H locs → lv_has ls 13 [(0, .ref a_p0), (2, .int x2), (3, .ref a_p3), (5, .int x5), (6, .int x6), (7, .int x7)] → k7 f_p3 x2 x5 x6 x7 → W p l e ({ frames := 0, cells := 0, slots := 0, locals := 0 } : Room) s m args below meth c H locs 0 0 Q (F0 m 7 ls [])) → ∀ n : Nat, ∀ (H : Heap) (locs : List Loc) (ls : Array Slot) (f_p3 : Nat → Int32) (x2 : Int32) (x5 : Int32) (x6 : Int32) (x7 : Int32) (x9 : Int32) (x10 : Int32) (x11 : Int32) (x12 : Int32), va_P (dC, dI) vwCl [oSt a_p0 A_p0 I_p0, gz cI (A_p0 0) 900 f_p0_bytes, gz cI a_p3 256 f_p3] H → va_D A [oSt a_p0 A_p0 I_p0, gz cI (A_p0 0) 900 f_p0_bytes, gz cI a_p3 256 f_p3] → va_S A s.heap H locs → lv_has ls 13 [(0, .ref a_p0), (2, .int x2), (3, .ref a_p3), (5, .int x5), (6, .int x6), (7, .int x7), (9, .int x9), (10, .int x10), (11, .int x11), (12, .int x12)] → wp_Pk_decode_l108 post k7 I_p0 f_p0_bytes n f_p3 x2 x5 x6 x7 x9 x10 x11 x12 → W p l e ({ frames := 0, cells := 0, slots := 0, locals := 0 } : Room) s m args below meth c H locs 0 0 Q (F0 m 108 ls []) := by
    intro k7 hk7 n
    induction n with
    | zero => intro H locs ls f_p3 x2 x5 x6 x7 x9 x10 x11 x12 hP hD hS hl hw; exact hw.elim
    | succ n ih =>
      intro H locs ls f_p3 x2 x5 x6 x7 x9 x10 x11 x12 hP hD hS hl hw
      unfold wp_Pk_decode_l108 at hw
      refine lv_iload hx hb d_Pk_decode_108 (lv_at hl 9 rfl) ?_
      refine lv_iload hx hb d_Pk_decode_110 (lv_at hl 7 rfl) ?_
      refine lv_icmp_ge hx hb d_Pk_decode_112 rfl (fun hc => ?_) (fun hc => ?_)
      · have hw := hw.1 hc
        refine lv_iload hx hb d_Pk_decode_148 (lv_at hl 4 rfl) ?_
        refine lv_iload hx hb d_Pk_decode_150 (lv_at hl 8 rfl) ?_
        refine lv_iadd hx hb d_Pk_decode_152 ?_
        refine lv_istore (lv' := [(6, .int (x6 + x11)), (0, .ref a_p0), (2, .int x2), (3, .ref a_p3), (5, .int x5), (7, .int x7), (9, .int x9), (10, .int x10), (11, .int x11), (12, .int x12)]) hx hb d_Pk_decode_153 hl (by decide) rfl (fun ls hl => ?_)
        refine lv_iload hx hb d_Pk_decode_155 (lv_at hl 5 rfl) ?_
        refine lv_iload hx hb d_Pk_decode_157 (lv_at hl 7 rfl) ?_
        refine lv_iadd hx hb d_Pk_decode_159 ?_
        refine lv_istore (lv' := [(7, .int (x7 + x10)), (6, .int (x6 + x11)), (0, .ref a_p0), (2, .int x2), (3, .ref a_p3), (5, .int x5), (9, .int x9), (10, .int x10), (11, .int x11), (12, .int x12)]) hx hb d_Pk_decode_160 hl (by decide) rfl (fun ls hl => ?_)
        refine lv_goto hx hb d_Pk_decode_162 rfl ?_
        exact hk7 _ _ _ f_p3 x2 x5 (x6 + x11) (x7 + x10) hP hD hS (lv_sub hl [2, 3, 4, 5, 1, 0] rfl) hw
      · have hw := hw.2 hc
        refine lv_aload_n hx hb d_Pk_decode_115 rfl (lv_at hl 2 rfl) ?_
        refine lv_iload hx hb d_Pk_decode_116 (lv_at hl 5 rfl) ?_
        refine lv_iload hx hb d_Pk_decode_118 (lv_at hl 9 rfl) ?_
        refine lv_iadd hx hb d_Pk_decode_120 ?_
        refine lv_aload_n hx hb d_Pk_decode_121 rfl (lv_at hl 0 rfl) ?_
        refine va_get (D := (dC, dI)) (ci := 7) (v := .ref (A_p0 0)) (C := R_St) (T := T_St) (N := 3) hx hb hg in_St hown hK hP 0 rfl rfl 0 (by decide) (hg _ t_92) (fun _ h9 => h9) rfl d_Pk_decode_122 ?_
        refine lv_iload hx hb d_Pk_decode_125 (lv_at hl 6 rfl) ?_
        refine lv_if_eq hx hb d_Pk_decode_127 rfl (fun hc => ?_) (fun hc => ?_)
        · have hw := hw.1 hc
          refine lv_iload hx hb d_Pk_decode_135 (lv_at hl 4 rfl) ?_
          refine lv_iload hx hb d_Pk_decode_137 (lv_at hl 9 rfl) ?_
          refine lv_iadd hx hb d_Pk_decode_139 ?_
          exact b140 _ hk7 _ ih _ _ _ f_p3 x2 x5 x6 x7 x9 x10 x11 x12 (x6 + x12) (x7 + x12) hP hD hS (lv_sub hl [0, 1, 2, 3, 4, 5, 6, 7, 8, 9] rfl) hw
        · have hw := hw.2 hc
          refine lv_iload hx hb d_Pk_decode_130 (lv_at hl 4 rfl) ?_
          refine lv_goto hx hb d_Pk_decode_132 rfl ?_
          exact b140 _ hk7 _ ih _ _ _ f_p3 x2 x5 x6 x7 x9 x10 x11 x12 x6 (x7 + x12) hP hD hS (lv_sub hl [0, 1, 2, 3, 4, 5, 6, 7, 8, 9] rfl) hw
  have b82 : ∀ (k7 : (Nat → Int32) → Int32 → Int32 → Int32 → Int32 → Prop), (∀ (H : Heap) (locs : List Loc) (ls : Array Slot) (f_p3 : Nat → Int32) (x2 : Int32) (x5 : Int32) (x6 : Int32) (x7 : Int32), va_P (dC, dI) vwCl [oSt a_p0 A_p0 I_p0, gz cI (A_p0 0) 900 f_p0_bytes, gz cI a_p3 256 f_p3] H → va_D A [oSt a_p0 A_p0 I_p0, gz cI (A_p0 0) 900 f_p0_bytes, gz cI a_p3 256 f_p3] → va_S A s.heap H locs → lv_has ls 13 [(0, .ref a_p0), (2, .int x2), (3, .ref a_p3), (5, .int x5), (6, .int x6), (7, .int x7)] → k7 f_p3 x2 x5 x6 x7 → W p l e ({ frames := 0, cells := 0, slots := 0, locals := 0 } : Room) s m args below meth c H locs 0 0 Q (F0 m 7 ls [])) → ∀ (H : Heap) (locs : List Loc) (ls : Array Slot) (f_p3 : Nat → Int32) (x2 : Int32) (x5 : Int32) (x6 : Int32) (x7 : Int32) (x9 : Int32) (x10 : Int32) (s0 : Int32), va_P (dC, dI) vwCl [oSt a_p0 A_p0 I_p0, gz cI (A_p0 0) 900 f_p0_bytes, gz cI a_p3 256 f_p3] H → va_D A [oSt a_p0 A_p0 I_p0, gz cI (A_p0 0) 900 f_p0_bytes, gz cI a_p3 256 f_p3] → va_S A s.heap H locs → lv_has ls 13 [(0, .ref a_p0), (2, .int x2), (3, .ref a_p3), (5, .int x5), (6, .int x6), (7, .int x7), (9, .int x9), (10, .int x10)] → wp_Pk_decode_b82 post k7 I_p0 f_p0_bytes f_p3 x2 x5 x6 x7 x9 x10 s0 → W p l e ({ frames := 0, cells := 0, slots := 0, locals := 0 } : Room) s m args below meth c H locs 0 0 Q (F0 m 82 ls [.int s0]) := by
    intro k7 hk7 H locs ls f_p3 x2 x5 x6 x7 x9 x10 s0 hP hD hS hl hw
    unfold wp_Pk_decode_b82 at hw
    refine lv_istore (lv' := [(11, .int s0), (0, .ref a_p0), (2, .int x2), (3, .ref a_p3), (5, .int x5), (6, .int x6), (7, .int x7), (9, .int x9), (10, .int x10)]) hx hb d_Pk_decode_82 hl (by decide) rfl (fun ls hl => ?_)
    refine lv_iload hx hb d_Pk_decode_84 (lv_at hl 0 rfl) ?_
    refine lv_iload_n hx hb d_Pk_decode_86 rfl (lv_at hl 2 rfl) ?_
    refine lv_iload hx hb d_Pk_decode_87 (lv_at hl 5 rfl) ?_
    refine lv_isub hx hb d_Pk_decode_89 ?_
    refine lv_icmp_gt hx hb d_Pk_decode_90 rfl (fun hc => ?_) (fun hc => ?_)
    · have hw := hw.1 hc
      refine lv_iconst (v := 0) hx hb d_Pk_decode_103 (by decide) ?_
      exact hret _ _ _ _ _ f_p3 d_Pk_decode_104 rfl hP hD hS hw
    · have hw := hw.2 hc
      refine lv_iload hx hb d_Pk_decode_93 (lv_at hl 8 rfl) ?_
      refine lv_iload hx hb d_Pk_decode_95 (lv_at hl 4 rfl) ?_
      refine lv_iload hx hb d_Pk_decode_97 (lv_at hl 6 rfl) ?_
      refine lv_isub hx hb d_Pk_decode_99 ?_
      refine lv_icmp_le hx hb d_Pk_decode_100 rfl (fun hc => ?_) (fun hc => ?_)
      · have hw := hw.1 hc
        refine lv_iconst (v := 0) hx hb d_Pk_decode_105 (by decide) ?_
        refine lv_istore (lv' := [(12, .int 0), (11, .int s0), (0, .ref a_p0), (2, .int x2), (3, .ref a_p3), (5, .int x5), (6, .int x6), (7, .int x7), (9, .int x9), (10, .int x10)]) hx hb d_Pk_decode_106 hl (by decide) rfl (fun ls hl => ?_)
        obtain ⟨n1, hw⟩ := hw
        exact l108 _ hk7 n1 _ _ _ f_p3 x2 x5 x6 x7 x9 x10 s0 0 hP hD hS (lv_sub hl [2, 3, 4, 5, 6, 7, 8, 9, 1, 0] rfl) hw
      · have hw := hw.2 hc
        refine lv_iconst (v := 0) hx hb d_Pk_decode_103 (by decide) ?_
        exact hret _ _ _ _ _ f_p3 d_Pk_decode_104 rfl hP hD hS hw
  have b69 : ∀ (k7 : (Nat → Int32) → Int32 → Int32 → Int32 → Int32 → Prop), (∀ (H : Heap) (locs : List Loc) (ls : Array Slot) (f_p3 : Nat → Int32) (x2 : Int32) (x5 : Int32) (x6 : Int32) (x7 : Int32), va_P (dC, dI) vwCl [oSt a_p0 A_p0 I_p0, gz cI (A_p0 0) 900 f_p0_bytes, gz cI a_p3 256 f_p3] H → va_D A [oSt a_p0 A_p0 I_p0, gz cI (A_p0 0) 900 f_p0_bytes, gz cI a_p3 256 f_p3] → va_S A s.heap H locs → lv_has ls 13 [(0, .ref a_p0), (2, .int x2), (3, .ref a_p3), (5, .int x5), (6, .int x6), (7, .int x7)] → k7 f_p3 x2 x5 x6 x7 → W p l e ({ frames := 0, cells := 0, slots := 0, locals := 0 } : Room) s m args below meth c H locs 0 0 Q (F0 m 7 ls [])) → ∀ (H : Heap) (locs : List Loc) (ls : Array Slot) (f_p3 : Nat → Int32) (x2 : Int32) (x5 : Int32) (x6 : Int32) (x7 : Int32) (x9 : Int32) (s0 : Int32), va_P (dC, dI) vwCl [oSt a_p0 A_p0 I_p0, gz cI (A_p0 0) 900 f_p0_bytes, gz cI a_p3 256 f_p3] H → va_D A [oSt a_p0 A_p0 I_p0, gz cI (A_p0 0) 900 f_p0_bytes, gz cI a_p3 256 f_p3] → va_S A s.heap H locs → lv_has ls 13 [(0, .ref a_p0), (2, .int x2), (3, .ref a_p3), (5, .int x5), (6, .int x6), (7, .int x7), (9, .int x9)] → wp_Pk_decode_b69 post k7 I_p0 f_p0_bytes f_p3 x2 x5 x6 x7 x9 s0 → W p l e ({ frames := 0, cells := 0, slots := 0, locals := 0 } : Room) s m args below meth c H locs 0 0 Q (F0 m 69 ls [.int s0]) := by
    intro k7 hk7 H locs ls f_p3 x2 x5 x6 x7 x9 s0 hP hD hS hl hw
    unfold wp_Pk_decode_b69 at hw
    refine lv_istore (lv' := [(10, .int s0), (0, .ref a_p0), (2, .int x2), (3, .ref a_p3), (5, .int x5), (6, .int x6), (7, .int x7), (9, .int x9)]) hx hb d_Pk_decode_69 hl (by decide) rfl (fun ls hl => ?_)
    refine lv_iload hx hb d_Pk_decode_71 (lv_at hl 7 rfl) ?_
    refine lv_if_eq hx hb d_Pk_decode_73 rfl (fun hc => ?_) (fun hc => ?_)
    · have hw := hw.1 hc
      refine lv_iload hx hb d_Pk_decode_80 (lv_at hl 0 rfl) ?_
      exact b82 _ hk7 _ _ _ f_p3 x2 x5 x6 x7 x9 s0 s0 hP hD hS (lv_sub hl [1, 2, 3, 4, 5, 6, 7, 0] rfl) hw
    · have hw := hw.2 hc
      refine lv_iconst (v := 1) hx hb d_Pk_decode_76 (by decide) ?_
      refine lv_goto hx hb d_Pk_decode_77 rfl ?_
      exact b82 _ hk7 _ _ _ f_p3 x2 x5 x6 x7 x9 s0 1 hP hD hS (lv_sub hl [1, 2, 3, 4, 5, 6, 7, 0] rfl) hw
  have b49 : ∀ (k7 : (Nat → Int32) → Int32 → Int32 → Int32 → Int32 → Prop), (∀ (H : Heap) (locs : List Loc) (ls : Array Slot) (f_p3 : Nat → Int32) (x2 : Int32) (x5 : Int32) (x6 : Int32) (x7 : Int32), va_P (dC, dI) vwCl [oSt a_p0 A_p0 I_p0, gz cI (A_p0 0) 900 f_p0_bytes, gz cI a_p3 256 f_p3] H → va_D A [oSt a_p0 A_p0 I_p0, gz cI (A_p0 0) 900 f_p0_bytes, gz cI a_p3 256 f_p3] → va_S A s.heap H locs → lv_has ls 13 [(0, .ref a_p0), (2, .int x2), (3, .ref a_p3), (5, .int x5), (6, .int x6), (7, .int x7)] → k7 f_p3 x2 x5 x6 x7 → W p l e ({ frames := 0, cells := 0, slots := 0, locals := 0 } : Room) s m args below meth c H locs 0 0 Q (F0 m 7 ls [])) → ∀ (H : Heap) (locs : List Loc) (ls : Array Slot) (f_p3 : Nat → Int32) (x2 : Int32) (x5 : Int32) (x6 : Int32) (x7 : Int32) (x8 : Int32) (s0 : Int32), va_P (dC, dI) vwCl [oSt a_p0 A_p0 I_p0, gz cI (A_p0 0) 900 f_p0_bytes, gz cI a_p3 256 f_p3] H → va_D A [oSt a_p0 A_p0 I_p0, gz cI (A_p0 0) 900 f_p0_bytes, gz cI a_p3 256 f_p3] → va_S A s.heap H locs → lv_has ls 13 [(0, .ref a_p0), (2, .int x2), (3, .ref a_p3), (5, .int x5), (6, .int x6), (7, .int x7), (8, .int x8)] → wp_Pk_decode_b49 post k7 I_p0 f_p0_bytes f_p3 x2 x5 x6 x7 x8 s0 → W p l e ({ frames := 0, cells := 0, slots := 0, locals := 0 } : Room) s m args below meth c H locs 0 0 Q (F0 m 49 ls [.int s0]) := by
    intro k7 hk7 H locs ls f_p3 x2 x5 x6 x7 x8 s0 hP hD hS hl hw
    unfold wp_Pk_decode_b49 at hw
    refine lv_istore (lv' := [(9, .int s0), (0, .ref a_p0), (2, .int x2), (3, .ref a_p3), (5, .int x5), (6, .int x6), (7, .int x7), (8, .int x8)]) hx hb d_Pk_decode_49 hl (by decide) rfl (fun ls hl => ?_)
    refine lv_iload hx hb d_Pk_decode_51 (lv_at hl 0 rfl) ?_
    refine lv_if_eq hx hb d_Pk_decode_53 rfl (fun hc => ?_) (fun hc => ?_)
    · have hw := hw.1 hc
      refine lv_iload hx hb d_Pk_decode_65 (lv_at hl 7 rfl) ?_
      refine lv_iconst (v := 1) hx hb d_Pk_decode_67 (by decide) ?_
      refine lv_iadd hx hb d_Pk_decode_68 ?_
      exact b69 _ hk7 _ _ _ f_p3 x2 x5 x6 x7 s0 (x8 + 1) hP hD hS (lv_sub hl [1, 2, 3, 4, 5, 6, 0] rfl) hw
    · have hw := hw.2 hc
      refine lv_sipush (v := 257) hx hb d_Pk_decode_56 (by decide) ?_
      refine lv_iload hx hb d_Pk_decode_59 (lv_at hl 7 rfl) ?_
      refine lv_isub hx hb d_Pk_decode_61 ?_
      refine lv_goto hx hb d_Pk_decode_62 rfl ?_
      exact b69 _ hk7 _ _ _ f_p3 x2 x5 x6 x7 s0 (257 - x8) hP hD hS (lv_sub hl [1, 2, 3, 4, 5, 6, 0] rfl) hw
  have l7 : ∀ n : Nat, ∀ (H : Heap) (locs : List Loc) (ls : Array Slot) (f_p3 : Nat → Int32) (x2 : Int32) (x5 : Int32) (x6 : Int32) (x7 : Int32), va_P (dC, dI) vwCl [oSt a_p0 A_p0 I_p0, gz cI (A_p0 0) 900 f_p0_bytes, gz cI a_p3 256 f_p3] H → va_D A [oSt a_p0 A_p0 I_p0, gz cI (A_p0 0) 900 f_p0_bytes, gz cI a_p3 256 f_p3] → va_S A s.heap H locs → lv_has ls 13 [(0, .ref a_p0), (2, .int x2), (3, .ref a_p3), (5, .int x5), (6, .int x6), (7, .int x7)] → wp_Pk_decode_l7 post I_p0 f_p0_bytes n f_p3 x2 x5 x6 x7 → W p l e ({ frames := 0, cells := 0, slots := 0, locals := 0 } : Room) s m args below meth c H locs 0 0 Q (F0 m 7 ls []) := by
    intro n
    induction n with
    | zero => intro H locs ls f_p3 x2 x5 x6 x7 hP hD hS hl hw; exact hw.elim
    | succ n ih =>
      intro H locs ls f_p3 x2 x5 x6 x7 hP hD hS hl hw
      unfold wp_Pk_decode_l7 at hw
      refine lv_iload hx hb d_Pk_decode_7 (lv_at hl 4 rfl) ?_
      refine lv_iload_n hx hb d_Pk_decode_9 rfl (lv_at hl 1 rfl) ?_
      refine lv_icmp_ge hx hb d_Pk_decode_10 rfl (fun hc => ?_) (fun hc => ?_)
      · have hw := hw.1 hc
        refine lv_iload hx hb d_Pk_decode_165 (lv_at hl 5 rfl) ?_
        refine lv_iload hx hb d_Pk_decode_167 (lv_at hl 3 rfl) ?_
        refine lv_icmp_ne hx hb d_Pk_decode_169 rfl (fun hc => ?_) (fun hc => ?_)
        · have hw := hw.2 hc
          refine lv_iconst (v := 0) hx hb d_Pk_decode_176 (by decide) ?_
          exact hret _ _ _ _ _ f_p3 d_Pk_decode_177 rfl hP hD hS hw
        · have hw := hw.1 hc
          refine lv_iconst (v := 1) hx hb d_Pk_decode_172 (by decide) ?_
          refine lv_goto hx hb d_Pk_decode_173 rfl ?_
          exact hret _ _ _ _ _ f_p3 d_Pk_decode_177 rfl hP hD hS hw
      · have hw := hw.2 hc
        refine lv_aload_n hx hb d_Pk_decode_13 rfl (lv_at hl 0 rfl) ?_
        refine va_get (D := (dC, dI)) (ci := 7) (v := .ref (A_p0 0)) (C := R_St) (T := T_St) (N := 3) hx hb hg in_St hown hK hP 0 rfl rfl 0 (by decide) (hg _ t_92) (fun _ h9 => h9) rfl d_Pk_decode_14 ?_
        refine lv_iload hx hb d_Pk_decode_17 (lv_at hl 4 rfl) ?_
        obtain ⟨hin, hw⟩ := hw
        refine va_iald hx hb hK hP 1 0 rfl rfl hin d_Pk_decode_19 ?_
        refine lv_istore (lv' := [(8, .int (f_p0_bytes (x6).toNatClampNeg)), (0, .ref a_p0), (2, .int x2), (3, .ref a_p3), (5, .int x5), (6, .int x6), (7, .int x7)]) hx hb d_Pk_decode_20 hl (by decide) rfl (fun ls hl => ?_)
        refine lv_iinc (k := 5) (v := (x6 + 1)) (lv' := [(6, .int (x6 + 1)), (8, .int (f_p0_bytes (x6).toNatClampNeg)), (0, .ref a_p0), (2, .int x2), (3, .ref a_p3), (5, .int x5), (7, .int x7)]) hx hb d_Pk_decode_22 hl rfl (congrArg (fun z => x6 + z) (by decide : Int32.ofInt 1 = 1)) (by decide) rfl (fun ls hl => ?_)
        refine lv_iload hx hb d_Pk_decode_25 (lv_at hl 1 rfl) ?_
        refine lv_sipush (v := 128) hx hb d_Pk_decode_27 (by decide) ?_
        refine lv_icmp_ne hx hb d_Pk_decode_30 rfl (fun hc => ?_) (fun hc => ?_)
        · have hw := hw.2 hc
          refine lv_iload hx hb d_Pk_decode_36 (lv_at hl 1 rfl) ?_
          refine lv_sipush (v := 128) hx hb d_Pk_decode_38 (by decide) ?_
          refine lv_icmp_le hx hb d_Pk_decode_41 rfl (fun hc => ?_) (fun hc => ?_)
          · have hw := hw.1 hc
            refine lv_iconst (v := 0) hx hb d_Pk_decode_48 (by decide) ?_
            exact b49 _ ih _ _ _ f_p3 x2 x5 (x6 + 1) x7 (f_p0_bytes (x6).toNatClampNeg) 0 hP hD hS (lv_sub hl [2, 3, 4, 5, 0, 6, 1] rfl) hw
          · have hw := hw.2 hc
            refine lv_iconst (v := 1) hx hb d_Pk_decode_44 (by decide) ?_
            refine lv_goto hx hb d_Pk_decode_45 rfl ?_
            exact b49 _ ih _ _ _ f_p3 x2 x5 (x6 + 1) x7 (f_p0_bytes (x6).toNatClampNeg) 1 hP hD hS (lv_sub hl [2, 3, 4, 5, 0, 6, 1] rfl) hw
        · have hw := hw.1 hc
          refine lv_goto hx hb d_Pk_decode_33 rfl ?_
          exact ih _ _ _ f_p3 x2 x5 (x6 + 1) x7 hP hD hS (lv_sub hl [2, 3, 4, 5, 0, 6] rfl) hw
  intro ls hl hP hD hS
  have hl : lv_has ls 13 [(0, .ref a_p0), (1, .int x1), (2, .int x2), (3, .ref a_p3), (4, .int x4), (5, .int x5)] := hl
  unfold wp_Pk_decode at hw
  refine lv_iload_n hx hb d_Pk_decode_0 rfl (lv_at hl 1 rfl) ?_
  refine lv_istore (lv' := [(6, .int x1), (0, .ref a_p0), (1, .int x1), (2, .int x2), (3, .ref a_p3), (4, .int x4), (5, .int x5)]) hx hb d_Pk_decode_1 hl (by decide) rfl (fun ls hl => ?_)
  refine lv_iload hx hb d_Pk_decode_3 (lv_at hl 5 rfl) ?_
  refine lv_istore (lv' := [(7, .int x4), (6, .int x1), (0, .ref a_p0), (1, .int x1), (2, .int x2), (3, .ref a_p3), (4, .int x4), (5, .int x5)]) hx hb d_Pk_decode_5 hl (by decide) rfl (fun ls hl => ?_)
  obtain ⟨n1, hw⟩ := hw
  exact l7 n1 _ _ _ f_p3 x2 x5 x1 x4 hP hD hS (lv_sub hl [2, 4, 5, 7, 1, 0] rfl) hw
