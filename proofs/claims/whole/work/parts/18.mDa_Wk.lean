theorem d_Da_takePlain_0 : decode b_Da_takePlain 0 = .ok (.iload_n 3, 1) := by decide +kernel
theorem d_Da_takePlain_1 : decode b_Da_takePlain 1 = .ok (.iload_n 2, 1) := by decide +kernel
theorem d_Da_takePlain_2 : decode b_Da_takePlain 2 = .ok (.isub, 1) := by decide +kernel
theorem d_Da_takePlain_3 : decode b_Da_takePlain 3 = .ok (.iload 5, 2) := by decide +kernel
theorem d_Da_takePlain_5 : decode b_Da_takePlain 5 = .ok (.iload 4, 2) := by decide +kernel
theorem d_Da_takePlain_7 : decode b_Da_takePlain 7 = .ok (.isub, 1) := by decide +kernel
theorem d_Da_takePlain_8 : decode b_Da_takePlain 8 = .ok (.if_icmp .eq 5, 3) := by decide +kernel
theorem d_Da_takePlain_11 : decode b_Da_takePlain 11 = .ok (.iconst 0, 1) := by decide +kernel
theorem d_Da_takePlain_12 : decode b_Da_takePlain 12 = .ok (.ireturn, 1) := by decide +kernel
theorem d_Da_takePlain_13 : decode b_Da_takePlain 13 = .ok (.iconst 0, 1) := by decide +kernel
theorem d_Da_takePlain_14 : decode b_Da_takePlain 14 = .ok (.istore 6, 2) := by decide +kernel
theorem d_Da_takePlain_16 : decode b_Da_takePlain 16 = .ok (.iload 6, 2) := by decide +kernel
theorem d_Da_takePlain_18 : decode b_Da_takePlain 18 = .ok (.iload 5, 2) := by decide +kernel
theorem d_Da_takePlain_20 : decode b_Da_takePlain 20 = .ok (.iload 4, 2) := by decide +kernel
theorem d_Da_takePlain_22 : decode b_Da_takePlain 22 = .ok (.isub, 1) := by decide +kernel
theorem d_Da_takePlain_23 : decode b_Da_takePlain 23 = .ok (.if_icmp .ge 28, 3) := by decide +kernel
theorem d_Da_takePlain_26 : decode b_Da_takePlain 26 = .ok (.aload_n 0, 1) := by decide +kernel
theorem d_Da_takePlain_27 : decode b_Da_takePlain 27 = .ok (.getfield 9, 3) := by decide +kernel
theorem d_Da_takePlain_30 : decode b_Da_takePlain 30 = .ok (.iload 4, 2) := by decide +kernel
theorem d_Da_takePlain_32 : decode b_Da_takePlain 32 = .ok (.iload 6, 2) := by decide +kernel
theorem d_Da_takePlain_34 : decode b_Da_takePlain 34 = .ok (.iadd, 1) := by decide +kernel
theorem d_Da_takePlain_35 : decode b_Da_takePlain 35 = .ok (.aload_n 1, 1) := by decide +kernel
theorem d_Da_takePlain_36 : decode b_Da_takePlain 36 = .ok (.getfield 59, 3) := by decide +kernel
theorem d_Da_takePlain_39 : decode b_Da_takePlain 39 = .ok (.iload_n 2, 1) := by decide +kernel
theorem d_Da_takePlain_40 : decode b_Da_takePlain 40 = .ok (.iload 6, 2) := by decide +kernel
theorem d_Da_takePlain_42 : decode b_Da_takePlain 42 = .ok (.iadd, 1) := by decide +kernel
theorem d_Da_takePlain_43 : decode b_Da_takePlain 43 = .ok (.iaload, 1) := by decide +kernel
theorem d_Da_takePlain_44 : decode b_Da_takePlain 44 = .ok (.iastore, 1) := by decide +kernel
theorem d_Da_takePlain_45 : decode b_Da_takePlain 45 = .ok (.iinc 6 1, 3) := by decide +kernel
theorem d_Da_takePlain_48 : decode b_Da_takePlain 48 = .ok (.goto (-32), 3) := by decide +kernel
theorem d_Da_takePlain_51 : decode b_Da_takePlain 51 = .ok (.iconst 1, 1) := by decide +kernel
theorem d_Da_takePlain_52 : decode b_Da_takePlain 52 = .ok (.ireturn, 1) := by decide +kernel
def wp_Da_takePlain_l16 (post : Int32 → (Nat → Int32) → Prop) (I_p1 : Nat → Int32) (f_p1_bytes : Nat → Int32) : Nat → (Nat → Int32) → Int32 → Int32 → Int32 → Int32 → Prop
  | 0, _, _, _, _, _ => False
  | n + 1, f_p0_bytes, x2, x4, x5, x6 =>
    (((x5 - x4) ≤ x6 →
      post 1 f_p0_bytes) ∧
     (¬ (x5 - x4) ≤ x6 →
      vp_in (x2 + x6) 900 ∧
      vp_in (x4 + x6) 256 ∧
      wp_Da_takePlain_l16 post I_p1 f_p1_bytes n (upd f_p0_bytes (x4 + x6).toNatClampNeg (f_p1_bytes (x2 + x6).toNatClampNeg)) x2 x4 x5 (x6 + 1)))
def wp_Da_takePlain (post : Int32 → (Nat → Int32) → Prop) (I_p1 : Nat → Int32) (f_p1_bytes : Nat → Int32) (f_p0_bytes : Nat → Int32) (x2 : Int32) (x3 : Int32) (x4 : Int32) (x5 : Int32) : Prop :=
  (((x3 - x2) = (x5 - x4) →
    (∃ n1 : Nat, wp_Da_takePlain_l16 post I_p1 f_p1_bytes n1 f_p0_bytes x2 x4 x5 0)) ∧
   (¬ (x3 - x2) = (x5 - x4) →
    post 0 f_p0_bytes))
set_option maxRecDepth 100000 in
set_option maxHeartbeats 4000000 in
theorem c_Da_takePlain (l : Launch) (dC : Nat → ClassId) (dI : Nat → Nat → Nat) (cI : ClassId) (a_p0 : Nat) (a_p1 : Nat) (A_p0 : Nat → Nat) (A_p1 : Nat → Nat) (I_p1 : Nat → Int32) (f_p1_bytes : Nat → Int32) (f_p0_bytes : Nat → Int32) (x2 : Int32) (x3 : Int32) (x4 : Int32) (x5 : Int32) {post : Int32 → (Nat → Int32) → Prop} (hw : wp_Da_takePlain post I_p1 f_p1_bytes f_p0_bytes x2 x3 x4 x5) : gm_i l y_Da_takePlain ws_Da_takePlain ({ frames := 0, cells := 0, slots := 0, locals := 0 } : Room) (dC, dI) vwCl [(cI, .int)] [.ref a_p0, .ref a_p1, .int x2, .int x3, .int x4, .int x5] [oDa a_p0 A_p0, gz cI (A_p0 0) 256 f_p0_bytes, oSt a_p1 A_p1 I_p1, gz cI (A_p1 0) 900 f_p1_bytes] (fun (u : (Nat → Int32)) => [oDa a_p0 A_p0, gz cI (A_p0 0) 256 u, oSt a_p1 A_p1 I_p1, gz cI (A_p1 0) 900 f_p1_bytes]) (fun (r : Int32) (u : (Nat → Int32)) => post r u) := by
  refine gm_iof (cc := b_Da_takePlain) (maxL := 7) (ty := .boolean) (by decide) rfl (Nat.le_of_ble_eq_true rfl) ?_
  intro p e s m args below meth c A Q hx hb hml hown hg hK hN hA hret
  have hown : s.vm.findClass R_Da = some m.cls := hown
  have l16 : ∀ n : Nat, ∀ (H : Heap) (locs : List Loc) (ls : Array Slot) (f_p0_bytes : Nat → Int32) (x2 : Int32) (x4 : Int32) (x5 : Int32) (x6 : Int32), va_P (dC, dI) vwCl [oDa a_p0 A_p0, gz cI (A_p0 0) 256 f_p0_bytes, oSt a_p1 A_p1 I_p1, gz cI (A_p1 0) 900 f_p1_bytes] H → va_D A [oDa a_p0 A_p0, gz cI (A_p0 0) 256 f_p0_bytes, oSt a_p1 A_p1 I_p1, gz cI (A_p1 0) 900 f_p1_bytes] → va_S A s.heap H locs → lv_has ls 7 [(0, .ref a_p0), (1, .ref a_p1), (2, .int x2), (4, .int x4), (5, .int x5), (6, .int x6)] → wp_Da_takePlain_l16 post I_p1 f_p1_bytes n f_p0_bytes x2 x4 x5 x6 → W p l e ({ frames := 0, cells := 0, slots := 0, locals := 0 } : Room) s m args below meth c H locs 0 0 Q (F0 m 16 ls []) := by
    intro n
    induction n with
    | zero => intro H locs ls f_p0_bytes x2 x4 x5 x6 hP hD hS hl hw; exact hw.elim
    | succ n ih =>
      intro H locs ls f_p0_bytes x2 x4 x5 x6 hP hD hS hl hw
      unfold wp_Da_takePlain_l16 at hw
      refine lv_iload hx hb d_Da_takePlain_16 (lv_at hl 5 rfl) ?_
      refine lv_iload hx hb d_Da_takePlain_18 (lv_at hl 4 rfl) ?_
      refine lv_iload hx hb d_Da_takePlain_20 (lv_at hl 3 rfl) ?_
      refine lv_isub hx hb d_Da_takePlain_22 ?_
      refine lv_icmp_ge hx hb d_Da_takePlain_23 rfl (fun hc => ?_) (fun hc => ?_)
      · have hw := hw.1 hc
        refine lv_iconst (v := 1) hx hb d_Da_takePlain_51 (by decide) ?_
        exact hret _ _ _ _ _ f_p0_bytes d_Da_takePlain_52 rfl hP hD hS hw
      · have hw := hw.2 hc
        refine lv_aload_n hx hb d_Da_takePlain_26 rfl (lv_at hl 0 rfl) ?_
        refine va_get (D := (dC, dI)) (ci := 0) (v := .ref (A_p0 0)) (C := R_Da) (T := T_Da) (N := 1) hx hb hg in_Da hown hK hP 0 rfl rfl 0 (by decide) (hg _ t_213) (fun _ h9 => h9) rfl d_Da_takePlain_27 ?_
        refine lv_iload hx hb d_Da_takePlain_30 (lv_at hl 3 rfl) ?_
        refine lv_iload hx hb d_Da_takePlain_32 (lv_at hl 5 rfl) ?_
        refine lv_iadd hx hb d_Da_takePlain_34 ?_
        refine lv_aload_n hx hb d_Da_takePlain_35 rfl (lv_at hl 1 rfl) ?_
        refine va_get (D := (dC, dI)) (ci := 7) (v := .ref (A_p1 0)) (C := R_St) (T := T_St) (N := 3) hx hb hg in_St hown hK hP 2 rfl rfl 0 (by decide) (hg _ t_91) (fun _ h9 => h9) rfl d_Da_takePlain_36 ?_
        refine lv_iload_n hx hb d_Da_takePlain_39 rfl (lv_at hl 2 rfl) ?_
        refine lv_iload hx hb d_Da_takePlain_40 (lv_at hl 5 rfl) ?_
        refine lv_iadd hx hb d_Da_takePlain_42 ?_
        obtain ⟨hin, hw⟩ := hw
        refine va_iald hx hb hK hP 3 0 rfl rfl hin d_Da_takePlain_43 ?_
        obtain ⟨hin, hw⟩ := hw
        refine va_iast hx hb hK hP hD hS 1 0 rfl rfl hin d_Da_takePlain_44 (fun H locs hP hD hS => ?_)
        have hP : va_P (dC, dI) vwCl [oDa a_p0 A_p0, gz cI (A_p0 0) 256 (upd f_p0_bytes (x4 + x6).toNatClampNeg (f_p1_bytes (x2 + x6).toNatClampNeg)), oSt a_p1 A_p1 I_p1, gz cI (A_p1 0) 900 f_p1_bytes] H := hP
        have hD : va_D A [oDa a_p0 A_p0, gz cI (A_p0 0) 256 (upd f_p0_bytes (x4 + x6).toNatClampNeg (f_p1_bytes (x2 + x6).toNatClampNeg)), oSt a_p1 A_p1 I_p1, gz cI (A_p1 0) 900 f_p1_bytes] := hD
        refine lv_iinc (k := 5) (v := (x6 + 1)) (lv' := [(6, .int (x6 + 1)), (0, .ref a_p0), (1, .ref a_p1), (2, .int x2), (4, .int x4), (5, .int x5)]) hx hb d_Da_takePlain_45 hl rfl (congrArg (fun z => x6 + z) (by decide : Int32.ofInt 1 = 1)) (by decide) rfl (fun ls hl => ?_)
        refine lv_goto hx hb d_Da_takePlain_48 rfl ?_
        exact ih _ _ _ (upd f_p0_bytes (x4 + x6).toNatClampNeg (f_p1_bytes (x2 + x6).toNatClampNeg)) x2 x4 x5 (x6 + 1) hP hD hS (lv_sub hl [1, 2, 3, 4, 5, 0] rfl) hw
  intro ls hl hP hD hS
  have hl : lv_has ls 7 [(0, .ref a_p0), (1, .ref a_p1), (2, .int x2), (3, .int x3), (4, .int x4), (5, .int x5)] := hl
  unfold wp_Da_takePlain at hw
  refine lv_iload_n hx hb d_Da_takePlain_0 rfl (lv_at hl 3 rfl) ?_
  refine lv_iload_n hx hb d_Da_takePlain_1 rfl (lv_at hl 2 rfl) ?_
  refine lv_isub hx hb d_Da_takePlain_2 ?_
  refine lv_iload hx hb d_Da_takePlain_3 (lv_at hl 5 rfl) ?_
  refine lv_iload hx hb d_Da_takePlain_5 (lv_at hl 4 rfl) ?_
  refine lv_isub hx hb d_Da_takePlain_7 ?_
  refine lv_icmp_eq hx hb d_Da_takePlain_8 rfl (fun hc => ?_) (fun hc => ?_)
  · have hw := hw.1 hc
    refine lv_iconst (v := 0) hx hb d_Da_takePlain_13 (by decide) ?_
    refine lv_istore (lv' := [(6, .int 0), (0, .ref a_p0), (1, .ref a_p1), (2, .int x2), (3, .int x3), (4, .int x4), (5, .int x5)]) hx hb d_Da_takePlain_14 hl (by decide) rfl (fun ls hl => ?_)
    obtain ⟨n1, hw⟩ := hw
    exact l16 n1 _ _ _ f_p0_bytes x2 x4 x5 0 hP hD hS (lv_sub hl [1, 2, 3, 5, 6, 0] rfl) hw
  · have hw := hw.2 hc
    refine lv_iconst (v := 0) hx hb d_Da_takePlain_11 (by decide) ?_
    exact hret _ _ _ _ _ f_p0_bytes d_Da_takePlain_12 rfl hP hD hS hw
theorem d_X_decodeStrip_0 : decode b_X_decodeStrip 0 = .ok (.aload_n 0, 1) := by decide +kernel
theorem d_X_decodeStrip_1 : decode b_X_decodeStrip 1 = .ok (.getfield 72, 3) := by decide +kernel
theorem d_X_decodeStrip_4 : decode b_X_decodeStrip 4 = .ok (.aload_n 0, 1) := by decide +kernel
theorem d_X_decodeStrip_5 : decode b_X_decodeStrip 5 = .ok (.getfield 10, 3) := by decide +kernel
theorem d_X_decodeStrip_8 : decode b_X_decodeStrip 8 = .ok (.iload_n 1, 1) := by decide +kernel
theorem d_X_decodeStrip_9 : decode b_X_decodeStrip 9 = .ok (.invokevirtual 218, 3) := by decide +kernel
theorem d_X_decodeStrip_12 : decode b_X_decodeStrip 12 = .ok (.lstore_n 2, 1) := by decide +kernel
theorem d_X_decodeStrip_13 : decode b_X_decodeStrip 13 = .ok (.aload_n 0, 1) := by decide +kernel
theorem d_X_decodeStrip_14 : decode b_X_decodeStrip 14 = .ok (.getfield 75, 3) := by decide +kernel
theorem d_X_decodeStrip_17 : decode b_X_decodeStrip 17 = .ok (.aload_n 0, 1) := by decide +kernel
theorem d_X_decodeStrip_18 : decode b_X_decodeStrip 18 = .ok (.getfield 10, 3) := by decide +kernel
theorem d_X_decodeStrip_21 : decode b_X_decodeStrip 21 = .ok (.iload_n 1, 1) := by decide +kernel
theorem d_X_decodeStrip_22 : decode b_X_decodeStrip 22 = .ok (.invokevirtual 218, 3) := by decide +kernel
theorem d_X_decodeStrip_25 : decode b_X_decodeStrip 25 = .ok (.lstore 4, 2) := by decide +kernel
theorem d_X_decodeStrip_27 : decode b_X_decodeStrip 27 = .ok (.aload_n 0, 1) := by decide +kernel
theorem d_X_decodeStrip_28 : decode b_X_decodeStrip 28 = .ok (.getfield 10, 3) := by decide +kernel
theorem d_X_decodeStrip_31 : decode b_X_decodeStrip 31 = .ok (.lload_n 2, 1) := by decide +kernel
theorem d_X_decodeStrip_32 : decode b_X_decodeStrip 32 = .ok (.lload 4, 2) := by decide +kernel
theorem d_X_decodeStrip_34 : decode b_X_decodeStrip 34 = .ok (.invokevirtual 100, 3) := by decide +kernel
theorem d_X_decodeStrip_37 : decode b_X_decodeStrip 37 = .ok (.ifCond .ne 5, 3) := by decide +kernel
theorem d_X_decodeStrip_40 : decode b_X_decodeStrip 40 = .ok (.iconst 0, 1) := by decide +kernel
theorem d_X_decodeStrip_41 : decode b_X_decodeStrip 41 = .ok (.ireturn, 1) := by decide +kernel
theorem d_X_decodeStrip_42 : decode b_X_decodeStrip 42 = .ok (.lload_n 2, 1) := by decide +kernel
theorem d_X_decodeStrip_43 : decode b_X_decodeStrip 43 = .ok (.l2i, 1) := by decide +kernel
theorem d_X_decodeStrip_44 : decode b_X_decodeStrip 44 = .ok (.istore 6, 2) := by decide +kernel
theorem d_X_decodeStrip_46 : decode b_X_decodeStrip 46 = .ok (.lload_n 2, 1) := by decide +kernel
theorem d_X_decodeStrip_47 : decode b_X_decodeStrip 47 = .ok (.lload 4, 2) := by decide +kernel
theorem d_X_decodeStrip_49 : decode b_X_decodeStrip 49 = .ok (.ladd, 1) := by decide +kernel
theorem d_X_decodeStrip_50 : decode b_X_decodeStrip 50 = .ok (.l2i, 1) := by decide +kernel
theorem d_X_decodeStrip_51 : decode b_X_decodeStrip 51 = .ok (.istore 7, 2) := by decide +kernel
theorem d_X_decodeStrip_53 : decode b_X_decodeStrip 53 = .ok (.aload_n 0, 1) := by decide +kernel
theorem d_X_decodeStrip_54 : decode b_X_decodeStrip 54 = .ok (.getfield 40, 3) := by decide +kernel
theorem d_X_decodeStrip_57 : decode b_X_decodeStrip 57 = .ok (.iload_n 1, 1) := by decide +kernel
theorem d_X_decodeStrip_58 : decode b_X_decodeStrip 58 = .ok (.invokevirtual 251, 3) := by decide +kernel
theorem d_X_decodeStrip_61 : decode b_X_decodeStrip 61 = .ok (.istore 8, 2) := by decide +kernel
theorem d_X_decodeStrip_63 : decode b_X_decodeStrip 63 = .ok (.aload_n 0, 1) := by decide +kernel
theorem d_X_decodeStrip_64 : decode b_X_decodeStrip 64 = .ok (.getfield 40, 3) := by decide +kernel
theorem d_X_decodeStrip_67 : decode b_X_decodeStrip 67 = .ok (.iload_n 1, 1) := by decide +kernel
theorem d_X_decodeStrip_68 : decode b_X_decodeStrip 68 = .ok (.iconst 1, 1) := by decide +kernel
theorem d_X_decodeStrip_69 : decode b_X_decodeStrip 69 = .ok (.iadd, 1) := by decide +kernel
theorem d_X_decodeStrip_70 : decode b_X_decodeStrip 70 = .ok (.invokevirtual 251, 3) := by decide +kernel
theorem d_X_decodeStrip_73 : decode b_X_decodeStrip 73 = .ok (.istore 9, 2) := by decide +kernel
theorem d_X_decodeStrip_75 : decode b_X_decodeStrip 75 = .ok (.aload_n 0, 1) := by decide +kernel
theorem d_X_decodeStrip_76 : decode b_X_decodeStrip 76 = .ok (.getfield 40, 3) := by decide +kernel
theorem d_X_decodeStrip_79 : decode b_X_decodeStrip 79 = .ok (.getfield 258, 3) := by decide +kernel
theorem d_X_decodeStrip_82 : decode b_X_decodeStrip 82 = .ok (.iconst 1, 1) := by decide +kernel
theorem d_X_decodeStrip_83 : decode b_X_decodeStrip 83 = .ok (.if_icmp .ne 23, 3) := by decide +kernel
theorem d_X_decodeStrip_86 : decode b_X_decodeStrip 86 = .ok (.aload_n 0, 1) := by decide +kernel
theorem d_X_decodeStrip_87 : decode b_X_decodeStrip 87 = .ok (.getfield 47, 3) := by decide +kernel
theorem d_X_decodeStrip_90 : decode b_X_decodeStrip 90 = .ok (.aload_n 0, 1) := by decide +kernel
theorem d_X_decodeStrip_91 : decode b_X_decodeStrip 91 = .ok (.getfield 10, 3) := by decide +kernel
theorem d_X_decodeStrip_94 : decode b_X_decodeStrip 94 = .ok (.iload 6, 2) := by decide +kernel
theorem d_X_decodeStrip_96 : decode b_X_decodeStrip 96 = .ok (.iload 7, 2) := by decide +kernel
theorem d_X_decodeStrip_98 : decode b_X_decodeStrip 98 = .ok (.iload 8, 2) := by decide +kernel
theorem d_X_decodeStrip_100 : decode b_X_decodeStrip 100 = .ok (.iload 9, 2) := by decide +kernel
theorem d_X_decodeStrip_102 : decode b_X_decodeStrip 102 = .ok (.invokevirtual 350, 3) := by decide +kernel
theorem d_X_decodeStrip_105 : decode b_X_decodeStrip 105 = .ok (.ireturn, 1) := by decide +kernel
theorem d_X_decodeStrip_106 : decode b_X_decodeStrip 106 = .ok (.aload_n 0, 1) := by decide +kernel
theorem d_X_decodeStrip_107 : decode b_X_decodeStrip 107 = .ok (.getfield 40, 3) := by decide +kernel
theorem d_X_decodeStrip_110 : decode b_X_decodeStrip 110 = .ok (.getfield 258, 3) := by decide +kernel
theorem d_X_decodeStrip_113 : decode b_X_decodeStrip 113 = .ok (.ldc_w 265, 3) := by decide +kernel
theorem d_X_decodeStrip_116 : decode b_X_decodeStrip 116 = .ok (.if_icmp .ne 26, 3) := by decide +kernel
theorem d_X_decodeStrip_119 : decode b_X_decodeStrip 119 = .ok (.aload_n 0, 1) := by decide +kernel
theorem d_X_decodeStrip_120 : decode b_X_decodeStrip 120 = .ok (.getfield 10, 3) := by decide +kernel
theorem d_X_decodeStrip_123 : decode b_X_decodeStrip 123 = .ok (.iload 6, 2) := by decide +kernel
theorem d_X_decodeStrip_125 : decode b_X_decodeStrip 125 = .ok (.iload 7, 2) := by decide +kernel
theorem d_X_decodeStrip_127 : decode b_X_decodeStrip 127 = .ok (.aload_n 0, 1) := by decide +kernel
theorem d_X_decodeStrip_128 : decode b_X_decodeStrip 128 = .ok (.getfield 47, 3) := by decide +kernel
theorem d_X_decodeStrip_131 : decode b_X_decodeStrip 131 = .ok (.getfield 279, 3) := by decide +kernel
theorem d_X_decodeStrip_134 : decode b_X_decodeStrip 134 = .ok (.iload 8, 2) := by decide +kernel
theorem d_X_decodeStrip_136 : decode b_X_decodeStrip 136 = .ok (.iload 9, 2) := by decide +kernel
theorem d_X_decodeStrip_138 : decode b_X_decodeStrip 138 = .ok (.invokestatic 354, 3) := by decide +kernel
theorem d_X_decodeStrip_141 : decode b_X_decodeStrip 141 = .ok (.ireturn, 1) := by decide +kernel
theorem d_X_decodeStrip_142 : decode b_X_decodeStrip 142 = .ok (.aload_n 0, 1) := by decide +kernel
theorem d_X_decodeStrip_143 : decode b_X_decodeStrip 143 = .ok (.getfield 61, 3) := by decide +kernel
theorem d_X_decodeStrip_146 : decode b_X_decodeStrip 146 = .ok (.aload_n 0, 1) := by decide +kernel
theorem d_X_decodeStrip_147 : decode b_X_decodeStrip 147 = .ok (.getfield 10, 3) := by decide +kernel
theorem d_X_decodeStrip_150 : decode b_X_decodeStrip 150 = .ok (.iload 6, 2) := by decide +kernel
theorem d_X_decodeStrip_152 : decode b_X_decodeStrip 152 = .ok (.iload 7, 2) := by decide +kernel
theorem d_X_decodeStrip_154 : decode b_X_decodeStrip 154 = .ok (.aload_n 0, 1) := by decide +kernel
theorem d_X_decodeStrip_155 : decode b_X_decodeStrip 155 = .ok (.getfield 47, 3) := by decide +kernel
theorem d_X_decodeStrip_158 : decode b_X_decodeStrip 158 = .ok (.iload 8, 2) := by decide +kernel
theorem d_X_decodeStrip_160 : decode b_X_decodeStrip 160 = .ok (.iload 9, 2) := by decide +kernel
theorem d_X_decodeStrip_162 : decode b_X_decodeStrip 162 = .ok (.invokevirtual 358, 3) := by decide +kernel
theorem d_X_decodeStrip_165 : decode b_X_decodeStrip 165 = .ok (.ireturn, 1) := by decide +kernel
def wp_X_decodeStrip (post : Int32 → (Nat → Int32) → (Nat → Int32) → (Nat → Int32) → (Nat → Int32) → Prop) (I_p0_file : Nat → Int32) (f_p0_file_bytes : Nat → Int32) (I_p0_layout : Nat → Int32) (I_p0_stripLengths : Nat → Int32) (L_p0_stripLengths : Nat → Int64) (I_p0_stripPlaces : Nat → Int32) (L_p0_stripPlaces : Nat → Int64) (f_p0_data_bytes : Nat → Int32) (I_p0_decoder : Nat → Int32) (f_p0_decoder_sizes : Nat → Int32) (f_p0_decoder_starts : Nat → Int32) (x1 : Int32) : Prop :=
  wp_En_value (fun (r9 : Int64) =>
    wp_En_value (fun (r22 : Int64) =>
      wp_St_holds (fun (r34 : Int32) =>
        ((r34 = 0 →
          post 0 f_p0_data_bytes I_p0_decoder f_p0_decoder_sizes f_p0_decoder_starts) ∧
         (¬ r34 = 0 →
          wp_Ly_firstByte (fun (r58 : Int32) =>
            wp_Ly_firstByte (fun (r70 : Int32) =>
              (((I_p0_layout 3) = 1 →
                wp_Da_takePlain (fun (r102 : Int32) (f_p0_data_bytes_102 : Nat → Int32) =>
                  (r102 = 0 ∨ r102 = 1) ∧
                  post r102 f_p0_data_bytes_102 I_p0_decoder f_p0_decoder_sizes f_p0_decoder_starts) I_p0_file f_p0_file_bytes f_p0_data_bytes r9.toInt32 ((r9 + r22).toInt32) r58 r70) ∧
               (¬ (I_p0_layout 3) = 1 →
                (((I_p0_layout 3) = 32773 →
                  wp_Pk_decode (fun (r138 : Int32) (f_p0_data_bytes_138 : Nat → Int32) =>
                    (r138 = 0 ∨ r138 = 1) ∧
                    post r138 f_p0_data_bytes_138 I_p0_decoder f_p0_decoder_sizes f_p0_decoder_starts) I_p0_file f_p0_file_bytes f_p0_data_bytes r9.toInt32 ((r9 + r22).toInt32) r58 r70) ∧
                 (¬ (I_p0_layout 3) = 32773 →
                  wp_Nd_decode (fun (r162 : Int32) (I_p0_decoder_162 : Nat → Int32) (f_p0_decoder_sizes_162 : Nat → Int32) (f_p0_decoder_starts_162 : Nat → Int32) (f_p0_data_bytes_162 : Nat → Int32) =>
                    (r162 = 0 ∨ r162 = 1) ∧
                    post r162 f_p0_data_bytes_162 I_p0_decoder_162 f_p0_decoder_sizes_162 f_p0_decoder_starts_162) I_p0_file f_p0_file_bytes I_p0_decoder f_p0_decoder_sizes f_p0_decoder_starts f_p0_data_bytes r9.toInt32 ((r9 + r22).toInt32) r58 r70))))) I_p0_layout (x1 + 1)) I_p0_layout x1))) I_p0_file r9 r22) I_p0_stripLengths L_p0_stripLengths I_p0_file f_p0_file_bytes x1) I_p0_stripPlaces L_p0_stripPlaces I_p0_file f_p0_file_bytes x1
set_option maxRecDepth 100000 in
set_option maxHeartbeats 4000000 in
theorem c_X_decodeStrip (l : Launch) (dC : Nat → ClassId) (dI : Nat → Nat → Nat) (cI : ClassId) (a_p0 : Nat) (A_p0 : Nat → Nat) (A_p0_data : Nat → Nat) (A_p0_decoder : Nat → Nat) (A_p0_file : Nat → Nat) (I_p0_file : Nat → Int32) (f_p0_file_bytes : Nat → Int32) (I_p0_layout : Nat → Int32) (I_p0_stripLengths : Nat → Int32) (L_p0_stripLengths : Nat → Int64) (I_p0_stripPlaces : Nat → Int32) (L_p0_stripPlaces : Nat → Int64) (f_p0_data_bytes : Nat → Int32) (I_p0_decoder : Nat → Int32) (f_p0_decoder_sizes : Nat → Int32) (f_p0_decoder_starts : Nat → Int32) (x1 : Int32) {post : Int32 → (Nat → Int32) → (Nat → Int32) → (Nat → Int32) → (Nat → Int32) → Prop} (hw : wp_X_decodeStrip post I_p0_file f_p0_file_bytes I_p0_layout I_p0_stripLengths L_p0_stripLengths I_p0_stripPlaces L_p0_stripPlaces f_p0_data_bytes I_p0_decoder f_p0_decoder_sizes f_p0_decoder_starts x1) : gm_i l y_X_decodeStrip ws_X_decodeStrip ({ frames := 3, cells := 0, slots := 0, locals := 81 } : Room) (dC, dI) vwCl [(cI, .int)] [.ref a_p0, .int x1] [oX a_p0 A_p0, oDa (A_p0 5) A_p0_data, gz cI (A_p0_data 0) 256 f_p0_data_bytes, oNd (A_p0 7) A_p0_decoder I_p0_decoder, gz cI (A_p0_decoder 1) 110 f_p0_decoder_sizes, gz cI (A_p0_decoder 0) 110 f_p0_decoder_starts, oSt (A_p0 0) A_p0_file I_p0_file, gz cI (A_p0_file 0) 900 f_p0_file_bytes, oLy (A_p0 4) I_p0_layout, oEn (A_p0 10) I_p0_stripLengths L_p0_stripLengths, oEn (A_p0 9) I_p0_stripPlaces L_p0_stripPlaces] (fun (u : (Nat → Int32) × (Nat → Int32) × (Nat → Int32) × (Nat → Int32)) => [oX a_p0 A_p0, oDa (A_p0 5) A_p0_data, gz cI (A_p0_data 0) 256 u.1, oNd (A_p0 7) A_p0_decoder u.2.1, gz cI (A_p0_decoder 1) 110 u.2.2.1, gz cI (A_p0_decoder 0) 110 u.2.2.2, oSt (A_p0 0) A_p0_file I_p0_file, gz cI (A_p0_file 0) 900 f_p0_file_bytes, oLy (A_p0 4) I_p0_layout, oEn (A_p0 10) I_p0_stripLengths L_p0_stripLengths, oEn (A_p0 9) I_p0_stripPlaces L_p0_stripPlaces]) (fun (r : Int32) (u : (Nat → Int32) × (Nat → Int32) × (Nat → Int32) × (Nat → Int32)) => post r u.1 u.2.1 u.2.2.1 u.2.2.2) := by
  refine gm_iof (cc := b_X_decodeStrip) (maxL := 10) (ty := .boolean) (by decide) rfl (Nat.le_of_ble_eq_true rfl) ?_
  intro p e s m args below meth c A Q hx hb hml hown hg hK hN hA hret
  have hown : s.vm.findClass R_X = some m.cls := hown
  intro ls hl hP hD hS
  have hl : lv_has ls 10 [(0, .ref a_p0), (1, .int x1)] := hl
  unfold wp_X_decodeStrip at hw
  refine lv_aload_n hx hb d_X_decodeStrip_0 rfl (lv_at hl 0 rfl) ?_
  refine va_get (D := (dC, dI)) (ci := 9) (v := .ref (A_p0 9)) (C := R_X) (T := T_X) (N := 14) hx hb hg in_X hown hK hP 0 rfl rfl 9 (by decide) (hg _ t_316) (fun _ h9 => h9) rfl d_X_decodeStrip_1 ?_
  refine lv_aload_n hx hb d_X_decodeStrip_4 rfl (lv_at hl 0 rfl) ?_
  refine va_get (D := (dC, dI)) (ci := 9) (v := .ref (A_p0 0)) (C := R_X) (T := T_X) (N := 14) hx hb hg in_X hown hK hP 0 rfl rfl 0 (by decide) (hg _ t_307) (fun _ h9 => h9) rfl d_X_decodeStrip_5 ?_
  refine lv_iload_n hx hb d_X_decodeStrip_8 rfl (lv_at hl 1 rfl) ?_
  refine gc_l (wn := fun (_ : Unit) => [oX a_p0 A_p0, oDa (A_p0 5) A_p0_data, gz cI (A_p0_data 0) 256 f_p0_data_bytes, oNd (A_p0 7) A_p0_decoder I_p0_decoder, gz cI (A_p0_decoder 1) 110 f_p0_decoder_sizes, gz cI (A_p0_decoder 0) 110 f_p0_decoder_starts, oSt (A_p0 0) A_p0_file I_p0_file, gz cI (A_p0_file 0) 900 f_p0_file_bytes, oLy (A_p0 4) I_p0_layout, oEn (A_p0 10) I_p0_stripLengths L_p0_stripLengths, oEn (A_p0 9) I_p0_stripPlaces L_p0_stripPlaces]) (wr := [oX a_p0 A_p0, oDa (A_p0 5) A_p0_data, gz cI (A_p0_data 0) 256 f_p0_data_bytes, oNd (A_p0 7) A_p0_decoder I_p0_decoder, gz cI (A_p0_decoder 1) 110 f_p0_decoder_sizes, gz cI (A_p0_decoder 0) 110 f_p0_decoder_starts, oLy (A_p0 4) I_p0_layout, oEn (A_p0 10) I_p0_stripLengths L_p0_stripLengths]) (gr_V (As := [.ref (A_p0 0), .int x1]) (rest := []) ⟨hx, hb, hml, hown, hg⟩ (c_En_value l dC dI cI (A_p0 9) (A_p0 0) A_p0_file I_p0_stripPlaces L_p0_stripPlaces I_p0_file f_p0_file_bytes x1 hw _) (cwV 2 hg (gg_V t_683 t_684 t_685 t_69 t_686) rfl rfl rfl (by decide +kernel) ⟨Nat.le_of_ble_eq_true rfl, Nat.le_of_ble_eq_true rfl⟩) hK hN hP hD [10, 6, 7] (by decide) rfl 10 1 rfl rfl rfl rfl hl.1 rfl (Nat.le_of_ble_eq_true rfl) d_X_decodeStrip_9 ⟨Nat.le_of_ble_eq_true rfl, Nat.le_of_ble_eq_true rfl⟩) rfl rfl hP hD hS hA [10, 6, 7] [0, 1, 2, 3, 4, 5, 8, 9] [0, 1, 2, 3, 4, 5, 9, 10, 6, 7, 8] rfl rfl (by decide) (by decide) (by decide) (fun _ => rfl) ?_
  intro r9 _ H locs hw hP hD hS
  try dsimp only at hw
  have hP : va_P (dC, dI) vwCl [oX a_p0 A_p0, oDa (A_p0 5) A_p0_data, gz cI (A_p0_data 0) 256 f_p0_data_bytes, oNd (A_p0 7) A_p0_decoder I_p0_decoder, gz cI (A_p0_decoder 1) 110 f_p0_decoder_sizes, gz cI (A_p0_decoder 0) 110 f_p0_decoder_starts, oSt (A_p0 0) A_p0_file I_p0_file, gz cI (A_p0_file 0) 900 f_p0_file_bytes, oLy (A_p0 4) I_p0_layout, oEn (A_p0 10) I_p0_stripLengths L_p0_stripLengths, oEn (A_p0 9) I_p0_stripPlaces L_p0_stripPlaces] H := hP
  have hD : va_D A [oX a_p0 A_p0, oDa (A_p0 5) A_p0_data, gz cI (A_p0_data 0) 256 f_p0_data_bytes, oNd (A_p0 7) A_p0_decoder I_p0_decoder, gz cI (A_p0_decoder 1) 110 f_p0_decoder_sizes, gz cI (A_p0_decoder 0) 110 f_p0_decoder_starts, oSt (A_p0 0) A_p0_file I_p0_file, gz cI (A_p0_file 0) 900 f_p0_file_bytes, oLy (A_p0 4) I_p0_layout, oEn (A_p0 10) I_p0_stripLengths L_p0_stripLengths, oEn (A_p0 9) I_p0_stripPlaces L_p0_stripPlaces] := hD
  refine lv_lstore_n (lv' := [(2, .long r9), (0, .ref a_p0), (1, .int x1)]) hx hb d_X_decodeStrip_12 rfl hl (by decide) rfl (fun ls hl => ?_)
  refine lv_aload_n hx hb d_X_decodeStrip_13 rfl (lv_at hl 1 rfl) ?_
  refine va_get (D := (dC, dI)) (ci := 9) (v := .ref (A_p0 10)) (C := R_X) (T := T_X) (N := 14) hx hb hg in_X hown hK hP 0 rfl rfl 10 (by decide) (hg _ t_317) (fun _ h9 => h9) rfl d_X_decodeStrip_14 ?_
  refine lv_aload_n hx hb d_X_decodeStrip_17 rfl (lv_at hl 1 rfl) ?_
  refine va_get (D := (dC, dI)) (ci := 9) (v := .ref (A_p0 0)) (C := R_X) (T := T_X) (N := 14) hx hb hg in_X hown hK hP 0 rfl rfl 0 (by decide) (hg _ t_307) (fun _ h9 => h9) rfl d_X_decodeStrip_18 ?_
  refine lv_iload_n hx hb d_X_decodeStrip_21 rfl (lv_at hl 2 rfl) ?_
  refine gc_l (wn := fun (_ : Unit) => [oX a_p0 A_p0, oDa (A_p0 5) A_p0_data, gz cI (A_p0_data 0) 256 f_p0_data_bytes, oNd (A_p0 7) A_p0_decoder I_p0_decoder, gz cI (A_p0_decoder 1) 110 f_p0_decoder_sizes, gz cI (A_p0_decoder 0) 110 f_p0_decoder_starts, oSt (A_p0 0) A_p0_file I_p0_file, gz cI (A_p0_file 0) 900 f_p0_file_bytes, oLy (A_p0 4) I_p0_layout, oEn (A_p0 10) I_p0_stripLengths L_p0_stripLengths, oEn (A_p0 9) I_p0_stripPlaces L_p0_stripPlaces]) (wr := [oX a_p0 A_p0, oDa (A_p0 5) A_p0_data, gz cI (A_p0_data 0) 256 f_p0_data_bytes, oNd (A_p0 7) A_p0_decoder I_p0_decoder, gz cI (A_p0_decoder 1) 110 f_p0_decoder_sizes, gz cI (A_p0_decoder 0) 110 f_p0_decoder_starts, oLy (A_p0 4) I_p0_layout, oEn (A_p0 9) I_p0_stripPlaces L_p0_stripPlaces]) (gr_V (As := [.ref (A_p0 0), .int x1]) (rest := []) ⟨hx, hb, hml, hown, hg⟩ (c_En_value l dC dI cI (A_p0 10) (A_p0 0) A_p0_file I_p0_stripLengths L_p0_stripLengths I_p0_file f_p0_file_bytes x1 hw _) (cwV 2 hg (gg_V t_683 t_684 t_685 t_69 t_686) rfl rfl rfl (by decide +kernel) ⟨Nat.le_of_ble_eq_true rfl, Nat.le_of_ble_eq_true rfl⟩) hK hN hP hD [9, 6, 7] (by decide) rfl 9 1 rfl rfl rfl rfl hl.1 rfl (Nat.le_of_ble_eq_true rfl) d_X_decodeStrip_22 ⟨Nat.le_of_ble_eq_true rfl, Nat.le_of_ble_eq_true rfl⟩) rfl rfl hP hD hS hA [9, 6, 7] [0, 1, 2, 3, 4, 5, 8, 10] [0, 1, 2, 3, 4, 5, 9, 10, 6, 8, 7] rfl rfl (by decide) (by decide) (by decide) (fun _ => rfl) ?_
  intro r22 _ H locs hw hP hD hS
  try dsimp only at hw
  have hP : va_P (dC, dI) vwCl [oX a_p0 A_p0, oDa (A_p0 5) A_p0_data, gz cI (A_p0_data 0) 256 f_p0_data_bytes, oNd (A_p0 7) A_p0_decoder I_p0_decoder, gz cI (A_p0_decoder 1) 110 f_p0_decoder_sizes, gz cI (A_p0_decoder 0) 110 f_p0_decoder_starts, oSt (A_p0 0) A_p0_file I_p0_file, gz cI (A_p0_file 0) 900 f_p0_file_bytes, oLy (A_p0 4) I_p0_layout, oEn (A_p0 10) I_p0_stripLengths L_p0_stripLengths, oEn (A_p0 9) I_p0_stripPlaces L_p0_stripPlaces] H := hP
  have hD : va_D A [oX a_p0 A_p0, oDa (A_p0 5) A_p0_data, gz cI (A_p0_data 0) 256 f_p0_data_bytes, oNd (A_p0 7) A_p0_decoder I_p0_decoder, gz cI (A_p0_decoder 1) 110 f_p0_decoder_sizes, gz cI (A_p0_decoder 0) 110 f_p0_decoder_starts, oSt (A_p0 0) A_p0_file I_p0_file, gz cI (A_p0_file 0) 900 f_p0_file_bytes, oLy (A_p0 4) I_p0_layout, oEn (A_p0 10) I_p0_stripLengths L_p0_stripLengths, oEn (A_p0 9) I_p0_stripPlaces L_p0_stripPlaces] := hD
  refine lv_lstore (lv' := [(4, .long r22), (2, .long r9), (0, .ref a_p0), (1, .int x1)]) hx hb d_X_decodeStrip_25 hl (by decide) rfl (fun ls hl => ?_)
  refine lv_aload_n hx hb d_X_decodeStrip_27 rfl (lv_at hl 2 rfl) ?_
  refine va_get (D := (dC, dI)) (ci := 9) (v := .ref (A_p0 0)) (C := R_X) (T := T_X) (N := 14) hx hb hg in_X hown hK hP 0 rfl rfl 0 (by decide) (hg _ t_307) (fun _ h9 => h9) rfl d_X_decodeStrip_28 ?_
  refine lv_lload_n hx hb d_X_decodeStrip_31 rfl (lv_at hl 1 rfl) ?_
  refine lv_lload hx hb d_X_decodeStrip_32 (lv_at hl 0 rfl) ?_
  refine gc_i (wn := fun (_ : Unit) => [oX a_p0 A_p0, oDa (A_p0 5) A_p0_data, gz cI (A_p0_data 0) 256 f_p0_data_bytes, oNd (A_p0 7) A_p0_decoder I_p0_decoder, gz cI (A_p0_decoder 1) 110 f_p0_decoder_sizes, gz cI (A_p0_decoder 0) 110 f_p0_decoder_starts, oSt (A_p0 0) A_p0_file I_p0_file, gz cI (A_p0_file 0) 900 f_p0_file_bytes, oLy (A_p0 4) I_p0_layout, oEn (A_p0 10) I_p0_stripLengths L_p0_stripLengths, oEn (A_p0 9) I_p0_stripPlaces L_p0_stripPlaces]) (wr := [oX a_p0 A_p0, oDa (A_p0 5) A_p0_data, gz cI (A_p0_data 0) 256 f_p0_data_bytes, oNd (A_p0 7) A_p0_decoder I_p0_decoder, gz cI (A_p0_decoder 1) 110 f_p0_decoder_sizes, gz cI (A_p0_decoder 0) 110 f_p0_decoder_starts, gz cI (A_p0_file 0) 900 f_p0_file_bytes, oLy (A_p0 4) I_p0_layout, oEn (A_p0 10) I_p0_stripLengths L_p0_stripLengths, oEn (A_p0 9) I_p0_stripPlaces L_p0_stripPlaces]) (gr_V (As := [.long r9, .long r22]) (rest := []) ⟨hx, hb, hml, hown, hg⟩ (c_St_holds l dC dI cI (A_p0 0) A_p0_file I_p0_file r9 r22 hw _) (cwV 2 hg (gg_V t_362 t_363 t_364 t_61 t_365) rfl rfl rfl (by decide +kernel) ⟨Nat.le_of_ble_eq_true rfl, Nat.le_of_ble_eq_true rfl⟩) hK hN hP hD [6] (by decide) rfl 6 7 rfl rfl rfl rfl hl.1 rfl (Nat.le_of_ble_eq_true rfl) d_X_decodeStrip_34 ⟨Nat.le_of_ble_eq_true rfl, Nat.le_of_ble_eq_true rfl⟩) rfl rfl hP hD hS hA [6] [0, 1, 2, 3, 4, 5, 7, 8, 9, 10] [0, 1, 2, 3, 4, 5, 10, 6, 7, 8, 9] rfl rfl (by decide) (by decide) (by decide) (fun _ => rfl) ?_
  intro r34 _ H locs hw hP hD hS
  try dsimp only at hw
  have hP : va_P (dC, dI) vwCl [oX a_p0 A_p0, oDa (A_p0 5) A_p0_data, gz cI (A_p0_data 0) 256 f_p0_data_bytes, oNd (A_p0 7) A_p0_decoder I_p0_decoder, gz cI (A_p0_decoder 1) 110 f_p0_decoder_sizes, gz cI (A_p0_decoder 0) 110 f_p0_decoder_starts, oSt (A_p0 0) A_p0_file I_p0_file, gz cI (A_p0_file 0) 900 f_p0_file_bytes, oLy (A_p0 4) I_p0_layout, oEn (A_p0 10) I_p0_stripLengths L_p0_stripLengths, oEn (A_p0 9) I_p0_stripPlaces L_p0_stripPlaces] H := hP
  have hD : va_D A [oX a_p0 A_p0, oDa (A_p0 5) A_p0_data, gz cI (A_p0_data 0) 256 f_p0_data_bytes, oNd (A_p0 7) A_p0_decoder I_p0_decoder, gz cI (A_p0_decoder 1) 110 f_p0_decoder_sizes, gz cI (A_p0_decoder 0) 110 f_p0_decoder_starts, oSt (A_p0 0) A_p0_file I_p0_file, gz cI (A_p0_file 0) 900 f_p0_file_bytes, oLy (A_p0 4) I_p0_layout, oEn (A_p0 10) I_p0_stripLengths L_p0_stripLengths, oEn (A_p0 9) I_p0_stripPlaces L_p0_stripPlaces] := hD
  refine lv_if_ne hx hb d_X_decodeStrip_37 rfl (fun hc => ?_) (fun hc => ?_)
  · have hw := hw.2 hc
    refine lv_lload_n hx hb d_X_decodeStrip_42 rfl (lv_at hl 1 rfl) ?_
    refine lv_l2i hx hb d_X_decodeStrip_43 rfl ?_
    refine lv_istore (lv' := [(6, .int r9.toInt32), (4, .long r22), (2, .long r9), (0, .ref a_p0), (1, .int x1)]) hx hb d_X_decodeStrip_44 hl (by decide) rfl (fun ls hl => ?_)
    refine lv_lload_n hx hb d_X_decodeStrip_46 rfl (lv_at hl 2 rfl) ?_
    refine lv_lload hx hb d_X_decodeStrip_47 (lv_at hl 1 rfl) ?_
    refine lv_ladd hx hb d_X_decodeStrip_49 ?_
    refine lv_l2i hx hb d_X_decodeStrip_50 rfl ?_
    refine lv_istore (lv' := [(7, .int (r9 + r22).toInt32), (6, .int r9.toInt32), (4, .long r22), (2, .long r9), (0, .ref a_p0), (1, .int x1)]) hx hb d_X_decodeStrip_51 hl (by decide) rfl (fun ls hl => ?_)
    refine lv_aload_n hx hb d_X_decodeStrip_53 rfl (lv_at hl 4 rfl) ?_
    refine va_get (D := (dC, dI)) (ci := 9) (v := .ref (A_p0 4)) (C := R_X) (T := T_X) (N := 14) hx hb hg in_X hown hK hP 0 rfl rfl 4 (by decide) (hg _ t_311) (fun _ h9 => h9) rfl d_X_decodeStrip_54 ?_
    refine lv_iload_n hx hb d_X_decodeStrip_57 rfl (lv_at hl 5 rfl) ?_
    refine gc_i (wn := fun (_ : Unit) => [oX a_p0 A_p0, oDa (A_p0 5) A_p0_data, gz cI (A_p0_data 0) 256 f_p0_data_bytes, oNd (A_p0 7) A_p0_decoder I_p0_decoder, gz cI (A_p0_decoder 1) 110 f_p0_decoder_sizes, gz cI (A_p0_decoder 0) 110 f_p0_decoder_starts, oSt (A_p0 0) A_p0_file I_p0_file, gz cI (A_p0_file 0) 900 f_p0_file_bytes, oLy (A_p0 4) I_p0_layout, oEn (A_p0 10) I_p0_stripLengths L_p0_stripLengths, oEn (A_p0 9) I_p0_stripPlaces L_p0_stripPlaces]) (wr := [oX a_p0 A_p0, oDa (A_p0 5) A_p0_data, gz cI (A_p0_data 0) 256 f_p0_data_bytes, oNd (A_p0 7) A_p0_decoder I_p0_decoder, gz cI (A_p0_decoder 1) 110 f_p0_decoder_sizes, gz cI (A_p0_decoder 0) 110 f_p0_decoder_starts, oSt (A_p0 0) A_p0_file I_p0_file, gz cI (A_p0_file 0) 900 f_p0_file_bytes, oEn (A_p0 10) I_p0_stripLengths L_p0_stripLengths, oEn (A_p0 9) I_p0_stripPlaces L_p0_stripPlaces]) (gr_V (As := [.int x1]) (rest := []) ⟨hx, hb, hml, hown, hg⟩ (c_Ly_firstByte l dC dI cI (A_p0 4) I_p0_layout x1 hw _) (cwV 1 hg (gg_V t_515 t_516 t_517 t_65 t_518) rfl rfl rfl (by decide +kernel) ⟨Nat.le_of_ble_eq_true rfl, Nat.le_of_ble_eq_true rfl⟩) hK hN hP hD [8] (by decide) rfl 8 3 rfl rfl rfl rfl hl.1 rfl (Nat.le_of_ble_eq_true rfl) d_X_decodeStrip_58 ⟨Nat.le_of_ble_eq_true rfl, Nat.le_of_ble_eq_true rfl⟩) rfl rfl hP hD hS hA [8] [0, 1, 2, 3, 4, 5, 6, 7, 9, 10] [0, 1, 2, 3, 4, 5, 6, 7, 10, 8, 9] rfl rfl (by decide) (by decide) (by decide) (fun _ => rfl) ?_
    intro r58 _ H locs hw hP hD hS
    try dsimp only at hw
    have hP : va_P (dC, dI) vwCl [oX a_p0 A_p0, oDa (A_p0 5) A_p0_data, gz cI (A_p0_data 0) 256 f_p0_data_bytes, oNd (A_p0 7) A_p0_decoder I_p0_decoder, gz cI (A_p0_decoder 1) 110 f_p0_decoder_sizes, gz cI (A_p0_decoder 0) 110 f_p0_decoder_starts, oSt (A_p0 0) A_p0_file I_p0_file, gz cI (A_p0_file 0) 900 f_p0_file_bytes, oLy (A_p0 4) I_p0_layout, oEn (A_p0 10) I_p0_stripLengths L_p0_stripLengths, oEn (A_p0 9) I_p0_stripPlaces L_p0_stripPlaces] H := hP
    have hD : va_D A [oX a_p0 A_p0, oDa (A_p0 5) A_p0_data, gz cI (A_p0_data 0) 256 f_p0_data_bytes, oNd (A_p0 7) A_p0_decoder I_p0_decoder, gz cI (A_p0_decoder 1) 110 f_p0_decoder_sizes, gz cI (A_p0_decoder 0) 110 f_p0_decoder_starts, oSt (A_p0 0) A_p0_file I_p0_file, gz cI (A_p0_file 0) 900 f_p0_file_bytes, oLy (A_p0 4) I_p0_layout, oEn (A_p0 10) I_p0_stripLengths L_p0_stripLengths, oEn (A_p0 9) I_p0_stripPlaces L_p0_stripPlaces] := hD
    refine lv_istore (lv' := [(8, .int r58), (7, .int (r9 + r22).toInt32), (6, .int r9.toInt32), (4, .long r22), (2, .long r9), (0, .ref a_p0), (1, .int x1)]) hx hb d_X_decodeStrip_61 hl (by decide) rfl (fun ls hl => ?_)
    refine lv_aload_n hx hb d_X_decodeStrip_63 rfl (lv_at hl 5 rfl) ?_
    refine va_get (D := (dC, dI)) (ci := 9) (v := .ref (A_p0 4)) (C := R_X) (T := T_X) (N := 14) hx hb hg in_X hown hK hP 0 rfl rfl 4 (by decide) (hg _ t_311) (fun _ h9 => h9) rfl d_X_decodeStrip_64 ?_
    refine lv_iload_n hx hb d_X_decodeStrip_67 rfl (lv_at hl 6 rfl) ?_
    refine lv_iconst (v := 1) hx hb d_X_decodeStrip_68 (by decide) ?_
    refine lv_iadd hx hb d_X_decodeStrip_69 ?_
    refine gc_i (wn := fun (_ : Unit) => [oX a_p0 A_p0, oDa (A_p0 5) A_p0_data, gz cI (A_p0_data 0) 256 f_p0_data_bytes, oNd (A_p0 7) A_p0_decoder I_p0_decoder, gz cI (A_p0_decoder 1) 110 f_p0_decoder_sizes, gz cI (A_p0_decoder 0) 110 f_p0_decoder_starts, oSt (A_p0 0) A_p0_file I_p0_file, gz cI (A_p0_file 0) 900 f_p0_file_bytes, oLy (A_p0 4) I_p0_layout, oEn (A_p0 10) I_p0_stripLengths L_p0_stripLengths, oEn (A_p0 9) I_p0_stripPlaces L_p0_stripPlaces]) (wr := [oX a_p0 A_p0, oDa (A_p0 5) A_p0_data, gz cI (A_p0_data 0) 256 f_p0_data_bytes, oNd (A_p0 7) A_p0_decoder I_p0_decoder, gz cI (A_p0_decoder 1) 110 f_p0_decoder_sizes, gz cI (A_p0_decoder 0) 110 f_p0_decoder_starts, oSt (A_p0 0) A_p0_file I_p0_file, gz cI (A_p0_file 0) 900 f_p0_file_bytes, oEn (A_p0 10) I_p0_stripLengths L_p0_stripLengths, oEn (A_p0 9) I_p0_stripPlaces L_p0_stripPlaces]) (gr_V (As := [.int (x1 + 1)]) (rest := []) ⟨hx, hb, hml, hown, hg⟩ (c_Ly_firstByte l dC dI cI (A_p0 4) I_p0_layout (x1 + 1) hw _) (cwV 1 hg (gg_V t_515 t_516 t_517 t_65 t_518) rfl rfl rfl (by decide +kernel) ⟨Nat.le_of_ble_eq_true rfl, Nat.le_of_ble_eq_true rfl⟩) hK hN hP hD [8] (by decide) rfl 8 3 rfl rfl rfl rfl hl.1 rfl (Nat.le_of_ble_eq_true rfl) d_X_decodeStrip_70 ⟨Nat.le_of_ble_eq_true rfl, Nat.le_of_ble_eq_true rfl⟩) rfl rfl hP hD hS hA [8] [0, 1, 2, 3, 4, 5, 6, 7, 9, 10] [0, 1, 2, 3, 4, 5, 6, 7, 10, 8, 9] rfl rfl (by decide) (by decide) (by decide) (fun _ => rfl) ?_
    intro r70 _ H locs hw hP hD hS
    try dsimp only at hw
    have hP : va_P (dC, dI) vwCl [oX a_p0 A_p0, oDa (A_p0 5) A_p0_data, gz cI (A_p0_data 0) 256 f_p0_data_bytes, oNd (A_p0 7) A_p0_decoder I_p0_decoder, gz cI (A_p0_decoder 1) 110 f_p0_decoder_sizes, gz cI (A_p0_decoder 0) 110 f_p0_decoder_starts, oSt (A_p0 0) A_p0_file I_p0_file, gz cI (A_p0_file 0) 900 f_p0_file_bytes, oLy (A_p0 4) I_p0_layout, oEn (A_p0 10) I_p0_stripLengths L_p0_stripLengths, oEn (A_p0 9) I_p0_stripPlaces L_p0_stripPlaces] H := hP
    have hD : va_D A [oX a_p0 A_p0, oDa (A_p0 5) A_p0_data, gz cI (A_p0_data 0) 256 f_p0_data_bytes, oNd (A_p0 7) A_p0_decoder I_p0_decoder, gz cI (A_p0_decoder 1) 110 f_p0_decoder_sizes, gz cI (A_p0_decoder 0) 110 f_p0_decoder_starts, oSt (A_p0 0) A_p0_file I_p0_file, gz cI (A_p0_file 0) 900 f_p0_file_bytes, oLy (A_p0 4) I_p0_layout, oEn (A_p0 10) I_p0_stripLengths L_p0_stripLengths, oEn (A_p0 9) I_p0_stripPlaces L_p0_stripPlaces] := hD
    refine lv_istore (lv' := [(9, .int r70), (8, .int r58), (7, .int (r9 + r22).toInt32), (6, .int r9.toInt32), (4, .long r22), (2, .long r9), (0, .ref a_p0), (1, .int x1)]) hx hb d_X_decodeStrip_73 hl (by decide) rfl (fun ls hl => ?_)
    refine lv_aload_n hx hb d_X_decodeStrip_75 rfl (lv_at hl 6 rfl) ?_
    refine va_get (D := (dC, dI)) (ci := 9) (v := .ref (A_p0 4)) (C := R_X) (T := T_X) (N := 14) hx hb hg in_X hown hK hP 0 rfl rfl 4 (by decide) (hg _ t_311) (fun _ h9 => h9) rfl d_X_decodeStrip_76 ?_
    refine va_get (D := (dC, dI)) (ci := 3) (v := .int (I_p0_layout 3)) (C := R_Ly) (T := T_Ly) (N := 6) hx hb hg in_Ly hown hK hP 8 rfl rfl 3 (by decide) (hg _ t_188) (fun _ h9 => h9) rfl d_X_decodeStrip_79 ?_
    refine lv_iconst (v := 1) hx hb d_X_decodeStrip_82 (by decide) ?_
    refine lv_icmp_ne hx hb d_X_decodeStrip_83 rfl (fun hc => ?_) (fun hc => ?_)
    · have hw := hw.2 hc
      refine lv_aload_n hx hb d_X_decodeStrip_106 rfl (lv_at hl 6 rfl) ?_
      refine va_get (D := (dC, dI)) (ci := 9) (v := .ref (A_p0 4)) (C := R_X) (T := T_X) (N := 14) hx hb hg in_X hown hK hP 0 rfl rfl 4 (by decide) (hg _ t_311) (fun _ h9 => h9) rfl d_X_decodeStrip_107 ?_
      refine va_get (D := (dC, dI)) (ci := 3) (v := .int (I_p0_layout 3)) (C := R_Ly) (T := T_Ly) (N := 6) hx hb hg in_Ly hown hK hP 8 rfl rfl 3 (by decide) (hg _ t_188) (fun _ h9 => h9) rfl d_X_decodeStrip_110 ?_
      refine lv_ldcw (v := 32773) hx hb hown (hg _ t_536) d_X_decodeStrip_113 ?_
      refine lv_icmp_ne hx hb d_X_decodeStrip_116 rfl (fun hc => ?_) (fun hc => ?_)
      · have hw := hw.2 hc
        refine lv_aload_n hx hb d_X_decodeStrip_142 rfl (lv_at hl 6 rfl) ?_
        refine va_get (D := (dC, dI)) (ci := 9) (v := .ref (A_p0 7)) (C := R_X) (T := T_X) (N := 14) hx hb hg in_X hown hK hP 0 rfl rfl 7 (by decide) (hg _ t_314) (fun _ h9 => h9) rfl d_X_decodeStrip_143 ?_
        refine lv_aload_n hx hb d_X_decodeStrip_146 rfl (lv_at hl 6 rfl) ?_
        refine va_get (D := (dC, dI)) (ci := 9) (v := .ref (A_p0 0)) (C := R_X) (T := T_X) (N := 14) hx hb hg in_X hown hK hP 0 rfl rfl 0 (by decide) (hg _ t_307) (fun _ h9 => h9) rfl d_X_decodeStrip_147 ?_
        refine lv_iload hx hb d_X_decodeStrip_150 (lv_at hl 3 rfl) ?_
        refine lv_iload hx hb d_X_decodeStrip_152 (lv_at hl 2 rfl) ?_
        refine lv_aload_n hx hb d_X_decodeStrip_154 rfl (lv_at hl 6 rfl) ?_
        refine va_get (D := (dC, dI)) (ci := 9) (v := .ref (A_p0 5)) (C := R_X) (T := T_X) (N := 14) hx hb hg in_X hown hK hP 0 rfl rfl 5 (by decide) (hg _ t_312) (fun _ h9 => h9) rfl d_X_decodeStrip_155 ?_
        refine lv_iload hx hb d_X_decodeStrip_158 (lv_at hl 1 rfl) ?_
        refine lv_iload hx hb d_X_decodeStrip_160 (lv_at hl 0 rfl) ?_
        refine gc_i (wn := fun u => [oX a_p0 A_p0, oDa (A_p0 5) A_p0_data, gz cI (A_p0_data 0) 256 u.2.2.2, oNd (A_p0 7) A_p0_decoder u.1, gz cI (A_p0_decoder 1) 110 u.2.1, gz cI (A_p0_decoder 0) 110 u.2.2.1, oSt (A_p0 0) A_p0_file I_p0_file, gz cI (A_p0_file 0) 900 f_p0_file_bytes, oLy (A_p0 4) I_p0_layout, oEn (A_p0 10) I_p0_stripLengths L_p0_stripLengths, oEn (A_p0 9) I_p0_stripPlaces L_p0_stripPlaces]) (wr := [oX a_p0 A_p0, oLy (A_p0 4) I_p0_layout, oEn (A_p0 10) I_p0_stripLengths L_p0_stripLengths, oEn (A_p0 9) I_p0_stripPlaces L_p0_stripPlaces]) (gr_V (As := [.ref (A_p0 0), .int r9.toInt32, .int (r9 + r22).toInt32, .ref (A_p0 5), .int r58, .int r70]) (rest := []) ⟨hx, hb, hml, hown, hg⟩ (c_Nd_decode l dC dI cI (A_p0 7) (A_p0 0) (A_p0 5) A_p0_decoder A_p0_file A_p0_data I_p0_file f_p0_file_bytes I_p0_decoder f_p0_decoder_sizes f_p0_decoder_starts f_p0_data_bytes r9.toInt32 ((r9 + r22).toInt32) r58 r70 hw _) (cwV 6 hg (gg_V t_706 t_707 t_708 t_68 t_709) rfl rfl rfl (by decide +kernel) ⟨Nat.le_of_ble_eq_true rfl, Nat.le_of_ble_eq_true rfl⟩) hK hN hP hD [3, 4, 5, 6, 7, 1, 2] (by decide) rfl 3 4 rfl rfl rfl rfl hl.1 rfl (Nat.le_of_ble_eq_true rfl) d_X_decodeStrip_162 ⟨Nat.le_of_ble_eq_true rfl, Nat.le_of_ble_eq_true rfl⟩) rfl rfl hP hD hS hA [3, 4, 5, 6, 7, 1, 2] [0, 8, 9, 10] [0, 9, 10, 4, 5, 6, 7, 8, 1, 2, 3] rfl rfl (by decide) (by decide) (by decide) (fun _ => rfl) ?_
        intro r162 u9 H locs hw hP hD hS
        obtain ⟨I_p0_decoder_162, f_p0_decoder_sizes_162, f_p0_decoder_starts_162, f_p0_data_bytes_162⟩ := u9
        try dsimp only at hw
        have hP : va_P (dC, dI) vwCl [oX a_p0 A_p0, oDa (A_p0 5) A_p0_data, gz cI (A_p0_data 0) 256 f_p0_data_bytes_162, oNd (A_p0 7) A_p0_decoder I_p0_decoder_162, gz cI (A_p0_decoder 1) 110 f_p0_decoder_sizes_162, gz cI (A_p0_decoder 0) 110 f_p0_decoder_starts_162, oSt (A_p0 0) A_p0_file I_p0_file, gz cI (A_p0_file 0) 900 f_p0_file_bytes, oLy (A_p0 4) I_p0_layout, oEn (A_p0 10) I_p0_stripLengths L_p0_stripLengths, oEn (A_p0 9) I_p0_stripPlaces L_p0_stripPlaces] H := hP
        have hD : va_D A [oX a_p0 A_p0, oDa (A_p0 5) A_p0_data, gz cI (A_p0_data 0) 256 f_p0_data_bytes_162, oNd (A_p0 7) A_p0_decoder I_p0_decoder_162, gz cI (A_p0_decoder 1) 110 f_p0_decoder_sizes_162, gz cI (A_p0_decoder 0) 110 f_p0_decoder_starts_162, oSt (A_p0 0) A_p0_file I_p0_file, gz cI (A_p0_file 0) 900 f_p0_file_bytes, oLy (A_p0 4) I_p0_layout, oEn (A_p0 10) I_p0_stripLengths L_p0_stripLengths, oEn (A_p0 9) I_p0_stripPlaces L_p0_stripPlaces] := hD
        obtain ⟨hz, hw⟩ := hw
        exact hret _ _ _ _ _ (f_p0_data_bytes_162, I_p0_decoder_162, f_p0_decoder_sizes_162, f_p0_decoder_starts_162) d_X_decodeStrip_165 (gz_nar hz) hP hD hS hw
      · have hw := hw.1 hc
        refine lv_aload_n hx hb d_X_decodeStrip_119 rfl (lv_at hl 6 rfl) ?_
        refine va_get (D := (dC, dI)) (ci := 9) (v := .ref (A_p0 0)) (C := R_X) (T := T_X) (N := 14) hx hb hg in_X hown hK hP 0 rfl rfl 0 (by decide) (hg _ t_307) (fun _ h9 => h9) rfl d_X_decodeStrip_120 ?_
        refine lv_iload hx hb d_X_decodeStrip_123 (lv_at hl 3 rfl) ?_
        refine lv_iload hx hb d_X_decodeStrip_125 (lv_at hl 2 rfl) ?_
        refine lv_aload_n hx hb d_X_decodeStrip_127 rfl (lv_at hl 6 rfl) ?_
        refine va_get (D := (dC, dI)) (ci := 9) (v := .ref (A_p0 5)) (C := R_X) (T := T_X) (N := 14) hx hb hg in_X hown hK hP 0 rfl rfl 5 (by decide) (hg _ t_312) (fun _ h9 => h9) rfl d_X_decodeStrip_128 ?_
        refine va_get (D := (dC, dI)) (ci := 0) (v := .ref (A_p0_data 0)) (C := R_Da) (T := T_Da) (N := 1) hx hb hg in_Da hown hK hP 1 rfl rfl 0 (by decide) (hg _ t_214) (fun _ h9 => h9) rfl d_X_decodeStrip_131 ?_
        refine lv_iload hx hb d_X_decodeStrip_134 (lv_at hl 1 rfl) ?_
        refine lv_iload hx hb d_X_decodeStrip_136 (lv_at hl 0 rfl) ?_
        refine gc_i (wn := fun u => [oX a_p0 A_p0, oDa (A_p0 5) A_p0_data, gz cI (A_p0_data 0) 256 u, oNd (A_p0 7) A_p0_decoder I_p0_decoder, gz cI (A_p0_decoder 1) 110 f_p0_decoder_sizes, gz cI (A_p0_decoder 0) 110 f_p0_decoder_starts, oSt (A_p0 0) A_p0_file I_p0_file, gz cI (A_p0_file 0) 900 f_p0_file_bytes, oLy (A_p0 4) I_p0_layout, oEn (A_p0 10) I_p0_stripLengths L_p0_stripLengths, oEn (A_p0 9) I_p0_stripPlaces L_p0_stripPlaces]) (wr := [oX a_p0 A_p0, oDa (A_p0 5) A_p0_data, oNd (A_p0 7) A_p0_decoder I_p0_decoder, gz cI (A_p0_decoder 1) 110 f_p0_decoder_sizes, gz cI (A_p0_decoder 0) 110 f_p0_decoder_starts, oLy (A_p0 4) I_p0_layout, oEn (A_p0 10) I_p0_stripLengths L_p0_stripLengths, oEn (A_p0 9) I_p0_stripPlaces L_p0_stripPlaces]) (gr_S (As := [.ref (A_p0 0), .int r9.toInt32, .int (r9 + r22).toInt32, .ref (A_p0_data 0), .int r58, .int r70]) (rest := []) ⟨hx, hb, hml, hown, hg⟩ (c_Pk_decode l dC dI cI (A_p0 0) (A_p0_data 0) A_p0_file I_p0_file f_p0_file_bytes f_p0_data_bytes r9.toInt32 ((r9 + r22).toInt32) r58 r70 hw _) (va_cwS 6 hg (gg_S t_703 t_704 t_73 t_705) rfl rfl rfl (by decide +kernel) ⟨Nat.le_of_ble_eq_true rfl, Nat.le_of_ble_eq_true rfl⟩) hK hN hP hD [6, 7, 2] (by decide) rfl rfl hl.1 rfl (Nat.le_of_ble_eq_true rfl) d_X_decodeStrip_138 ⟨Nat.le_of_ble_eq_true rfl, Nat.le_of_ble_eq_true rfl⟩) rfl rfl hP hD hS hA [6, 7, 2] [0, 1, 3, 4, 5, 8, 9, 10] [0, 1, 10, 2, 3, 4, 8, 9, 5, 6, 7] rfl rfl (by decide) (by decide) (by decide) (fun _ => rfl) ?_
        intro r138 f_p0_data_bytes_138 H locs hw hP hD hS
        try dsimp only at hw
        have hP : va_P (dC, dI) vwCl [oX a_p0 A_p0, oDa (A_p0 5) A_p0_data, gz cI (A_p0_data 0) 256 f_p0_data_bytes_138, oNd (A_p0 7) A_p0_decoder I_p0_decoder, gz cI (A_p0_decoder 1) 110 f_p0_decoder_sizes, gz cI (A_p0_decoder 0) 110 f_p0_decoder_starts, oSt (A_p0 0) A_p0_file I_p0_file, gz cI (A_p0_file 0) 900 f_p0_file_bytes, oLy (A_p0 4) I_p0_layout, oEn (A_p0 10) I_p0_stripLengths L_p0_stripLengths, oEn (A_p0 9) I_p0_stripPlaces L_p0_stripPlaces] H := hP
        have hD : va_D A [oX a_p0 A_p0, oDa (A_p0 5) A_p0_data, gz cI (A_p0_data 0) 256 f_p0_data_bytes_138, oNd (A_p0 7) A_p0_decoder I_p0_decoder, gz cI (A_p0_decoder 1) 110 f_p0_decoder_sizes, gz cI (A_p0_decoder 0) 110 f_p0_decoder_starts, oSt (A_p0 0) A_p0_file I_p0_file, gz cI (A_p0_file 0) 900 f_p0_file_bytes, oLy (A_p0 4) I_p0_layout, oEn (A_p0 10) I_p0_stripLengths L_p0_stripLengths, oEn (A_p0 9) I_p0_stripPlaces L_p0_stripPlaces] := hD
        obtain ⟨hz, hw⟩ := hw
        exact hret _ _ _ _ _ (f_p0_data_bytes_138, I_p0_decoder, f_p0_decoder_sizes, f_p0_decoder_starts) d_X_decodeStrip_141 (gz_nar hz) hP hD hS hw
    · have hw := hw.1 hc
      refine lv_aload_n hx hb d_X_decodeStrip_86 rfl (lv_at hl 6 rfl) ?_
      refine va_get (D := (dC, dI)) (ci := 9) (v := .ref (A_p0 5)) (C := R_X) (T := T_X) (N := 14) hx hb hg in_X hown hK hP 0 rfl rfl 5 (by decide) (hg _ t_312) (fun _ h9 => h9) rfl d_X_decodeStrip_87 ?_
      refine lv_aload_n hx hb d_X_decodeStrip_90 rfl (lv_at hl 6 rfl) ?_
      refine va_get (D := (dC, dI)) (ci := 9) (v := .ref (A_p0 0)) (C := R_X) (T := T_X) (N := 14) hx hb hg in_X hown hK hP 0 rfl rfl 0 (by decide) (hg _ t_307) (fun _ h9 => h9) rfl d_X_decodeStrip_91 ?_
      refine lv_iload hx hb d_X_decodeStrip_94 (lv_at hl 3 rfl) ?_
      refine lv_iload hx hb d_X_decodeStrip_96 (lv_at hl 2 rfl) ?_
      refine lv_iload hx hb d_X_decodeStrip_98 (lv_at hl 1 rfl) ?_
      refine lv_iload hx hb d_X_decodeStrip_100 (lv_at hl 0 rfl) ?_
      refine gc_i (wn := fun u => [oX a_p0 A_p0, oDa (A_p0 5) A_p0_data, gz cI (A_p0_data 0) 256 u, oNd (A_p0 7) A_p0_decoder I_p0_decoder, gz cI (A_p0_decoder 1) 110 f_p0_decoder_sizes, gz cI (A_p0_decoder 0) 110 f_p0_decoder_starts, oSt (A_p0 0) A_p0_file I_p0_file, gz cI (A_p0_file 0) 900 f_p0_file_bytes, oLy (A_p0 4) I_p0_layout, oEn (A_p0 10) I_p0_stripLengths L_p0_stripLengths, oEn (A_p0 9) I_p0_stripPlaces L_p0_stripPlaces]) (wr := [oX a_p0 A_p0, oNd (A_p0 7) A_p0_decoder I_p0_decoder, gz cI (A_p0_decoder 1) 110 f_p0_decoder_sizes, gz cI (A_p0_decoder 0) 110 f_p0_decoder_starts, oLy (A_p0 4) I_p0_layout, oEn (A_p0 10) I_p0_stripLengths L_p0_stripLengths, oEn (A_p0 9) I_p0_stripPlaces L_p0_stripPlaces]) (gr_V (As := [.ref (A_p0 0), .int r9.toInt32, .int (r9 + r22).toInt32, .int r58, .int r70]) (rest := []) ⟨hx, hb, hml, hown, hg⟩ (c_Da_takePlain l dC dI cI (A_p0 5) (A_p0 0) A_p0_data A_p0_file I_p0_file f_p0_file_bytes f_p0_data_bytes r9.toInt32 ((r9 + r22).toInt32) r58 r70 hw _) (cwV 5 hg (gg_V t_699 t_700 t_701 t_66 t_702) rfl rfl rfl (by decide +kernel) ⟨Nat.le_of_ble_eq_true rfl, Nat.le_of_ble_eq_true rfl⟩) hK hN hP hD [1, 2, 6, 7] (by decide) rfl 1 0 rfl rfl rfl rfl hl.1 rfl (Nat.le_of_ble_eq_true rfl) d_X_decodeStrip_102 ⟨Nat.le_of_ble_eq_true rfl, Nat.le_of_ble_eq_true rfl⟩) rfl rfl hP hD hS hA [1, 2, 6, 7] [0, 3, 4, 5, 8, 9, 10] [0, 7, 8, 1, 2, 3, 9, 10, 4, 5, 6] rfl rfl (by decide) (by decide) (by decide) (fun _ => rfl) ?_
      intro r102 f_p0_data_bytes_102 H locs hw hP hD hS
      try dsimp only at hw
      have hP : va_P (dC, dI) vwCl [oX a_p0 A_p0, oDa (A_p0 5) A_p0_data, gz cI (A_p0_data 0) 256 f_p0_data_bytes_102, oNd (A_p0 7) A_p0_decoder I_p0_decoder, gz cI (A_p0_decoder 1) 110 f_p0_decoder_sizes, gz cI (A_p0_decoder 0) 110 f_p0_decoder_starts, oSt (A_p0 0) A_p0_file I_p0_file, gz cI (A_p0_file 0) 900 f_p0_file_bytes, oLy (A_p0 4) I_p0_layout, oEn (A_p0 10) I_p0_stripLengths L_p0_stripLengths, oEn (A_p0 9) I_p0_stripPlaces L_p0_stripPlaces] H := hP
      have hD : va_D A [oX a_p0 A_p0, oDa (A_p0 5) A_p0_data, gz cI (A_p0_data 0) 256 f_p0_data_bytes_102, oNd (A_p0 7) A_p0_decoder I_p0_decoder, gz cI (A_p0_decoder 1) 110 f_p0_decoder_sizes, gz cI (A_p0_decoder 0) 110 f_p0_decoder_starts, oSt (A_p0 0) A_p0_file I_p0_file, gz cI (A_p0_file 0) 900 f_p0_file_bytes, oLy (A_p0 4) I_p0_layout, oEn (A_p0 10) I_p0_stripLengths L_p0_stripLengths, oEn (A_p0 9) I_p0_stripPlaces L_p0_stripPlaces] := hD
      obtain ⟨hz, hw⟩ := hw
      exact hret _ _ _ _ _ (f_p0_data_bytes_102, I_p0_decoder, f_p0_decoder_sizes, f_p0_decoder_starts) d_X_decodeStrip_105 (gz_nar hz) hP hD hS hw
  · have hw := hw.1 hc
    refine lv_iconst (v := 0) hx hb d_X_decodeStrip_40 (by decide) ?_
    exact hret _ _ _ _ _ (f_p0_data_bytes, I_p0_decoder, f_p0_decoder_sizes, f_p0_decoder_starts) d_X_decodeStrip_41 rfl hP hD hS hw
theorem d_St_hasHeader_0 : decode b_St_hasHeader 0 = .ok (.aload_n 0, 1) := by decide +kernel
theorem d_St_hasHeader_1 : decode b_St_hasHeader 1 = .ok (.getfield 9, 3) := by decide +kernel
theorem d_St_hasHeader_4 : decode b_St_hasHeader 4 = .ok (.iconst 0, 1) := by decide +kernel
theorem d_St_hasHeader_5 : decode b_St_hasHeader 5 = .ok (.iaload, 1) := by decide +kernel
theorem d_St_hasHeader_6 : decode b_St_hasHeader 6 = .ok (.bipush 73, 2) := by decide +kernel
theorem d_St_hasHeader_8 : decode b_St_hasHeader 8 = .ok (.if_icmp .eq 14, 3) := by decide +kernel
theorem d_St_hasHeader_11 : decode b_St_hasHeader 11 = .ok (.aload_n 0, 1) := by decide +kernel
theorem d_St_hasHeader_12 : decode b_St_hasHeader 12 = .ok (.getfield 9, 3) := by decide +kernel
theorem d_St_hasHeader_15 : decode b_St_hasHeader 15 = .ok (.iconst 0, 1) := by decide +kernel
theorem d_St_hasHeader_16 : decode b_St_hasHeader 16 = .ok (.iaload, 1) := by decide +kernel
theorem d_St_hasHeader_17 : decode b_St_hasHeader 17 = .ok (.bipush 77, 2) := by decide +kernel
theorem d_St_hasHeader_19 : decode b_St_hasHeader 19 = .ok (.if_icmp .ne 7, 3) := by decide +kernel
theorem d_St_hasHeader_22 : decode b_St_hasHeader 22 = .ok (.iconst 1, 1) := by decide +kernel
theorem d_St_hasHeader_23 : decode b_St_hasHeader 23 = .ok (.goto 4, 3) := by decide +kernel
theorem d_St_hasHeader_26 : decode b_St_hasHeader 26 = .ok (.iconst 0, 1) := by decide +kernel
theorem d_St_hasHeader_27 : decode b_St_hasHeader 27 = .ok (.istore_n 1, 1) := by decide +kernel
theorem d_St_hasHeader_28 : decode b_St_hasHeader 28 = .ok (.iload_n 1, 1) := by decide +kernel
theorem d_St_hasHeader_29 : decode b_St_hasHeader 29 = .ok (.ifCond .eq 32, 3) := by decide +kernel
theorem d_St_hasHeader_32 : decode b_St_hasHeader 32 = .ok (.aload_n 0, 1) := by decide +kernel
theorem d_St_hasHeader_33 : decode b_St_hasHeader 33 = .ok (.getfield 9, 3) := by decide +kernel
theorem d_St_hasHeader_36 : decode b_St_hasHeader 36 = .ok (.iconst 0, 1) := by decide +kernel
theorem d_St_hasHeader_37 : decode b_St_hasHeader 37 = .ok (.iaload, 1) := by decide +kernel
theorem d_St_hasHeader_38 : decode b_St_hasHeader 38 = .ok (.aload_n 0, 1) := by decide +kernel
theorem d_St_hasHeader_39 : decode b_St_hasHeader 39 = .ok (.getfield 9, 3) := by decide +kernel
theorem d_St_hasHeader_42 : decode b_St_hasHeader 42 = .ok (.iconst 1, 1) := by decide +kernel
theorem d_St_hasHeader_43 : decode b_St_hasHeader 43 = .ok (.iaload, 1) := by decide +kernel
theorem d_St_hasHeader_44 : decode b_St_hasHeader 44 = .ok (.if_icmp .ne 17, 3) := by decide +kernel
theorem d_St_hasHeader_47 : decode b_St_hasHeader 47 = .ok (.aload_n 0, 1) := by decide +kernel
theorem d_St_hasHeader_48 : decode b_St_hasHeader 48 = .ok (.iconst 2, 1) := by decide +kernel
theorem d_St_hasHeader_49 : decode b_St_hasHeader 49 = .ok (.invokevirtual 32, 3) := by decide +kernel
theorem d_St_hasHeader_52 : decode b_St_hasHeader 52 = .ok (.bipush 42, 2) := by decide +kernel
theorem d_St_hasHeader_54 : decode b_St_hasHeader 54 = .ok (.if_icmp .ne 7, 3) := by decide +kernel
theorem d_St_hasHeader_57 : decode b_St_hasHeader 57 = .ok (.iconst 1, 1) := by decide +kernel
theorem d_St_hasHeader_58 : decode b_St_hasHeader 58 = .ok (.goto 4, 3) := by decide +kernel
theorem d_St_hasHeader_61 : decode b_St_hasHeader 61 = .ok (.iconst 0, 1) := by decide +kernel
theorem d_St_hasHeader_62 : decode b_St_hasHeader 62 = .ok (.ireturn, 1) := by decide +kernel
def wp_St_hasHeader_b61 (post : Int32 → Prop) (I_p0 : Nat → Int32) (f_p0_bytes : Nat → Int32) : Prop :=
  post 0
def wp_St_hasHeader_b27 (post : Int32 → Prop) (I_p0 : Nat → Int32) (f_p0_bytes : Nat → Int32) (s0 : Int32) : Prop :=
  ((s0 = 0 →
    wp_St_hasHeader_b61 post I_p0 f_p0_bytes) ∧
   (¬ s0 = 0 →
    vp_in 0 900 ∧
    vp_in 1 900 ∧
    (((f_p0_bytes 0) = (f_p0_bytes 1) →
      wp_St_shortAt (fun (r49 : Int32) =>
        ((r49 = 42 →
          post 1) ∧
         (¬ r49 = 42 →
          wp_St_hasHeader_b61 post I_p0 f_p0_bytes))) I_p0 f_p0_bytes 2) ∧
     (¬ (f_p0_bytes 0) = (f_p0_bytes 1) →
      wp_St_hasHeader_b61 post I_p0 f_p0_bytes))))
def wp_St_hasHeader_b22 (post : Int32 → Prop) (I_p0 : Nat → Int32) (f_p0_bytes : Nat → Int32) : Prop :=
  wp_St_hasHeader_b27 post I_p0 f_p0_bytes 1
def wp_St_hasHeader (post : Int32 → Prop) (I_p0 : Nat → Int32) (f_p0_bytes : Nat → Int32) : Prop :=
  vp_in 0 900 ∧
  (((f_p0_bytes 0) = 73 →
    wp_St_hasHeader_b22 post I_p0 f_p0_bytes) ∧
   (¬ (f_p0_bytes 0) = 73 →
    vp_in 0 900 ∧
    (((f_p0_bytes 0) = 77 →
      wp_St_hasHeader_b22 post I_p0 f_p0_bytes) ∧
     (¬ (f_p0_bytes 0) = 77 →
      wp_St_hasHeader_b27 post I_p0 f_p0_bytes 0))))
set_option maxRecDepth 100000 in
set_option maxHeartbeats 4000000 in
theorem c_St_hasHeader (l : Launch) (dC : Nat → ClassId) (dI : Nat → Nat → Nat) (cI : ClassId) (a_p0 : Nat) (A_p0 : Nat → Nat) (I_p0 : Nat → Int32) (f_p0_bytes : Nat → Int32) {post : Int32 → Prop} (hw : wp_St_hasHeader post I_p0 f_p0_bytes) : gm_i l y_St_hasHeader ws_St_hasHeader ({ frames := 1, cells := 0, slots := 0, locals := 21 } : Room) (dC, dI) vwCl [(cI, .int)] [.ref a_p0] [oSt a_p0 A_p0 I_p0, gz cI (A_p0 0) 900 f_p0_bytes] (fun (_ : Unit) => [oSt a_p0 A_p0 I_p0, gz cI (A_p0 0) 900 f_p0_bytes]) (fun (r : Int32) (_ : Unit) => post r) := by
  refine gm_iof (cc := b_St_hasHeader) (maxL := 2) (ty := .boolean) (by decide) rfl (Nat.le_of_ble_eq_true rfl) ?_
  intro p e s m args below meth c A Q hx hb hml hown hg hK hN hA hret
  have hown : s.vm.findClass R_St = some m.cls := hown
  have b61 : ∀ (H : Heap) (locs : List Loc) (ls : Array Slot), va_P (dC, dI) vwCl [oSt a_p0 A_p0 I_p0, gz cI (A_p0 0) 900 f_p0_bytes] H → va_D A [oSt a_p0 A_p0 I_p0, gz cI (A_p0 0) 900 f_p0_bytes] → va_S A s.heap H locs → lv_has ls 2 [] → wp_St_hasHeader_b61 post I_p0 f_p0_bytes → W p l e ({ frames := 1, cells := 0, slots := 0, locals := 21 } : Room) s m args below meth c H locs 0 0 Q (F0 m 61 ls []) := by
    intro H locs ls hP hD hS hl hw
    unfold wp_St_hasHeader_b61 at hw
    refine lv_iconst (v := 0) hx hb d_St_hasHeader_61 (by decide) ?_
    exact hret _ _ _ _ _ () d_St_hasHeader_62 rfl hP hD hS hw
  have b27 : ∀ (H : Heap) (locs : List Loc) (ls : Array Slot) (s0 : Int32), va_P (dC, dI) vwCl [oSt a_p0 A_p0 I_p0, gz cI (A_p0 0) 900 f_p0_bytes] H → va_D A [oSt a_p0 A_p0 I_p0, gz cI (A_p0 0) 900 f_p0_bytes] → va_S A s.heap H locs → lv_has ls 2 [(0, .ref a_p0)] → wp_St_hasHeader_b27 post I_p0 f_p0_bytes s0 → W p l e ({ frames := 1, cells := 0, slots := 0, locals := 21 } : Room) s m args below meth c H locs 0 0 Q (F0 m 27 ls [.int s0]) := by
    intro H locs ls s0 hP hD hS hl hw
    unfold wp_St_hasHeader_b27 at hw
    refine lv_istore_n (lv' := [(1, .int s0), (0, .ref a_p0)]) hx hb d_St_hasHeader_27 rfl hl (by decide) rfl (fun ls hl => ?_)
    refine lv_iload_n hx hb d_St_hasHeader_28 rfl (lv_at hl 0 rfl) ?_
    refine lv_if_eq hx hb d_St_hasHeader_29 rfl (fun hc => ?_) (fun hc => ?_)
    · have hw := hw.1 hc
      exact b61 _ _ _ hP hD hS (lv_sub hl [] rfl) hw
    · have hw := hw.2 hc
      refine lv_aload_n hx hb d_St_hasHeader_32 rfl (lv_at hl 1 rfl) ?_
      refine va_get (D := (dC, dI)) (ci := 7) (v := .ref (A_p0 0)) (C := R_St) (T := T_St) (N := 3) hx hb hg in_St hown hK hP 0 rfl rfl 0 (by decide) (hg _ t_88) (fun _ h9 => h9) rfl d_St_hasHeader_33 ?_
      refine lv_iconst (v := 0) hx hb d_St_hasHeader_36 (by decide) ?_
      obtain ⟨hin, hw⟩ := hw
      refine va_iald hx hb hK hP 1 0 rfl rfl hin d_St_hasHeader_37 ?_
      refine lv_aload_n hx hb d_St_hasHeader_38 rfl (lv_at hl 1 rfl) ?_
      refine va_get (D := (dC, dI)) (ci := 7) (v := .ref (A_p0 0)) (C := R_St) (T := T_St) (N := 3) hx hb hg in_St hown hK hP 0 rfl rfl 0 (by decide) (hg _ t_88) (fun _ h9 => h9) rfl d_St_hasHeader_39 ?_
      refine lv_iconst (v := 1) hx hb d_St_hasHeader_42 (by decide) ?_
      obtain ⟨hin, hw⟩ := hw
      refine va_iald hx hb hK hP 1 0 rfl rfl hin d_St_hasHeader_43 ?_
      refine lv_icmp_ne hx hb d_St_hasHeader_44 rfl (fun hc => ?_) (fun hc => ?_)
      · have hw := hw.2 hc
        exact b61 _ _ _ hP hD hS (lv_sub hl [] rfl) hw
      · have hw := hw.1 hc
        refine lv_aload_n hx hb d_St_hasHeader_47 rfl (lv_at hl 1 rfl) ?_
        refine lv_iconst (v := 2) hx hb d_St_hasHeader_48 (by decide) ?_
        refine gc_i (wn := fun (_ : Unit) => [oSt a_p0 A_p0 I_p0, gz cI (A_p0 0) 900 f_p0_bytes]) (wr := []) (gr_V (As := [.int 2]) (rest := []) ⟨hx, hb, hml, hown, hg⟩ (c_St_shortAt l dC dI cI a_p0 A_p0 I_p0 f_p0_bytes 2 hw _) (cwV 1 hg (gg_V t_457 t_458 t_459 t_61 t_460) rfl rfl rfl (by decide +kernel) ⟨Nat.le_of_ble_eq_true rfl, Nat.le_of_ble_eq_true rfl⟩) hK hN hP hD [0, 1] (by decide) rfl 0 7 rfl rfl rfl rfl hl.1 rfl (Nat.le_of_ble_eq_true rfl) d_St_hasHeader_49 ⟨Nat.le_of_ble_eq_true rfl, Nat.le_of_ble_eq_true rfl⟩) rfl rfl hP hD hS hA [0, 1] [] [0, 1] rfl rfl (by decide) (by decide) (by decide) (fun _ => rfl) ?_
        intro r49 _ H locs hw hP hD hS
        try dsimp only at hw
        have hP : va_P (dC, dI) vwCl [oSt a_p0 A_p0 I_p0, gz cI (A_p0 0) 900 f_p0_bytes] H := hP
        have hD : va_D A [oSt a_p0 A_p0 I_p0, gz cI (A_p0 0) 900 f_p0_bytes] := hD
        refine lv_bipush (v := 42) hx hb d_St_hasHeader_52 (by decide) ?_
        refine lv_icmp_ne hx hb d_St_hasHeader_54 rfl (fun hc => ?_) (fun hc => ?_)
        · have hw := hw.2 hc
          exact b61 _ _ _ hP hD hS (lv_sub hl [] rfl) hw
        · have hw := hw.1 hc
          refine lv_iconst (v := 1) hx hb d_St_hasHeader_57 (by decide) ?_
          refine lv_goto hx hb d_St_hasHeader_58 rfl ?_
          exact hret _ _ _ _ _ () d_St_hasHeader_62 rfl hP hD hS hw
  have b22 : ∀ (H : Heap) (locs : List Loc) (ls : Array Slot), va_P (dC, dI) vwCl [oSt a_p0 A_p0 I_p0, gz cI (A_p0 0) 900 f_p0_bytes] H → va_D A [oSt a_p0 A_p0 I_p0, gz cI (A_p0 0) 900 f_p0_bytes] → va_S A s.heap H locs → lv_has ls 2 [(0, .ref a_p0)] → wp_St_hasHeader_b22 post I_p0 f_p0_bytes → W p l e ({ frames := 1, cells := 0, slots := 0, locals := 21 } : Room) s m args below meth c H locs 0 0 Q (F0 m 22 ls []) := by
    intro H locs ls hP hD hS hl hw
    unfold wp_St_hasHeader_b22 at hw
    refine lv_iconst (v := 1) hx hb d_St_hasHeader_22 (by decide) ?_
    refine lv_goto hx hb d_St_hasHeader_23 rfl ?_
    exact b27 _ _ _ 1 hP hD hS (lv_sub hl [0] rfl) hw
  intro ls hl hP hD hS
  have hl : lv_has ls 2 [(0, .ref a_p0)] := hl
  unfold wp_St_hasHeader at hw
  refine lv_aload_n hx hb d_St_hasHeader_0 rfl (lv_at hl 0 rfl) ?_
  refine va_get (D := (dC, dI)) (ci := 7) (v := .ref (A_p0 0)) (C := R_St) (T := T_St) (N := 3) hx hb hg in_St hown hK hP 0 rfl rfl 0 (by decide) (hg _ t_88) (fun _ h9 => h9) rfl d_St_hasHeader_1 ?_
  refine lv_iconst (v := 0) hx hb d_St_hasHeader_4 (by decide) ?_
  obtain ⟨hin, hw⟩ := hw
  refine va_iald hx hb hK hP 1 0 rfl rfl hin d_St_hasHeader_5 ?_
  refine lv_bipush (v := 73) hx hb d_St_hasHeader_6 (by decide) ?_
  refine lv_icmp_eq hx hb d_St_hasHeader_8 rfl (fun hc => ?_) (fun hc => ?_)
  · have hw := hw.1 hc
    exact b22 _ _ _ hP hD hS (lv_sub hl [0] rfl) hw
  · have hw := hw.2 hc
    refine lv_aload_n hx hb d_St_hasHeader_11 rfl (lv_at hl 0 rfl) ?_
    refine va_get (D := (dC, dI)) (ci := 7) (v := .ref (A_p0 0)) (C := R_St) (T := T_St) (N := 3) hx hb hg in_St hown hK hP 0 rfl rfl 0 (by decide) (hg _ t_88) (fun _ h9 => h9) rfl d_St_hasHeader_12 ?_
    refine lv_iconst (v := 0) hx hb d_St_hasHeader_15 (by decide) ?_
    obtain ⟨hin, hw⟩ := hw
    refine va_iald hx hb hK hP 1 0 rfl rfl hin d_St_hasHeader_16 ?_
    refine lv_bipush (v := 77) hx hb d_St_hasHeader_17 (by decide) ?_
    refine lv_icmp_ne hx hb d_St_hasHeader_19 rfl (fun hc => ?_) (fun hc => ?_)
    · have hw := hw.2 hc
      refine lv_iconst (v := 0) hx hb d_St_hasHeader_26 (by decide) ?_
      exact b27 _ _ _ 0 hP hD hS (lv_sub hl [0] rfl) hw
    · have hw := hw.1 hc
      exact b22 _ _ _ hP hD hS (lv_sub hl [0] rfl) hw
theorem d_Wk_stands_0 : decode b_Wk_stands 0 = .ok (.lload_n 1, 1) := by decide +kernel
theorem d_Wk_stands_1 : decode b_Wk_stands 1 = .ok (.ldc2_w 48, 3) := by decide +kernel
theorem d_Wk_stands_4 : decode b_Wk_stands 4 = .ok (.lrem, 1) := by decide +kernel
theorem d_Wk_stands_5 : decode b_Wk_stands 5 = .ok (.lconst 0, 1) := by decide +kernel
theorem d_Wk_stands_6 : decode b_Wk_stands 6 = .ok (.lcmp, 1) := by decide +kernel
theorem d_Wk_stands_7 : decode b_Wk_stands 7 = .ok (.ifCond .ne 22, 3) := by decide +kernel
theorem d_Wk_stands_10 : decode b_Wk_stands 10 = .ok (.lload_n 1, 1) := by decide +kernel
theorem d_Wk_stands_11 : decode b_Wk_stands 11 = .ok (.ldc2_w 50, 3) := by decide +kernel
theorem d_Wk_stands_14 : decode b_Wk_stands 14 = .ok (.lcmp, 1) := by decide +kernel
theorem d_Wk_stands_15 : decode b_Wk_stands 15 = .ok (.ifCond .lt 14, 3) := by decide +kernel
theorem d_Wk_stands_18 : decode b_Wk_stands 18 = .ok (.aload_n 0, 1) := by decide +kernel
theorem d_Wk_stands_19 : decode b_Wk_stands 19 = .ok (.lload_n 1, 1) := by decide +kernel
theorem d_Wk_stands_20 : decode b_Wk_stands 20 = .ok (.ldc2_w 48, 3) := by decide +kernel
theorem d_Wk_stands_23 : decode b_Wk_stands 23 = .ok (.invokevirtual 52, 3) := by decide +kernel
theorem d_Wk_stands_26 : decode b_Wk_stands 26 = .ok (.ifCond .ne 5, 3) := by decide +kernel
theorem d_Wk_stands_29 : decode b_Wk_stands 29 = .ok (.iconst 0, 1) := by decide +kernel
theorem d_Wk_stands_30 : decode b_Wk_stands 30 = .ok (.ireturn, 1) := by decide +kernel
theorem d_Wk_stands_31 : decode b_Wk_stands 31 = .ok (.aload_n 0, 1) := by decide +kernel
theorem d_Wk_stands_32 : decode b_Wk_stands 32 = .ok (.lload_n 1, 1) := by decide +kernel
theorem d_Wk_stands_33 : decode b_Wk_stands 33 = .ok (.l2i, 1) := by decide +kernel
theorem d_Wk_stands_34 : decode b_Wk_stands 34 = .ok (.invokevirtual 44, 3) := by decide +kernel
theorem d_Wk_stands_37 : decode b_Wk_stands 37 = .ok (.istore_n 3, 1) := by decide +kernel
theorem d_Wk_stands_38 : decode b_Wk_stands 38 = .ok (.iload_n 3, 1) := by decide +kernel
theorem d_Wk_stands_39 : decode b_Wk_stands 39 = .ok (.iconst 1, 1) := by decide +kernel
theorem d_Wk_stands_40 : decode b_Wk_stands 40 = .ok (.if_icmp .lt 23, 3) := by decide +kernel
theorem d_Wk_stands_43 : decode b_Wk_stands 43 = .ok (.aload_n 0, 1) := by decide +kernel
theorem d_Wk_stands_44 : decode b_Wk_stands 44 = .ok (.lload_n 1, 1) := by decide +kernel
theorem d_Wk_stands_45 : decode b_Wk_stands 45 = .ok (.bipush 6, 2) := by decide +kernel
theorem d_Wk_stands_47 : decode b_Wk_stands 47 = .ok (.bipush 12, 2) := by decide +kernel
theorem d_Wk_stands_49 : decode b_Wk_stands 49 = .ok (.iload_n 3, 1) := by decide +kernel
theorem d_Wk_stands_50 : decode b_Wk_stands 50 = .ok (.imul, 1) := by decide +kernel
theorem d_Wk_stands_51 : decode b_Wk_stands 51 = .ok (.iadd, 1) := by decide +kernel
theorem d_Wk_stands_52 : decode b_Wk_stands 52 = .ok (.i2l, 1) := by decide +kernel
theorem d_Wk_stands_53 : decode b_Wk_stands 53 = .ok (.invokevirtual 52, 3) := by decide +kernel
theorem d_Wk_stands_56 : decode b_Wk_stands 56 = .ok (.ifCond .eq 7, 3) := by decide +kernel
theorem d_Wk_stands_59 : decode b_Wk_stands 59 = .ok (.iconst 1, 1) := by decide +kernel
theorem d_Wk_stands_60 : decode b_Wk_stands 60 = .ok (.goto 4, 3) := by decide +kernel
theorem d_Wk_stands_63 : decode b_Wk_stands 63 = .ok (.iconst 0, 1) := by decide +kernel
theorem d_Wk_stands_64 : decode b_Wk_stands 64 = .ok (.ireturn, 1) := by decide +kernel
def wp_Wk_stands_b63 (post : Int32 → Prop) (I_p0 : Nat → Int32) (f_p0_bytes : Nat → Int32) : Prop :=
  post 0
def wp_Wk_stands (post : Int32 → Prop) (I_p0 : Nat → Int32) (f_p0_bytes : Nat → Int32) (x1 : Int64) : Prop :=
  (((x1 - x1 / 2 * 2) = 0 →
    ((x1 < 8 →
      post 0) ∧
     (¬ x1 < 8 →
      wp_St_holds (fun (r23 : Int32) =>
        ((r23 = 0 →
          post 0) ∧
         (¬ r23 = 0 →
          wp_St_shortAt (fun (r34 : Int32) =>
            ((r34 < 1 →
              wp_Wk_stands_b63 post I_p0 f_p0_bytes) ∧
             (¬ r34 < 1 →
              wp_St_holds (fun (r53 : Int32) =>
                ((r53 = 0 →
                  wp_Wk_stands_b63 post I_p0 f_p0_bytes) ∧
                 (¬ r53 = 0 →
                  post 1))) I_p0 x1 ((6 + (12 * r34)).toInt64)))) I_p0 f_p0_bytes x1.toInt32))) I_p0 x1 2))) ∧
   (¬ (x1 - x1 / 2 * 2) = 0 →
    post 0))
set_option maxRecDepth 100000 in
set_option maxHeartbeats 4000000 in
theorem c_Wk_stands (l : Launch) (dC : Nat → ClassId) (dI : Nat → Nat → Nat) (cI : ClassId) (a_p0 : Nat) (A_p0 : Nat → Nat) (I_p0 : Nat → Int32) (f_p0_bytes : Nat → Int32) (x1 : Int64) {post : Int32 → Prop} (hw : wp_Wk_stands post I_p0 f_p0_bytes x1) : gm_i l y_Wk_stands ws_Wk_stands ({ frames := 1, cells := 0, slots := 0, locals := 24 } : Room) (dC, dI) vwCl [(cI, .int)] [.ref a_p0, .long x1] [oSt a_p0 A_p0 I_p0, gz cI (A_p0 0) 900 f_p0_bytes] (fun (_ : Unit) => [oSt a_p0 A_p0 I_p0, gz cI (A_p0 0) 900 f_p0_bytes]) (fun (r : Int32) (_ : Unit) => post r) := by
  refine gm_iof (cc := b_Wk_stands) (maxL := 4) (ty := .boolean) (by decide) rfl (Nat.le_of_ble_eq_true rfl) ?_
  intro p e s m args below meth c A Q hx hb hml hown hg hK hN hA hret
  have hown : s.vm.findClass R_Wk = some m.cls := hown
  have b63 : ∀ (H : Heap) (locs : List Loc) (ls : Array Slot), va_P (dC, dI) vwCl [oSt a_p0 A_p0 I_p0, gz cI (A_p0 0) 900 f_p0_bytes] H → va_D A [oSt a_p0 A_p0 I_p0, gz cI (A_p0 0) 900 f_p0_bytes] → va_S A s.heap H locs → lv_has ls 4 [] → wp_Wk_stands_b63 post I_p0 f_p0_bytes → W p l e ({ frames := 1, cells := 0, slots := 0, locals := 24 } : Room) s m args below meth c H locs 0 0 Q (F0 m 63 ls []) := by
    intro H locs ls hP hD hS hl hw
    unfold wp_Wk_stands_b63 at hw
    refine lv_iconst (v := 0) hx hb d_Wk_stands_63 (by decide) ?_
    exact hret _ _ _ _ _ () d_Wk_stands_64 rfl hP hD hS hw
  intro ls hl hP hD hS
  have hl : lv_has ls 4 [(0, .ref a_p0), (1, .long x1)] := hl
  unfold wp_Wk_stands at hw
  refine lv_lload_n hx hb d_Wk_stands_0 rfl (lv_at hl 1 rfl) ?_
  refine lv_ldc2 (v := 2) hx hb hown (hg _ t_469) d_Wk_stands_1 ?_
  refine lv_lrem hx hb d_Wk_stands_4 (by decide) ?_
  refine lv_lconst (v := 0) hx hb d_Wk_stands_5 (by decide) ?_
  refine W.lcmp hx hb d_Wk_stands_6 ?_
  refine lv_if_ne hx hb d_Wk_stands_7 rfl (fun hc => ?_) (fun hc => ?_)
  · have hw := hw.2 (fun h9 => hc ((lg_cmp_eq _ _).mpr h9))
    refine lv_iconst (v := 0) hx hb d_Wk_stands_29 (by decide) ?_
    exact hret _ _ _ _ _ () d_Wk_stands_30 rfl hP hD hS hw
  · have hw := hw.1 ((lg_cmp_eq _ _).mp hc)
    refine lv_lload_n hx hb d_Wk_stands_10 rfl (lv_at hl 1 rfl) ?_
    refine lv_ldc2 (v := 8) hx hb hown (hg _ t_470) d_Wk_stands_11 ?_
    refine W.lcmp hx hb d_Wk_stands_14 ?_
    refine lv_if_lt hx hb d_Wk_stands_15 rfl (fun hc => ?_) (fun hc => ?_)
    · have hw := hw.1 ((lg_cmp_lt _ _).mp hc)
      refine lv_iconst (v := 0) hx hb d_Wk_stands_29 (by decide) ?_
      exact hret _ _ _ _ _ () d_Wk_stands_30 rfl hP hD hS hw
    · have hw := hw.2 (fun h9 => hc ((lg_cmp_lt _ _).mpr h9))
      refine lv_aload_n hx hb d_Wk_stands_18 rfl (lv_at hl 0 rfl) ?_
      refine lv_lload_n hx hb d_Wk_stands_19 rfl (lv_at hl 1 rfl) ?_
      refine lv_ldc2 (v := 2) hx hb hown (hg _ t_469) d_Wk_stands_20 ?_
      refine gc_i (wn := fun (_ : Unit) => [oSt a_p0 A_p0 I_p0, gz cI (A_p0 0) 900 f_p0_bytes]) (wr := [gz cI (A_p0 0) 900 f_p0_bytes]) (gr_V (As := [.long x1, .long 2]) (rest := []) ⟨hx, hb, hml, hown, hg⟩ (c_St_holds l dC dI cI a_p0 A_p0 I_p0 x1 2 hw _) (cwV 2 hg (gg_V t_471 t_363 t_364 t_61 t_365) rfl rfl rfl (by decide +kernel) ⟨Nat.le_of_ble_eq_true rfl, Nat.le_of_ble_eq_true rfl⟩) hK hN hP hD [0] (by decide) rfl 0 7 rfl rfl rfl rfl hl.1 rfl (Nat.le_of_ble_eq_true rfl) d_Wk_stands_23 ⟨Nat.le_of_ble_eq_true rfl, Nat.le_of_ble_eq_true rfl⟩) rfl rfl hP hD hS hA [0] [1] [1, 0] rfl rfl (by decide) (by decide) (by decide) (fun _ => rfl) ?_
      intro r23 _ H locs hw hP hD hS
      try dsimp only at hw
      have hP : va_P (dC, dI) vwCl [oSt a_p0 A_p0 I_p0, gz cI (A_p0 0) 900 f_p0_bytes] H := hP
      have hD : va_D A [oSt a_p0 A_p0 I_p0, gz cI (A_p0 0) 900 f_p0_bytes] := hD
      refine lv_if_ne hx hb d_Wk_stands_26 rfl (fun hc => ?_) (fun hc => ?_)
      · have hw := hw.2 hc
        refine lv_aload_n hx hb d_Wk_stands_31 rfl (lv_at hl 0 rfl) ?_
        refine lv_lload_n hx hb d_Wk_stands_32 rfl (lv_at hl 1 rfl) ?_
        refine lv_l2i hx hb d_Wk_stands_33 rfl ?_
        refine gc_i (wn := fun (_ : Unit) => [oSt a_p0 A_p0 I_p0, gz cI (A_p0 0) 900 f_p0_bytes]) (wr := []) (gr_V (As := [.int x1.toInt32]) (rest := []) ⟨hx, hb, hml, hown, hg⟩ (c_St_shortAt l dC dI cI a_p0 A_p0 I_p0 f_p0_bytes x1.toInt32 hw _) (cwV 1 hg (gg_V t_472 t_458 t_459 t_61 t_460) rfl rfl rfl (by decide +kernel) ⟨Nat.le_of_ble_eq_true rfl, Nat.le_of_ble_eq_true rfl⟩) hK hN hP hD [0, 1] (by decide) rfl 0 7 rfl rfl rfl rfl hl.1 rfl (Nat.le_of_ble_eq_true rfl) d_Wk_stands_34 ⟨Nat.le_of_ble_eq_true rfl, Nat.le_of_ble_eq_true rfl⟩) rfl rfl hP hD hS hA [0, 1] [] [0, 1] rfl rfl (by decide) (by decide) (by decide) (fun _ => rfl) ?_
        intro r34 _ H locs hw hP hD hS
        try dsimp only at hw
        have hP : va_P (dC, dI) vwCl [oSt a_p0 A_p0 I_p0, gz cI (A_p0 0) 900 f_p0_bytes] H := hP
        have hD : va_D A [oSt a_p0 A_p0 I_p0, gz cI (A_p0 0) 900 f_p0_bytes] := hD
        refine lv_istore_n (lv' := [(3, .int r34), (0, .ref a_p0), (1, .long x1)]) hx hb d_Wk_stands_37 rfl hl (by decide) rfl (fun ls hl => ?_)
        refine lv_iload_n hx hb d_Wk_stands_38 rfl (lv_at hl 0 rfl) ?_
        refine lv_iconst (v := 1) hx hb d_Wk_stands_39 (by decide) ?_
        refine lv_icmp_lt hx hb d_Wk_stands_40 rfl (fun hc => ?_) (fun hc => ?_)
        · have hw := hw.1 hc
          exact b63 _ _ _ hP hD hS (lv_sub hl [] rfl) hw
        · have hw := hw.2 hc
          refine lv_aload_n hx hb d_Wk_stands_43 rfl (lv_at hl 1 rfl) ?_
          refine lv_lload_n hx hb d_Wk_stands_44 rfl (lv_at hl 2 rfl) ?_
          refine lv_bipush (v := 6) hx hb d_Wk_stands_45 (by decide) ?_
          refine lv_bipush (v := 12) hx hb d_Wk_stands_47 (by decide) ?_
          refine lv_iload_n hx hb d_Wk_stands_49 rfl (lv_at hl 0 rfl) ?_
          refine lv_imul hx hb d_Wk_stands_50 ?_
          refine lv_iadd hx hb d_Wk_stands_51 ?_
          refine lv_i2l hx hb d_Wk_stands_52 rfl ?_
          refine gc_i (wn := fun (_ : Unit) => [oSt a_p0 A_p0 I_p0, gz cI (A_p0 0) 900 f_p0_bytes]) (wr := [gz cI (A_p0 0) 900 f_p0_bytes]) (gr_V (As := [.long x1, .long (6 + (12 * r34)).toInt64]) (rest := []) ⟨hx, hb, hml, hown, hg⟩ (c_St_holds l dC dI cI a_p0 A_p0 I_p0 x1 ((6 + (12 * r34)).toInt64) hw _) (cwV 2 hg (gg_V t_471 t_363 t_364 t_61 t_365) rfl rfl rfl (by decide +kernel) ⟨Nat.le_of_ble_eq_true rfl, Nat.le_of_ble_eq_true rfl⟩) hK hN hP hD [0] (by decide) rfl 0 7 rfl rfl rfl rfl hl.1 rfl (Nat.le_of_ble_eq_true rfl) d_Wk_stands_53 ⟨Nat.le_of_ble_eq_true rfl, Nat.le_of_ble_eq_true rfl⟩) rfl rfl hP hD hS hA [0] [1] [1, 0] rfl rfl (by decide) (by decide) (by decide) (fun _ => rfl) ?_
          intro r53 _ H locs hw hP hD hS
          try dsimp only at hw
          have hP : va_P (dC, dI) vwCl [oSt a_p0 A_p0 I_p0, gz cI (A_p0 0) 900 f_p0_bytes] H := hP
          have hD : va_D A [oSt a_p0 A_p0 I_p0, gz cI (A_p0 0) 900 f_p0_bytes] := hD
          refine lv_if_eq hx hb d_Wk_stands_56 rfl (fun hc => ?_) (fun hc => ?_)
          · have hw := hw.1 hc
            exact b63 _ _ _ hP hD hS (lv_sub hl [] rfl) hw
          · have hw := hw.2 hc
            refine lv_iconst (v := 1) hx hb d_Wk_stands_59 (by decide) ?_
            refine lv_goto hx hb d_Wk_stands_60 rfl ?_
            exact hret _ _ _ _ _ () d_Wk_stands_64 rfl hP hD hS hw
      · have hw := hw.1 hc
        refine lv_iconst (v := 0) hx hb d_Wk_stands_29 (by decide) ?_
        exact hret _ _ _ _ _ () d_Wk_stands_30 rfl hP hD hS hw
theorem d_Wk_wasMet_0 : decode b_Wk_wasMet 0 = .ok (.iconst 0, 1) := by decide +kernel
theorem d_Wk_wasMet_1 : decode b_Wk_wasMet 1 = .ok (.istore_n 3, 1) := by decide +kernel
theorem d_Wk_wasMet_2 : decode b_Wk_wasMet 2 = .ok (.iload_n 3, 1) := by decide +kernel
theorem d_Wk_wasMet_3 : decode b_Wk_wasMet 3 = .ok (.aload_n 0, 1) := by decide +kernel
theorem d_Wk_wasMet_4 : decode b_Wk_wasMet 4 = .ok (.getfield 15, 3) := by decide +kernel
theorem d_Wk_wasMet_7 : decode b_Wk_wasMet 7 = .ok (.if_icmp .ge 23, 3) := by decide +kernel
theorem d_Wk_wasMet_10 : decode b_Wk_wasMet 10 = .ok (.aload_n 0, 1) := by decide +kernel
theorem d_Wk_wasMet_11 : decode b_Wk_wasMet 11 = .ok (.getfield 9, 3) := by decide +kernel
theorem d_Wk_wasMet_14 : decode b_Wk_wasMet 14 = .ok (.iload_n 3, 1) := by decide +kernel
theorem d_Wk_wasMet_15 : decode b_Wk_wasMet 15 = .ok (.iaload, 1) := by decide +kernel
theorem d_Wk_wasMet_16 : decode b_Wk_wasMet 16 = .ok (.i2l, 1) := by decide +kernel
theorem d_Wk_wasMet_17 : decode b_Wk_wasMet 17 = .ok (.lload_n 1, 1) := by decide +kernel
theorem d_Wk_wasMet_18 : decode b_Wk_wasMet 18 = .ok (.lcmp, 1) := by decide +kernel
theorem d_Wk_wasMet_19 : decode b_Wk_wasMet 19 = .ok (.ifCond .ne 5, 3) := by decide +kernel
theorem d_Wk_wasMet_22 : decode b_Wk_wasMet 22 = .ok (.iconst 1, 1) := by decide +kernel
theorem d_Wk_wasMet_23 : decode b_Wk_wasMet 23 = .ok (.ireturn, 1) := by decide +kernel
theorem d_Wk_wasMet_24 : decode b_Wk_wasMet 24 = .ok (.iinc 3 1, 3) := by decide +kernel
theorem d_Wk_wasMet_27 : decode b_Wk_wasMet 27 = .ok (.goto (-25), 3) := by decide +kernel
theorem d_Wk_wasMet_30 : decode b_Wk_wasMet 30 = .ok (.iconst 0, 1) := by decide +kernel
theorem d_Wk_wasMet_31 : decode b_Wk_wasMet 31 = .ok (.ireturn, 1) := by decide +kernel
def wp_Wk_wasMet_l2 (post : Int32 → Prop) (I_p0 : Nat → Int32) (f_p0_places : Nat → Int32) : Nat → Int64 → Int32 → Prop
  | 0, _, _ => False
  | n + 1, x1, x3 =>
    (((I_p0 1) ≤ x3 →
      post 0) ∧
     (¬ (I_p0 1) ≤ x3 →
      vp_in x3 8 ∧
      (((f_p0_places (x3).toNatClampNeg).toInt64 = x1 →
        post 1) ∧
       (¬ (f_p0_places (x3).toNatClampNeg).toInt64 = x1 →
        wp_Wk_wasMet_l2 post I_p0 f_p0_places n x1 (x3 + 1)))))
def wp_Wk_wasMet (post : Int32 → Prop) (I_p0 : Nat → Int32) (f_p0_places : Nat → Int32) (x1 : Int64) : Prop :=
  (∃ n1 : Nat, wp_Wk_wasMet_l2 post I_p0 f_p0_places n1 x1 0)
set_option maxRecDepth 100000 in
set_option maxHeartbeats 4000000 in
theorem c_Wk_wasMet (l : Launch) (dC : Nat → ClassId) (dI : Nat → Nat → Nat) (cI : ClassId) (a_p0 : Nat) (A_p0 : Nat → Nat) (I_p0 : Nat → Int32) (f_p0_places : Nat → Int32) (x1 : Int64) {post : Int32 → Prop} (hw : wp_Wk_wasMet post I_p0 f_p0_places x1) : gm_i l y_Wk_wasMet ws_Wk_wasMet ({ frames := 0, cells := 0, slots := 0, locals := 0 } : Room) (dC, dI) vwCl [(cI, .int)] [.ref a_p0, .long x1] [oWk a_p0 A_p0 I_p0, gz cI (A_p0 0) 8 f_p0_places] (fun (_ : Unit) => [oWk a_p0 A_p0 I_p0, gz cI (A_p0 0) 8 f_p0_places]) (fun (r : Int32) (_ : Unit) => post r) := by
  refine gm_iof (cc := b_Wk_wasMet) (maxL := 4) (ty := .boolean) (by decide) rfl (Nat.le_of_ble_eq_true rfl) ?_
  intro p e s m args below meth c A Q hx hb hml hown hg hK hN hA hret
  have hown : s.vm.findClass R_Wk = some m.cls := hown
  have l2 : ∀ n : Nat, ∀ (H : Heap) (locs : List Loc) (ls : Array Slot) (x1 : Int64) (x3 : Int32), va_P (dC, dI) vwCl [oWk a_p0 A_p0 I_p0, gz cI (A_p0 0) 8 f_p0_places] H → va_D A [oWk a_p0 A_p0 I_p0, gz cI (A_p0 0) 8 f_p0_places] → va_S A s.heap H locs → lv_has ls 4 [(0, .ref a_p0), (1, .long x1), (3, .int x3)] → wp_Wk_wasMet_l2 post I_p0 f_p0_places n x1 x3 → W p l e ({ frames := 0, cells := 0, slots := 0, locals := 0 } : Room) s m args below meth c H locs 0 0 Q (F0 m 2 ls []) := by
    intro n
    induction n with
    | zero => intro H locs ls x1 x3 hP hD hS hl hw; exact hw.elim
    | succ n ih =>
      intro H locs ls x1 x3 hP hD hS hl hw
      unfold wp_Wk_wasMet_l2 at hw
      refine lv_iload_n hx hb d_Wk_wasMet_2 rfl (lv_at hl 2 rfl) ?_
      refine lv_aload_n hx hb d_Wk_wasMet_3 rfl (lv_at hl 0 rfl) ?_
      refine va_get (D := (dC, dI)) (ci := 8) (v := .int (I_p0 1)) (C := R_Wk) (T := T_Wk) (N := 4) hx hb hg in_Wk hown hK hP 0 rfl rfl 1 (by decide) (hg _ t_114) (fun _ h9 => h9) rfl d_Wk_wasMet_4 ?_
      refine lv_icmp_ge hx hb d_Wk_wasMet_7 rfl (fun hc => ?_) (fun hc => ?_)
      · have hw := hw.1 hc
        refine lv_iconst (v := 0) hx hb d_Wk_wasMet_30 (by decide) ?_
        exact hret _ _ _ _ _ () d_Wk_wasMet_31 rfl hP hD hS hw
      · have hw := hw.2 hc
        refine lv_aload_n hx hb d_Wk_wasMet_10 rfl (lv_at hl 0 rfl) ?_
        refine va_get (D := (dC, dI)) (ci := 8) (v := .ref (A_p0 0)) (C := R_Wk) (T := T_Wk) (N := 4) hx hb hg in_Wk hown hK hP 0 rfl rfl 0 (by decide) (hg _ t_112) (fun _ h9 => h9) rfl d_Wk_wasMet_11 ?_
        refine lv_iload_n hx hb d_Wk_wasMet_14 rfl (lv_at hl 2 rfl) ?_
        obtain ⟨hin, hw⟩ := hw
        refine va_iald hx hb hK hP 1 0 rfl rfl hin d_Wk_wasMet_15 ?_
        refine lv_i2l hx hb d_Wk_wasMet_16 rfl ?_
        refine lv_lload_n hx hb d_Wk_wasMet_17 rfl (lv_at hl 1 rfl) ?_
        refine W.lcmp hx hb d_Wk_wasMet_18 ?_
        refine lv_if_ne hx hb d_Wk_wasMet_19 rfl (fun hc => ?_) (fun hc => ?_)
        · have hw := hw.2 (fun h9 => hc ((lg_cmp_eq _ _).mpr h9))
          refine lv_iinc (k := 2) (v := (x3 + 1)) (lv' := [(3, .int (x3 + 1)), (0, .ref a_p0), (1, .long x1)]) hx hb d_Wk_wasMet_24 hl rfl (congrArg (fun z => x3 + z) (by decide : Int32.ofInt 1 = 1)) (by decide) rfl (fun ls hl => ?_)
          refine lv_goto hx hb d_Wk_wasMet_27 rfl ?_
          exact ih _ _ _ x1 (x3 + 1) hP hD hS (lv_sub hl [1, 2, 0] rfl) hw
        · have hw := hw.1 ((lg_cmp_eq _ _).mp hc)
          refine lv_iconst (v := 1) hx hb d_Wk_wasMet_22 (by decide) ?_
          exact hret _ _ _ _ _ () d_Wk_wasMet_23 rfl hP hD hS hw
  intro ls hl hP hD hS
  have hl : lv_has ls 4 [(0, .ref a_p0), (1, .long x1)] := hl
  unfold wp_Wk_wasMet at hw
  refine lv_iconst (v := 0) hx hb d_Wk_wasMet_0 (by decide) ?_
  refine lv_istore_n (lv' := [(3, .int 0), (0, .ref a_p0), (1, .long x1)]) hx hb d_Wk_wasMet_1 rfl hl (by decide) rfl (fun ls hl => ?_)
  obtain ⟨n1, hw⟩ := hw
  exact l2 n1 _ _ _ x1 0 hP hD hS (lv_sub hl [1, 2, 0] rfl) hw
