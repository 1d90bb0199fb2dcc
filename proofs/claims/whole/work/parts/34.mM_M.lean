theorem d_M_wash_0 : decode b_M_wash 0 = .ok (.lconst 1, 1) := by decide +kernel
theorem d_M_wash_1 : decode b_M_wash 1 = .ok (.aload_n 0, 1) := by decide +kernel
theorem d_M_wash_2 : decode b_M_wash 2 = .ok (.getfield 20, 3) := by decide +kernel
theorem d_M_wash_5 : decode b_M_wash 5 = .ok (.lshl, 1) := by decide +kernel
theorem d_M_wash_6 : decode b_M_wash 6 = .ok (.lstore 4, 2) := by decide +kernel
theorem d_M_wash_8 : decode b_M_wash 8 = .ok (.iconst 0, 1) := by decide +kernel
theorem d_M_wash_9 : decode b_M_wash 9 = .ok (.istore 6, 2) := by decide +kernel
theorem d_M_wash_11 : decode b_M_wash 11 = .ok (.iload 6, 2) := by decide +kernel
theorem d_M_wash_13 : decode b_M_wash 13 = .ok (.aload_n 0, 1) := by decide +kernel
theorem d_M_wash_14 : decode b_M_wash 14 = .ok (.getfield 17, 3) := by decide +kernel
theorem d_M_wash_17 : decode b_M_wash 17 = .ok (.if_icmp .ge 85, 3) := by decide +kernel
theorem d_M_wash_20 : decode b_M_wash 20 = .ok (.iconst 0, 1) := by decide +kernel
theorem d_M_wash_21 : decode b_M_wash 21 = .ok (.istore 7, 2) := by decide +kernel
theorem d_M_wash_23 : decode b_M_wash 23 = .ok (.iload 7, 2) := by decide +kernel
theorem d_M_wash_25 : decode b_M_wash 25 = .ok (.aload_n 0, 1) := by decide +kernel
theorem d_M_wash_26 : decode b_M_wash 26 = .ok (.getfield 13, 3) := by decide +kernel
theorem d_M_wash_29 : decode b_M_wash 29 = .ok (.if_icmp .ge 67, 3) := by decide +kernel
theorem d_M_wash_32 : decode b_M_wash 32 = .ok (.iload_n 1, 1) := by decide +kernel
theorem d_M_wash_33 : decode b_M_wash 33 = .ok (.i2l, 1) := by decide +kernel
theorem d_M_wash_34 : decode b_M_wash 34 = .ok (.iload 7, 2) := by decide +kernel
theorem d_M_wash_36 : decode b_M_wash 36 = .ok (.i2l, 1) := by decide +kernel
theorem d_M_wash_37 : decode b_M_wash 37 = .ok (.lmul, 1) := by decide +kernel
theorem d_M_wash_38 : decode b_M_wash 38 = .ok (.iload_n 2, 1) := by decide +kernel
theorem d_M_wash_39 : decode b_M_wash 39 = .ok (.i2l, 1) := by decide +kernel
theorem d_M_wash_40 : decode b_M_wash 40 = .ok (.iload 6, 2) := by decide +kernel
theorem d_M_wash_42 : decode b_M_wash 42 = .ok (.i2l, 1) := by decide +kernel
theorem d_M_wash_43 : decode b_M_wash 43 = .ok (.lmul, 1) := by decide +kernel
theorem d_M_wash_44 : decode b_M_wash 44 = .ok (.ladd, 1) := by decide +kernel
theorem d_M_wash_45 : decode b_M_wash 45 = .ok (.iload_n 3, 1) := by decide +kernel
theorem d_M_wash_46 : decode b_M_wash 46 = .ok (.i2l, 1) := by decide +kernel
theorem d_M_wash_47 : decode b_M_wash 47 = .ok (.ladd, 1) := by decide +kernel
theorem d_M_wash_48 : decode b_M_wash 48 = .ok (.aload_n 0, 1) := by decide +kernel
theorem d_M_wash_49 : decode b_M_wash 49 = .ok (.getfield 23, 3) := by decide +kernel
theorem d_M_wash_52 : decode b_M_wash 52 = .ok (.bipush 16, 2) := by decide +kernel
theorem d_M_wash_54 : decode b_M_wash 54 = .ok (.iload 6, 2) := by decide +kernel
theorem d_M_wash_56 : decode b_M_wash 56 = .ok (.imul, 1) := by decide +kernel
theorem d_M_wash_57 : decode b_M_wash 57 = .ok (.iload 7, 2) := by decide +kernel
theorem d_M_wash_59 : decode b_M_wash 59 = .ok (.iadd, 1) := by decide +kernel
theorem d_M_wash_60 : decode b_M_wash 60 = .ok (.iaload, 1) := by decide +kernel
theorem d_M_wash_61 : decode b_M_wash 61 = .ok (.i2l, 1) := by decide +kernel
theorem d_M_wash_62 : decode b_M_wash 62 = .ok (.ladd, 1) := by decide +kernel
theorem d_M_wash_63 : decode b_M_wash 63 = .ok (.lstore 8, 2) := by decide +kernel
theorem d_M_wash_65 : decode b_M_wash 65 = .ok (.aload_n 0, 1) := by decide +kernel
theorem d_M_wash_66 : decode b_M_wash 66 = .ok (.getfield 23, 3) := by decide +kernel
theorem d_M_wash_69 : decode b_M_wash 69 = .ok (.bipush 16, 2) := by decide +kernel
theorem d_M_wash_71 : decode b_M_wash 71 = .ok (.iload 6, 2) := by decide +kernel
theorem d_M_wash_73 : decode b_M_wash 73 = .ok (.imul, 1) := by decide +kernel
theorem d_M_wash_74 : decode b_M_wash 74 = .ok (.iload 7, 2) := by decide +kernel
theorem d_M_wash_76 : decode b_M_wash 76 = .ok (.iadd, 1) := by decide +kernel
theorem d_M_wash_77 : decode b_M_wash 77 = .ok (.lload 8, 2) := by decide +kernel
theorem d_M_wash_79 : decode b_M_wash 79 = .ok (.lload 4, 2) := by decide +kernel
theorem d_M_wash_81 : decode b_M_wash 81 = .ok (.lrem, 1) := by decide +kernel
theorem d_M_wash_82 : decode b_M_wash 82 = .ok (.lload 4, 2) := by decide +kernel
theorem d_M_wash_84 : decode b_M_wash 84 = .ok (.ladd, 1) := by decide +kernel
theorem d_M_wash_85 : decode b_M_wash 85 = .ok (.lload 4, 2) := by decide +kernel
theorem d_M_wash_87 : decode b_M_wash 87 = .ok (.lrem, 1) := by decide +kernel
theorem d_M_wash_88 : decode b_M_wash 88 = .ok (.l2i, 1) := by decide +kernel
theorem d_M_wash_89 : decode b_M_wash 89 = .ok (.iastore, 1) := by decide +kernel
theorem d_M_wash_90 : decode b_M_wash 90 = .ok (.iinc 7 1, 3) := by decide +kernel
theorem d_M_wash_93 : decode b_M_wash 93 = .ok (.goto (-70), 3) := by decide +kernel
theorem d_M_wash_96 : decode b_M_wash 96 = .ok (.iinc 6 1, 3) := by decide +kernel
theorem d_M_wash_99 : decode b_M_wash 99 = .ok (.goto (-88), 3) := by decide +kernel
theorem d_M_wash_102 : decode b_M_wash 102 = .ok (.return_, 1) := by decide +kernel
def wp_M_wash_l23 (post : (Nat → Int32) → Prop) (k11 : (Nat → Int32) → Int32 → Int32 → Int32 → Int64 → Int32 → Prop) (I_p0 : Nat → Int32) : Nat → (Nat → Int32) → Int32 → Int32 → Int32 → Int64 → Int32 → Int32 → Prop
  | 0, _, _, _, _, _, _, _ => False
  | n + 1, f_p0_samples, x1, x2, x3, x4, x6, x7 =>
    (((I_p0 3) ≤ x7 →
      k11 f_p0_samples x1 x2 x3 x4 (x6 + 1)) ∧
     (¬ (I_p0 3) ≤ x7 →
      vp_in ((16 * x6) + x7) 256 ∧
      ∀ v : Int64, v = ((((x1.toInt64 * x7.toInt64) + (x2.toInt64 * x6.toInt64)) + x3.toInt64) + (f_p0_samples ((16 * x6) + x7).toNatClampNeg).toInt64) →
      ¬ x4 = 0 ∧
      ¬ x4 = 0 ∧
      vp_in ((16 * x6) + x7) 256 ∧
      wp_M_wash_l23 post k11 I_p0 n (upd f_p0_samples ((16 * x6) + x7).toNatClampNeg (((v - v / x4 * x4) + x4) - ((v - v / x4 * x4) + x4) / x4 * x4).toInt32) x1 x2 x3 x4 x6 (x7 + 1)))
def wp_M_wash_l11 (post : (Nat → Int32) → Prop) (I_p0 : Nat → Int32) : Nat → (Nat → Int32) → Int32 → Int32 → Int32 → Int64 → Int32 → Prop
  | 0, _, _, _, _, _, _ => False
  | n + 1, f_p0_samples, x1, x2, x3, x4, x6 =>
    (((I_p0 4) ≤ x6 →
      post f_p0_samples) ∧
     (¬ (I_p0 4) ≤ x6 →
      (∃ n1 : Nat, wp_M_wash_l23 post (wp_M_wash_l11 post I_p0 n) I_p0 n1 f_p0_samples x1 x2 x3 x4 x6 0)))
def wp_M_wash (post : (Nat → Int32) → Prop) (I_p0 : Nat → Int32) (f_p0_samples : Nat → Int32) (x1 : Int32) (x2 : Int32) (x3 : Int32) : Prop :=
  (∃ n1 : Nat, wp_M_wash_l11 post I_p0 n1 f_p0_samples x1 x2 x3 (1 <<< ((I_p0 5).toInt64 &&& 63)) 0)
set_option maxRecDepth 100000 in
set_option maxHeartbeats 4000000 in
theorem c_M_wash (l : Launch) (dC : Nat → ClassId) (dI : Nat → Nat → Nat) (cI : ClassId) (a_p0 : Nat) (A_p0 : Nat → Nat) (I_p0 : Nat → Int32) (f_p0_samples : Nat → Int32) (x1 : Int32) (x2 : Int32) (x3 : Int32) {post : (Nat → Int32) → Prop} (hw : wp_M_wash post I_p0 f_p0_samples x1 x2 x3) : gm_v l y_M_wash ws_M_wash ({ frames := 0, cells := 0, slots := 0, locals := 0 } : Room) (dC, dI) vwCl [(cI, .int)] [.ref a_p0, .int x1, .int x2, .int x3] [oM a_p0 A_p0 I_p0, gz cI (A_p0 6) 256 f_p0_samples] (fun (u : (Nat → Int32)) => [oM a_p0 A_p0 I_p0, gz cI (A_p0 6) 256 u]) (fun (u : (Nat → Int32)) => post  u) := by
  refine gm_vof (cc := b_M_wash) (maxL := 10) (by decide) rfl (Nat.le_of_ble_eq_true rfl) ?_
  intro p e s m args below meth c A Q hx hb hml hown hg hK hN hA hnm hret
  have hown : s.vm.findClass R_M = some m.cls := hown
  have l23 : ∀ (k11 : (Nat → Int32) → Int32 → Int32 → Int32 → Int64 → Int32 → Prop), (∀ (H : Heap) (locs : List Loc) (ls : Array Slot) (f_p0_samples : Nat → Int32) (x1 : Int32) (x2 : Int32) (x3 : Int32) (x4 : Int64) (x6 : Int32), va_P (dC, dI) vwCl [oM a_p0 A_p0 I_p0, gz cI (A_p0 6) 256 f_p0_samples] H → va_D A [oM a_p0 A_p0 I_p0, gz cI (A_p0 6) 256 f_p0_samples] → va_S A s.heap H locs → lv_has ls 10 [(0, .ref a_p0), (1, .int x1), (2, .int x2), (3, .int x3), (4, .long x4), (6, .int x6)] → k11 f_p0_samples x1 x2 x3 x4 x6 → W p l e ({ frames := 0, cells := 0, slots := 0, locals := 0 } : Room) s m args below meth c H locs 0 0 Q (F0 m 11 ls [])) → ∀ n : Nat, ∀ (H : Heap) (locs : List Loc) (ls : Array Slot) (f_p0_samples : Nat → Int32) (x1 : Int32) (x2 : Int32) (x3 : Int32) (x4 : Int64) (x6 : Int32) (x7 : Int32), va_P (dC, dI) vwCl [oM a_p0 A_p0 I_p0, gz cI (A_p0 6) 256 f_p0_samples] H → va_D A [oM a_p0 A_p0 I_p0, gz cI (A_p0 6) 256 f_p0_samples] → va_S A s.heap H locs → lv_has ls 10 [(0, .ref a_p0), (1, .int x1), (2, .int x2), (3, .int x3), (4, .long x4), (6, .int x6), (7, .int x7)] → wp_M_wash_l23 post k11 I_p0 n f_p0_samples x1 x2 x3 x4 x6 x7 → W p l e ({ frames := 0, cells := 0, slots := 0, locals := 0 } : Room) s m args below meth c H locs 0 0 Q (F0 m 23 ls []) := by
    intro k11 hk11 n
    induction n with
    | zero => intro H locs ls f_p0_samples x1 x2 x3 x4 x6 x7 hP hD hS hl hw; exact hw.elim
    | succ n ih =>
      intro H locs ls f_p0_samples x1 x2 x3 x4 x6 x7 hP hD hS hl hw
      unfold wp_M_wash_l23 at hw
      refine lv_iload hx hb d_M_wash_23 (lv_at hl 6 rfl) ?_
      refine lv_aload_n hx hb d_M_wash_25 rfl (lv_at hl 0 rfl) ?_
      refine va_get (D := (dC, dI)) (ci := 10) (v := .int (I_p0 3)) (C := R_M) (T := T_M) (N := 30) hx hb hg in_M hown hK hP 0 rfl rfl 3 (by decide) (hg _ t_761) (fun _ h9 => h9) rfl d_M_wash_26 ?_
      refine lv_icmp_ge hx hb d_M_wash_29 rfl (fun hc => ?_) (fun hc => ?_)
      · have hw := hw.1 hc
        refine lv_iinc (k := 5) (v := (x6 + 1)) (lv' := [(6, .int (x6 + 1)), (0, .ref a_p0), (1, .int x1), (2, .int x2), (3, .int x3), (4, .long x4), (7, .int x7)]) hx hb d_M_wash_96 hl rfl (congrArg (fun z => x6 + z) (by decide : Int32.ofInt 1 = 1)) (by decide) rfl (fun ls hl => ?_)
        refine lv_goto hx hb d_M_wash_99 rfl ?_
        exact hk11 _ _ _ f_p0_samples x1 x2 x3 x4 (x6 + 1) hP hD hS (lv_sub hl [1, 2, 3, 4, 5, 0] rfl) hw
      · have hw := hw.2 hc
        refine lv_iload_n hx hb d_M_wash_32 rfl (lv_at hl 1 rfl) ?_
        refine lv_i2l hx hb d_M_wash_33 rfl ?_
        refine lv_iload hx hb d_M_wash_34 (lv_at hl 6 rfl) ?_
        refine lv_i2l hx hb d_M_wash_36 rfl ?_
        refine lv_lmul hx hb d_M_wash_37 ?_
        refine lv_iload_n hx hb d_M_wash_38 rfl (lv_at hl 2 rfl) ?_
        refine lv_i2l hx hb d_M_wash_39 rfl ?_
        refine lv_iload hx hb d_M_wash_40 (lv_at hl 5 rfl) ?_
        refine lv_i2l hx hb d_M_wash_42 rfl ?_
        refine lv_lmul hx hb d_M_wash_43 ?_
        refine lv_ladd hx hb d_M_wash_44 ?_
        refine lv_iload_n hx hb d_M_wash_45 rfl (lv_at hl 3 rfl) ?_
        refine lv_i2l hx hb d_M_wash_46 rfl ?_
        refine lv_ladd hx hb d_M_wash_47 ?_
        refine lv_aload_n hx hb d_M_wash_48 rfl (lv_at hl 0 rfl) ?_
        refine va_get (D := (dC, dI)) (ci := 10) (v := .ref (A_p0 6)) (C := R_M) (T := T_M) (N := 30) hx hb hg in_M hown hK hP 0 rfl rfl 6 (by decide) (hg _ t_764) (fun _ h9 => h9) rfl d_M_wash_49 ?_
        refine lv_bipush (v := 16) hx hb d_M_wash_52 (by decide) ?_
        refine lv_iload hx hb d_M_wash_54 (lv_at hl 5 rfl) ?_
        refine lv_imul hx hb d_M_wash_56 ?_
        refine lv_iload hx hb d_M_wash_57 (lv_at hl 6 rfl) ?_
        refine lv_iadd hx hb d_M_wash_59 ?_
        obtain ⟨hin, hw⟩ := hw
        refine va_iald hx hb hK hP 1 0 rfl rfl hin d_M_wash_60 ?_
        refine lv_i2l hx hb d_M_wash_61 rfl ?_
        refine lv_ladd hx hb d_M_wash_62 ?_
        refine lv_topl (fun v e_v => ?_)
        have hw := hw v e_v
        refine lv_lstore (lv' := [(8, .long v), (0, .ref a_p0), (1, .int x1), (2, .int x2), (3, .int x3), (4, .long x4), (6, .int x6), (7, .int x7)]) hx hb d_M_wash_63 hl (by decide) rfl (fun ls hl => ?_)
        refine lv_aload_n hx hb d_M_wash_65 rfl (lv_at hl 1 rfl) ?_
        refine va_get (D := (dC, dI)) (ci := 10) (v := .ref (A_p0 6)) (C := R_M) (T := T_M) (N := 30) hx hb hg in_M hown hK hP 0 rfl rfl 6 (by decide) (hg _ t_764) (fun _ h9 => h9) rfl d_M_wash_66 ?_
        refine lv_bipush (v := 16) hx hb d_M_wash_69 (by decide) ?_
        refine lv_iload hx hb d_M_wash_71 (lv_at hl 6 rfl) ?_
        refine lv_imul hx hb d_M_wash_73 ?_
        refine lv_iload hx hb d_M_wash_74 (lv_at hl 7 rfl) ?_
        refine lv_iadd hx hb d_M_wash_76 ?_
        refine lv_lload hx hb d_M_wash_77 (lv_at hl 0 rfl) ?_
        refine lv_lload hx hb d_M_wash_79 (lv_at hl 5 rfl) ?_
        obtain ⟨hne, hw⟩ := hw
        refine lv_lrem hx hb d_M_wash_81 hne ?_
        refine lv_lload hx hb d_M_wash_82 (lv_at hl 5 rfl) ?_
        refine lv_ladd hx hb d_M_wash_84 ?_
        refine lv_lload hx hb d_M_wash_85 (lv_at hl 5 rfl) ?_
        obtain ⟨hne, hw⟩ := hw
        refine lv_lrem hx hb d_M_wash_87 hne ?_
        refine lv_l2i hx hb d_M_wash_88 rfl ?_
        obtain ⟨hin, hw⟩ := hw
        refine va_iast hx hb hK hP hD hS 1 0 rfl rfl hin d_M_wash_89 (fun H locs hP hD hS => ?_)
        have hP : va_P (dC, dI) vwCl [oM a_p0 A_p0 I_p0, gz cI (A_p0 6) 256 (upd f_p0_samples ((16 * x6) + x7).toNatClampNeg (((v - v / x4 * x4) + x4) - ((v - v / x4 * x4) + x4) / x4 * x4).toInt32)] H := hP
        have hD : va_D A [oM a_p0 A_p0 I_p0, gz cI (A_p0 6) 256 (upd f_p0_samples ((16 * x6) + x7).toNatClampNeg (((v - v / x4 * x4) + x4) - ((v - v / x4 * x4) + x4) / x4 * x4).toInt32)] := hD
        refine lv_iinc (k := 7) (v := (x7 + 1)) (lv' := [(7, .int (x7 + 1)), (8, .long v), (0, .ref a_p0), (1, .int x1), (2, .int x2), (3, .int x3), (4, .long x4), (6, .int x6)]) hx hb d_M_wash_90 hl rfl (congrArg (fun z => x7 + z) (by decide : Int32.ofInt 1 = 1)) (by decide) rfl (fun ls hl => ?_)
        refine lv_goto hx hb d_M_wash_93 rfl ?_
        exact ih _ _ _ (upd f_p0_samples ((16 * x6) + x7).toNatClampNeg (((v - v / x4 * x4) + x4) - ((v - v / x4 * x4) + x4) / x4 * x4).toInt32) x1 x2 x3 x4 x6 (x7 + 1) hP hD hS (lv_sub hl [2, 3, 4, 5, 6, 7, 0] rfl) hw
  have l11 : ∀ n : Nat, ∀ (H : Heap) (locs : List Loc) (ls : Array Slot) (f_p0_samples : Nat → Int32) (x1 : Int32) (x2 : Int32) (x3 : Int32) (x4 : Int64) (x6 : Int32), va_P (dC, dI) vwCl [oM a_p0 A_p0 I_p0, gz cI (A_p0 6) 256 f_p0_samples] H → va_D A [oM a_p0 A_p0 I_p0, gz cI (A_p0 6) 256 f_p0_samples] → va_S A s.heap H locs → lv_has ls 10 [(0, .ref a_p0), (1, .int x1), (2, .int x2), (3, .int x3), (4, .long x4), (6, .int x6)] → wp_M_wash_l11 post I_p0 n f_p0_samples x1 x2 x3 x4 x6 → W p l e ({ frames := 0, cells := 0, slots := 0, locals := 0 } : Room) s m args below meth c H locs 0 0 Q (F0 m 11 ls []) := by
    intro n
    induction n with
    | zero => intro H locs ls f_p0_samples x1 x2 x3 x4 x6 hP hD hS hl hw; exact hw.elim
    | succ n ih =>
      intro H locs ls f_p0_samples x1 x2 x3 x4 x6 hP hD hS hl hw
      unfold wp_M_wash_l11 at hw
      refine lv_iload hx hb d_M_wash_11 (lv_at hl 5 rfl) ?_
      refine lv_aload_n hx hb d_M_wash_13 rfl (lv_at hl 0 rfl) ?_
      refine va_get (D := (dC, dI)) (ci := 10) (v := .int (I_p0 4)) (C := R_M) (T := T_M) (N := 30) hx hb hg in_M hown hK hP 0 rfl rfl 4 (by decide) (hg _ t_762) (fun _ h9 => h9) rfl d_M_wash_14 ?_
      refine lv_icmp_ge hx hb d_M_wash_17 rfl (fun hc => ?_) (fun hc => ?_)
      · have hw := hw.1 hc
        exact hret _ _ _ _ f_p0_samples d_M_wash_102 hP hD hS hw
      · have hw := hw.2 hc
        refine lv_iconst (v := 0) hx hb d_M_wash_20 (by decide) ?_
        refine lv_istore (lv' := [(7, .int 0), (0, .ref a_p0), (1, .int x1), (2, .int x2), (3, .int x3), (4, .long x4), (6, .int x6)]) hx hb d_M_wash_21 hl (by decide) rfl (fun ls hl => ?_)
        obtain ⟨n1, hw⟩ := hw
        exact l23 _ ih n1 _ _ _ f_p0_samples x1 x2 x3 x4 x6 0 hP hD hS (lv_sub hl [1, 2, 3, 4, 5, 6, 0] rfl) hw
  intro ls hl hP hD hS
  have hl : lv_has ls 10 [(0, .ref a_p0), (1, .int x1), (2, .int x2), (3, .int x3)] := hl
  unfold wp_M_wash at hw
  refine lv_lconst (v := 1) hx hb d_M_wash_0 (by decide) ?_
  refine lv_aload_n hx hb d_M_wash_1 rfl (lv_at hl 0 rfl) ?_
  refine va_get (D := (dC, dI)) (ci := 10) (v := .int (I_p0 5)) (C := R_M) (T := T_M) (N := 30) hx hb hg in_M hown hK hP 0 rfl rfl 5 (by decide) (hg _ t_763) (fun _ h9 => h9) rfl d_M_wash_2 ?_
  refine lv_lshl hx hb d_M_wash_5 rfl ?_
  refine lv_lstore (lv' := [(4, .long (1 <<< ((I_p0 5).toInt64 &&& 63))), (0, .ref a_p0), (1, .int x1), (2, .int x2), (3, .int x3)]) hx hb d_M_wash_6 hl (by decide) rfl (fun ls hl => ?_)
  refine lv_iconst (v := 0) hx hb d_M_wash_8 (by decide) ?_
  refine lv_istore (lv' := [(6, .int 0), (4, .long (1 <<< ((I_p0 5).toInt64 &&& 63))), (0, .ref a_p0), (1, .int x1), (2, .int x2), (3, .int x3)]) hx hb d_M_wash_9 hl (by decide) rfl (fun ls hl => ?_)
  obtain ⟨n1, hw⟩ := hw
  exact l11 n1 _ _ _ f_p0_samples x1 x2 x3 (1 <<< ((I_p0 5).toInt64 &&& 63)) 0 hP hD hS (lv_sub hl [2, 3, 4, 5, 1, 0] rfl) hw
