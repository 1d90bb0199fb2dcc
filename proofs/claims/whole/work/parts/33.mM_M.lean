theorem d_M_take_0 : decode b_M_take 0 = .ok (.aload_n 0, 1) := by decide +kernel
theorem d_M_take_1 : decode b_M_take 1 = .ok (.getfield 220, 3) := by decide +kernel
theorem d_M_take_4 : decode b_M_take 4 = .ok (.aload_n 0, 1) := by decide +kernel
theorem d_M_take_5 : decode b_M_take 5 = .ok (.getfield 223, 3) := by decide +kernel
theorem d_M_take_8 : decode b_M_take 8 = .ok (.invokestatic 132, 3) := by decide +kernel
theorem d_M_take_11 : decode b_M_take 11 = .ok (.istore_n 3, 1) := by decide +kernel
theorem d_M_take_12 : decode b_M_take 12 = .ok (.iload_n 1, 1) := by decide +kernel
theorem d_M_take_13 : decode b_M_take 13 = .ok (.istore 4, 2) := by decide +kernel
theorem d_M_take_15 : decode b_M_take 15 = .ok (.iload 4, 2) := by decide +kernel
theorem d_M_take_17 : decode b_M_take 17 = .ok (.iload_n 2, 1) := by decide +kernel
theorem d_M_take_18 : decode b_M_take 18 = .ok (.if_icmp .ge 124, 3) := by decide +kernel
theorem d_M_take_21 : decode b_M_take 21 = .ok (.iconst 0, 1) := by decide +kernel
theorem d_M_take_22 : decode b_M_take 22 = .ok (.istore 5, 2) := by decide +kernel
theorem d_M_take_24 : decode b_M_take 24 = .ok (.iload 5, 2) := by decide +kernel
theorem d_M_take_26 : decode b_M_take 26 = .ok (.aload_n 0, 1) := by decide +kernel
theorem d_M_take_27 : decode b_M_take 27 = .ok (.getfield 220, 3) := by decide +kernel
theorem d_M_take_30 : decode b_M_take 30 = .ok (.if_icmp .ge 106, 3) := by decide +kernel
theorem d_M_take_33 : decode b_M_take 33 = .ok (.iload 5, 2) := by decide +kernel
theorem d_M_take_35 : decode b_M_take 35 = .ok (.aload_n 0, 1) := by decide +kernel
theorem d_M_take_36 : decode b_M_take 36 = .ok (.getfield 223, 3) := by decide +kernel
theorem d_M_take_39 : decode b_M_take 39 = .ok (.imul, 1) := by decide +kernel
theorem d_M_take_40 : decode b_M_take 40 = .ok (.istore 6, 2) := by decide +kernel
theorem d_M_take_42 : decode b_M_take 42 = .ok (.aload_n 0, 1) := by decide +kernel
theorem d_M_take_43 : decode b_M_take 43 = .ok (.getfield 38, 3) := by decide +kernel
theorem d_M_take_46 : decode b_M_take 46 = .ok (.iload 4, 2) := by decide +kernel
theorem d_M_take_48 : decode b_M_take 48 = .ok (.iload_n 1, 1) := by decide +kernel
theorem d_M_take_49 : decode b_M_take 49 = .ok (.isub, 1) := by decide +kernel
theorem d_M_take_50 : decode b_M_take 50 = .ok (.iload_n 3, 1) := by decide +kernel
theorem d_M_take_51 : decode b_M_take 51 = .ok (.imul, 1) := by decide +kernel
theorem d_M_take_52 : decode b_M_take 52 = .ok (.iload 6, 2) := by decide +kernel
theorem d_M_take_54 : decode b_M_take 54 = .ok (.bipush 8, 2) := by decide +kernel
theorem d_M_take_56 : decode b_M_take 56 = .ok (.idiv, 1) := by decide +kernel
theorem d_M_take_57 : decode b_M_take 57 = .ok (.iadd, 1) := by decide +kernel
theorem d_M_take_58 : decode b_M_take 58 = .ok (.iaload, 1) := by decide +kernel
theorem d_M_take_59 : decode b_M_take 59 = .ok (.bipush 8, 2) := by decide +kernel
theorem d_M_take_61 : decode b_M_take 61 = .ok (.aload_n 0, 1) := by decide +kernel
theorem d_M_take_62 : decode b_M_take 62 = .ok (.getfield 223, 3) := by decide +kernel
theorem d_M_take_65 : decode b_M_take 65 = .ok (.isub, 1) := by decide +kernel
theorem d_M_take_66 : decode b_M_take 66 = .ok (.iload 6, 2) := by decide +kernel
theorem d_M_take_68 : decode b_M_take 68 = .ok (.bipush 8, 2) := by decide +kernel
theorem d_M_take_70 : decode b_M_take 70 = .ok (.irem, 1) := by decide +kernel
theorem d_M_take_71 : decode b_M_take 71 = .ok (.isub, 1) := by decide +kernel
theorem d_M_take_72 : decode b_M_take 72 = .ok (.ishr, 1) := by decide +kernel
theorem d_M_take_73 : decode b_M_take 73 = .ok (.istore 7, 2) := by decide +kernel
theorem d_M_take_75 : decode b_M_take 75 = .ok (.aload_n 0, 1) := by decide +kernel
theorem d_M_take_76 : decode b_M_take 76 = .ok (.getfield 229, 3) := by decide +kernel
theorem d_M_take_79 : decode b_M_take 79 = .ok (.iconst 2, 1) := by decide +kernel
theorem d_M_take_80 : decode b_M_take 80 = .ok (.if_icmp .ne 28, 3) := by decide +kernel
theorem d_M_take_83 : decode b_M_take 83 = .ok (.iload 5, 2) := by decide +kernel
theorem d_M_take_85 : decode b_M_take 85 = .ok (.ifCond .le 23, 3) := by decide +kernel
theorem d_M_take_88 : decode b_M_take 88 = .ok (.iload 7, 2) := by decide +kernel
theorem d_M_take_90 : decode b_M_take 90 = .ok (.aload_n 0, 1) := by decide +kernel
theorem d_M_take_91 : decode b_M_take 91 = .ok (.getfield 56, 3) := by decide +kernel
theorem d_M_take_94 : decode b_M_take 94 = .ok (.bipush 16, 2) := by decide +kernel
theorem d_M_take_96 : decode b_M_take 96 = .ok (.iload 4, 2) := by decide +kernel
theorem d_M_take_98 : decode b_M_take 98 = .ok (.imul, 1) := by decide +kernel
theorem d_M_take_99 : decode b_M_take 99 = .ok (.iload 5, 2) := by decide +kernel
theorem d_M_take_101 : decode b_M_take 101 = .ok (.iadd, 1) := by decide +kernel
theorem d_M_take_102 : decode b_M_take 102 = .ok (.iconst 1, 1) := by decide +kernel
theorem d_M_take_103 : decode b_M_take 103 = .ok (.isub, 1) := by decide +kernel
theorem d_M_take_104 : decode b_M_take 104 = .ok (.iaload, 1) := by decide +kernel
theorem d_M_take_105 : decode b_M_take 105 = .ok (.iadd, 1) := by decide +kernel
theorem d_M_take_106 : decode b_M_take 106 = .ok (.istore 7, 2) := by decide +kernel
theorem d_M_take_108 : decode b_M_take 108 = .ok (.aload_n 0, 1) := by decide +kernel
theorem d_M_take_109 : decode b_M_take 109 = .ok (.getfield 56, 3) := by decide +kernel
theorem d_M_take_112 : decode b_M_take 112 = .ok (.bipush 16, 2) := by decide +kernel
theorem d_M_take_114 : decode b_M_take 114 = .ok (.iload 4, 2) := by decide +kernel
theorem d_M_take_116 : decode b_M_take 116 = .ok (.imul, 1) := by decide +kernel
theorem d_M_take_117 : decode b_M_take 117 = .ok (.iload 5, 2) := by decide +kernel
theorem d_M_take_119 : decode b_M_take 119 = .ok (.iadd, 1) := by decide +kernel
theorem d_M_take_120 : decode b_M_take 120 = .ok (.iload 7, 2) := by decide +kernel
theorem d_M_take_122 : decode b_M_take 122 = .ok (.iconst 1, 1) := by decide +kernel
theorem d_M_take_123 : decode b_M_take 123 = .ok (.aload_n 0, 1) := by decide +kernel
theorem d_M_take_124 : decode b_M_take 124 = .ok (.getfield 223, 3) := by decide +kernel
theorem d_M_take_127 : decode b_M_take 127 = .ok (.ishl, 1) := by decide +kernel
theorem d_M_take_128 : decode b_M_take 128 = .ok (.irem, 1) := by decide +kernel
theorem d_M_take_129 : decode b_M_take 129 = .ok (.iastore, 1) := by decide +kernel
theorem d_M_take_130 : decode b_M_take 130 = .ok (.iinc 5 1, 3) := by decide +kernel
theorem d_M_take_133 : decode b_M_take 133 = .ok (.goto (-109), 3) := by decide +kernel
theorem d_M_take_136 : decode b_M_take 136 = .ok (.iinc 4 1, 3) := by decide +kernel
theorem d_M_take_139 : decode b_M_take 139 = .ok (.goto (-124), 3) := by decide +kernel
theorem d_M_take_142 : decode b_M_take 142 = .ok (.return_, 1) := by decide +kernel
def wp_M_take_b108 (post : (Nat → Int32) → Prop) (k15 : (Nat → Int32) → Int32 → Int32 → Int32 → Int32 → Prop) (k24 : (Nat → Int32) → Int32 → Int32 → Int32 → Int32 → Int32 → Prop) (I_p0 : Nat → Int32) (f_p0_data : Nat → Int32) (f_p0_next : Nat → Int32) (x1 : Int32) (x2 : Int32) (x3 : Int32) (x4 : Int32) (x5 : Int32) (x7 : Int32) : Prop :=
  ¬ (1 <<< ((I_p0 25) &&& 31)) = 0 ∧
  vp_in ((16 * x4) + x5) 256 ∧
  k24 (upd f_p0_next ((16 * x4) + x5).toNatClampNeg (x7 - x7 / (1 <<< ((I_p0 25) &&& 31)) * (1 <<< ((I_p0 25) &&& 31)))) x1 x2 x3 x4 (x5 + 1)
def wp_M_take_l24 (post : (Nat → Int32) → Prop) (k15 : (Nat → Int32) → Int32 → Int32 → Int32 → Int32 → Prop) (I_p0 : Nat → Int32) (f_p0_data : Nat → Int32) : Nat → (Nat → Int32) → Int32 → Int32 → Int32 → Int32 → Int32 → Prop
  | 0, _, _, _, _, _, _ => False
  | n + 1, f_p0_next, x1, x2, x3, x4, x5 =>
    (((I_p0 23) ≤ x5 →
      k15 f_p0_next x1 x2 x3 (x4 + 1)) ∧
     (¬ (I_p0 23) ≤ x5 →
      vp_in (((x4 - x1) * x3) + ((x5 * (I_p0 25)) / 8)) 256 ∧
      ∀ v : Int32, v = ((f_p0_data (((x4 - x1) * x3) + ((x5 * (I_p0 25)) / 8)).toNatClampNeg) >>> (((8 - (I_p0 25)) - ((x5 * (I_p0 25)) - (x5 * (I_p0 25)) / 8 * 8)) &&& 31)) →
      (((I_p0 28) = 2 →
        ((x5 ≤ 0 →
          wp_M_take_b108 post k15 (wp_M_take_l24 post k15 I_p0 f_p0_data n) I_p0 f_p0_data f_p0_next x1 x2 x3 x4 x5 v) ∧
         (¬ x5 ≤ 0 →
          vp_in (((16 * x4) + x5) - 1) 256 ∧
          wp_M_take_b108 post k15 (wp_M_take_l24 post k15 I_p0 f_p0_data n) I_p0 f_p0_data f_p0_next x1 x2 x3 x4 x5 (v + (f_p0_next (((16 * x4) + x5) - 1).toNatClampNeg))))) ∧
       (¬ (I_p0 28) = 2 →
        wp_M_take_b108 post k15 (wp_M_take_l24 post k15 I_p0 f_p0_data n) I_p0 f_p0_data f_p0_next x1 x2 x3 x4 x5 v))))
def wp_M_take_l15 (post : (Nat → Int32) → Prop) (I_p0 : Nat → Int32) (f_p0_data : Nat → Int32) : Nat → (Nat → Int32) → Int32 → Int32 → Int32 → Int32 → Prop
  | 0, _, _, _, _, _ => False
  | n + 1, f_p0_next, x1, x2, x3, x4 =>
    ((x2 ≤ x4 →
      post f_p0_next) ∧
     (¬ x2 ≤ x4 →
      (∃ n1 : Nat, wp_M_take_l24 post (wp_M_take_l15 post I_p0 f_p0_data n) I_p0 f_p0_data n1 f_p0_next x1 x2 x3 x4 0)))
def wp_M_take (post : (Nat → Int32) → Prop) (I_p0 : Nat → Int32) (f_p0_data : Nat → Int32) (f_p0_next : Nat → Int32) (x1 : Int32) (x2 : Int32) : Prop :=
  wp_M_rowBytes (fun (r8 : Int32) =>
    (∃ n1 : Nat, wp_M_take_l15 post I_p0 f_p0_data n1 f_p0_next x1 x2 r8 x1)) (I_p0 23) (I_p0 25)
set_option maxRecDepth 100000 in
set_option maxHeartbeats 4000000 in
theorem c_M_take (l : Launch) (dC : Nat → ClassId) (dI : Nat → Nat → Nat) (cI : ClassId) (a_p0 : Nat) (A_p0 : Nat → Nat) (I_p0 : Nat → Int32) (f_p0_data : Nat → Int32) (f_p0_next : Nat → Int32) (x1 : Int32) (x2 : Int32) {post : (Nat → Int32) → Prop} (hw : wp_M_take post I_p0 f_p0_data f_p0_next x1 x2) : gm_v l y_M_take ws_M_take ({ frames := 1, cells := 0, slots := 0, locals := 21 } : Room) (dC, dI) vwCl [(cI, .int)] [.ref a_p0, .int x1, .int x2] [oM a_p0 A_p0 I_p0, gz cI (A_p0 15) 256 f_p0_data, gz cI (A_p0 29) 256 f_p0_next] (fun (u : (Nat → Int32)) => [oM a_p0 A_p0 I_p0, gz cI (A_p0 15) 256 f_p0_data, gz cI (A_p0 29) 256 u]) (fun (u : (Nat → Int32)) => post  u) := by
  refine gm_vof (cc := b_M_take) (maxL := 8) (by decide) rfl (Nat.le_of_ble_eq_true rfl) ?_
  intro p e s m args below meth c A Q hx hb hml hown hg hK hN hA hnm hret
  have hown : s.vm.findClass R_M = some m.cls := hown
  have b108 : ∀ (k15 : (Nat → Int32) → Int32 → Int32 → Int32 → Int32 → Prop), (∀ (H : Heap) (locs : List Loc) (ls : Array Slot) (f_p0_next : Nat → Int32) (x1 : Int32) (x2 : Int32) (x3 : Int32) (x4 : Int32), va_P (dC, dI) vwCl [oM a_p0 A_p0 I_p0, gz cI (A_p0 15) 256 f_p0_data, gz cI (A_p0 29) 256 f_p0_next] H → va_D A [oM a_p0 A_p0 I_p0, gz cI (A_p0 15) 256 f_p0_data, gz cI (A_p0 29) 256 f_p0_next] → va_S A s.heap H locs → lv_has ls 8 [(0, .ref a_p0), (1, .int x1), (2, .int x2), (3, .int x3), (4, .int x4)] → k15 f_p0_next x1 x2 x3 x4 → W p l e ({ frames := 1, cells := 0, slots := 0, locals := 21 } : Room) s m args below meth c H locs 0 0 Q (F0 m 15 ls [])) → ∀ (k24 : (Nat → Int32) → Int32 → Int32 → Int32 → Int32 → Int32 → Prop), (∀ (H : Heap) (locs : List Loc) (ls : Array Slot) (f_p0_next : Nat → Int32) (x1 : Int32) (x2 : Int32) (x3 : Int32) (x4 : Int32) (x5 : Int32), va_P (dC, dI) vwCl [oM a_p0 A_p0 I_p0, gz cI (A_p0 15) 256 f_p0_data, gz cI (A_p0 29) 256 f_p0_next] H → va_D A [oM a_p0 A_p0 I_p0, gz cI (A_p0 15) 256 f_p0_data, gz cI (A_p0 29) 256 f_p0_next] → va_S A s.heap H locs → lv_has ls 8 [(0, .ref a_p0), (1, .int x1), (2, .int x2), (3, .int x3), (4, .int x4), (5, .int x5)] → k24 f_p0_next x1 x2 x3 x4 x5 → W p l e ({ frames := 1, cells := 0, slots := 0, locals := 21 } : Room) s m args below meth c H locs 0 0 Q (F0 m 24 ls [])) → ∀ (H : Heap) (locs : List Loc) (ls : Array Slot) (f_p0_next : Nat → Int32) (x1 : Int32) (x2 : Int32) (x3 : Int32) (x4 : Int32) (x5 : Int32) (x7 : Int32), va_P (dC, dI) vwCl [oM a_p0 A_p0 I_p0, gz cI (A_p0 15) 256 f_p0_data, gz cI (A_p0 29) 256 f_p0_next] H → va_D A [oM a_p0 A_p0 I_p0, gz cI (A_p0 15) 256 f_p0_data, gz cI (A_p0 29) 256 f_p0_next] → va_S A s.heap H locs → lv_has ls 8 [(0, .ref a_p0), (1, .int x1), (2, .int x2), (3, .int x3), (4, .int x4), (5, .int x5), (7, .int x7)] → wp_M_take_b108 post k15 k24 I_p0 f_p0_data f_p0_next x1 x2 x3 x4 x5 x7 → W p l e ({ frames := 1, cells := 0, slots := 0, locals := 21 } : Room) s m args below meth c H locs 0 0 Q (F0 m 108 ls []) := by
    intro k15 hk15 k24 hk24 H locs ls f_p0_next x1 x2 x3 x4 x5 x7 hP hD hS hl hw
    unfold wp_M_take_b108 at hw
    refine lv_aload_n hx hb d_M_take_108 rfl (lv_at hl 0 rfl) ?_
    refine va_get (D := (dC, dI)) (ci := 10) (v := .ref (A_p0 29)) (C := R_M) (T := T_M) (N := 30) hx hb hg in_M hown hK hP 0 rfl rfl 29 (by decide) (hg _ t_787) (fun _ h9 => h9) rfl d_M_take_109 ?_
    refine lv_bipush (v := 16) hx hb d_M_take_112 (by decide) ?_
    refine lv_iload hx hb d_M_take_114 (lv_at hl 4 rfl) ?_
    refine lv_imul hx hb d_M_take_116 ?_
    refine lv_iload hx hb d_M_take_117 (lv_at hl 5 rfl) ?_
    refine lv_iadd hx hb d_M_take_119 ?_
    refine lv_iload hx hb d_M_take_120 (lv_at hl 6 rfl) ?_
    refine lv_iconst (v := 1) hx hb d_M_take_122 (by decide) ?_
    refine lv_aload_n hx hb d_M_take_123 rfl (lv_at hl 0 rfl) ?_
    refine va_get (D := (dC, dI)) (ci := 10) (v := .int (I_p0 25)) (C := R_M) (T := T_M) (N := 30) hx hb hg in_M hown hK hP 0 rfl rfl 25 (by decide) (hg _ t_783) (fun _ h9 => h9) rfl d_M_take_124 ?_
    refine lv_ishl hx hb d_M_take_127 ?_
    obtain ⟨hne, hw⟩ := hw
    refine lv_irem hx hb d_M_take_128 hne ?_
    obtain ⟨hin, hw⟩ := hw
    refine va_iast hx hb hK hP hD hS 2 0 rfl rfl hin d_M_take_129 (fun H locs hP hD hS => ?_)
    have hP : va_P (dC, dI) vwCl [oM a_p0 A_p0 I_p0, gz cI (A_p0 15) 256 f_p0_data, gz cI (A_p0 29) 256 (upd f_p0_next ((16 * x4) + x5).toNatClampNeg (x7 - x7 / (1 <<< ((I_p0 25) &&& 31)) * (1 <<< ((I_p0 25) &&& 31))))] H := hP
    have hD : va_D A [oM a_p0 A_p0 I_p0, gz cI (A_p0 15) 256 f_p0_data, gz cI (A_p0 29) 256 (upd f_p0_next ((16 * x4) + x5).toNatClampNeg (x7 - x7 / (1 <<< ((I_p0 25) &&& 31)) * (1 <<< ((I_p0 25) &&& 31))))] := hD
    refine lv_iinc (k := 5) (v := (x5 + 1)) (lv' := [(5, .int (x5 + 1)), (0, .ref a_p0), (1, .int x1), (2, .int x2), (3, .int x3), (4, .int x4), (7, .int x7)]) hx hb d_M_take_130 hl rfl (congrArg (fun z => x5 + z) (by decide : Int32.ofInt 1 = 1)) (by decide) rfl (fun ls hl => ?_)
    refine lv_goto hx hb d_M_take_133 rfl ?_
    exact hk24 _ _ _ (upd f_p0_next ((16 * x4) + x5).toNatClampNeg (x7 - x7 / (1 <<< ((I_p0 25) &&& 31)) * (1 <<< ((I_p0 25) &&& 31)))) x1 x2 x3 x4 (x5 + 1) hP hD hS (lv_sub hl [1, 2, 3, 4, 5, 0] rfl) hw
  have l24 : ∀ (k15 : (Nat → Int32) → Int32 → Int32 → Int32 → Int32 → Prop), (∀ (H : Heap) (locs : List Loc) (ls : Array Slot) (f_p0_next : Nat → Int32) (x1 : Int32) (x2 : Int32) (x3 : Int32) (x4 : Int32), va_P (dC, dI) vwCl [oM a_p0 A_p0 I_p0, gz cI (A_p0 15) 256 f_p0_data, gz cI (A_p0 29) 256 f_p0_next] H → va_D A [oM a_p0 A_p0 I_p0, gz cI (A_p0 15) 256 f_p0_data, gz cI (A_p0 29) 256 f_p0_next] → va_S A s.heap H locs → lv_has ls 8 [(0, .ref a_p0), (1, .int x1), (2, .int x2), (3, .int x3), (4, .int x4)] → k15 f_p0_next x1 x2 x3 x4 → W p l e ({ frames := 1, cells := 0, slots := 0, locals := 21 } : Room) s m args below meth c H locs 0 0 Q (F0 m 15 ls [])) → ∀ n : Nat, ∀ (H : Heap) (locs : List Loc) (ls : Array Slot) (f_p0_next : Nat → Int32) (x1 : Int32) (x2 : Int32) (x3 : Int32) (x4 : Int32) (x5 : Int32), va_P (dC, dI) vwCl [oM a_p0 A_p0 I_p0, gz cI (A_p0 15) 256 f_p0_data, gz cI (A_p0 29) 256 f_p0_next] H → va_D A [oM a_p0 A_p0 I_p0, gz cI (A_p0 15) 256 f_p0_data, gz cI (A_p0 29) 256 f_p0_next] → va_S A s.heap H locs → lv_has ls 8 [(0, .ref a_p0), (1, .int x1), (2, .int x2), (3, .int x3), (4, .int x4), (5, .int x5)] → wp_M_take_l24 post k15 I_p0 f_p0_data n f_p0_next x1 x2 x3 x4 x5 → W p l e ({ frames := 1, cells := 0, slots := 0, locals := 21 } : Room) s m args below meth c H locs 0 0 Q (F0 m 24 ls []) := by
    intro k15 hk15 n
    induction n with
    | zero => intro H locs ls f_p0_next x1 x2 x3 x4 x5 hP hD hS hl hw; exact hw.elim
    | succ n ih =>
      intro H locs ls f_p0_next x1 x2 x3 x4 x5 hP hD hS hl hw
      unfold wp_M_take_l24 at hw
      refine lv_iload hx hb d_M_take_24 (lv_at hl 5 rfl) ?_
      refine lv_aload_n hx hb d_M_take_26 rfl (lv_at hl 0 rfl) ?_
      refine va_get (D := (dC, dI)) (ci := 10) (v := .int (I_p0 23)) (C := R_M) (T := T_M) (N := 30) hx hb hg in_M hown hK hP 0 rfl rfl 23 (by decide) (hg _ t_781) (fun _ h9 => h9) rfl d_M_take_27 ?_
      refine lv_icmp_ge hx hb d_M_take_30 rfl (fun hc => ?_) (fun hc => ?_)
      · have hw := hw.1 hc
        refine lv_iinc (k := 4) (v := (x4 + 1)) (lv' := [(4, .int (x4 + 1)), (0, .ref a_p0), (1, .int x1), (2, .int x2), (3, .int x3), (5, .int x5)]) hx hb d_M_take_136 hl rfl (congrArg (fun z => x4 + z) (by decide : Int32.ofInt 1 = 1)) (by decide) rfl (fun ls hl => ?_)
        refine lv_goto hx hb d_M_take_139 rfl ?_
        exact hk15 _ _ _ f_p0_next x1 x2 x3 (x4 + 1) hP hD hS (lv_sub hl [1, 2, 3, 4, 0] rfl) hw
      · have hw := hw.2 hc
        refine lv_iload hx hb d_M_take_33 (lv_at hl 5 rfl) ?_
        refine lv_aload_n hx hb d_M_take_35 rfl (lv_at hl 0 rfl) ?_
        refine va_get (D := (dC, dI)) (ci := 10) (v := .int (I_p0 25)) (C := R_M) (T := T_M) (N := 30) hx hb hg in_M hown hK hP 0 rfl rfl 25 (by decide) (hg _ t_783) (fun _ h9 => h9) rfl d_M_take_36 ?_
        refine lv_imul hx hb d_M_take_39 ?_
        refine lv_istore (lv' := [(6, .int (x5 * (I_p0 25))), (0, .ref a_p0), (1, .int x1), (2, .int x2), (3, .int x3), (4, .int x4), (5, .int x5)]) hx hb d_M_take_40 hl (by decide) rfl (fun ls hl => ?_)
        refine lv_aload_n hx hb d_M_take_42 rfl (lv_at hl 1 rfl) ?_
        refine va_get (D := (dC, dI)) (ci := 10) (v := .ref (A_p0 15)) (C := R_M) (T := T_M) (N := 30) hx hb hg in_M hown hK hP 0 rfl rfl 15 (by decide) (hg _ t_773) (fun _ h9 => h9) rfl d_M_take_43 ?_
        refine lv_iload hx hb d_M_take_46 (lv_at hl 5 rfl) ?_
        refine lv_iload_n hx hb d_M_take_48 rfl (lv_at hl 2 rfl) ?_
        refine lv_isub hx hb d_M_take_49 ?_
        refine lv_iload_n hx hb d_M_take_50 rfl (lv_at hl 4 rfl) ?_
        refine lv_imul hx hb d_M_take_51 ?_
        refine lv_iload hx hb d_M_take_52 (lv_at hl 0 rfl) ?_
        refine lv_bipush (v := 8) hx hb d_M_take_54 (by decide) ?_
        refine lv_idiv hx hb d_M_take_56 (by decide) ?_
        refine lv_iadd hx hb d_M_take_57 ?_
        obtain ⟨hin, hw⟩ := hw
        refine va_iald hx hb hK hP 1 0 rfl rfl hin d_M_take_58 ?_
        refine lv_bipush (v := 8) hx hb d_M_take_59 (by decide) ?_
        refine lv_aload_n hx hb d_M_take_61 rfl (lv_at hl 1 rfl) ?_
        refine va_get (D := (dC, dI)) (ci := 10) (v := .int (I_p0 25)) (C := R_M) (T := T_M) (N := 30) hx hb hg in_M hown hK hP 0 rfl rfl 25 (by decide) (hg _ t_783) (fun _ h9 => h9) rfl d_M_take_62 ?_
        refine lv_isub hx hb d_M_take_65 ?_
        refine lv_iload hx hb d_M_take_66 (lv_at hl 0 rfl) ?_
        refine lv_bipush (v := 8) hx hb d_M_take_68 (by decide) ?_
        refine lv_irem hx hb d_M_take_70 (by decide) ?_
        refine lv_isub hx hb d_M_take_71 ?_
        refine lv_ishr hx hb d_M_take_72 ?_
        refine lv_topi (fun v e_v => ?_)
        have hw := hw v e_v
        refine lv_istore (lv' := [(7, .int v), (6, .int (x5 * (I_p0 25))), (0, .ref a_p0), (1, .int x1), (2, .int x2), (3, .int x3), (4, .int x4), (5, .int x5)]) hx hb d_M_take_73 hl (by decide) rfl (fun ls hl => ?_)
        refine lv_aload_n hx hb d_M_take_75 rfl (lv_at hl 2 rfl) ?_
        refine va_get (D := (dC, dI)) (ci := 10) (v := .int (I_p0 28)) (C := R_M) (T := T_M) (N := 30) hx hb hg in_M hown hK hP 0 rfl rfl 28 (by decide) (hg _ t_786) (fun _ h9 => h9) rfl d_M_take_76 ?_
        refine lv_iconst (v := 2) hx hb d_M_take_79 (by decide) ?_
        refine lv_icmp_ne hx hb d_M_take_80 rfl (fun hc => ?_) (fun hc => ?_)
        · have hw := hw.2 hc
          exact b108 _ hk15 _ ih _ _ _ f_p0_next x1 x2 x3 x4 x5 v hP hD hS (lv_sub hl [2, 3, 4, 5, 6, 7, 0] rfl) hw
        · have hw := hw.1 hc
          refine lv_iload hx hb d_M_take_83 (lv_at hl 7 rfl) ?_
          refine lv_if_le hx hb d_M_take_85 rfl (fun hc => ?_) (fun hc => ?_)
          · have hw := hw.1 hc
            exact b108 _ hk15 _ ih _ _ _ f_p0_next x1 x2 x3 x4 x5 v hP hD hS (lv_sub hl [2, 3, 4, 5, 6, 7, 0] rfl) hw
          · have hw := hw.2 hc
            refine lv_iload hx hb d_M_take_88 (lv_at hl 0 rfl) ?_
            refine lv_aload_n hx hb d_M_take_90 rfl (lv_at hl 2 rfl) ?_
            refine va_get (D := (dC, dI)) (ci := 10) (v := .ref (A_p0 29)) (C := R_M) (T := T_M) (N := 30) hx hb hg in_M hown hK hP 0 rfl rfl 29 (by decide) (hg _ t_787) (fun _ h9 => h9) rfl d_M_take_91 ?_
            refine lv_bipush (v := 16) hx hb d_M_take_94 (by decide) ?_
            refine lv_iload hx hb d_M_take_96 (lv_at hl 6 rfl) ?_
            refine lv_imul hx hb d_M_take_98 ?_
            refine lv_iload hx hb d_M_take_99 (lv_at hl 7 rfl) ?_
            refine lv_iadd hx hb d_M_take_101 ?_
            refine lv_iconst (v := 1) hx hb d_M_take_102 (by decide) ?_
            refine lv_isub hx hb d_M_take_103 ?_
            obtain ⟨hin, hw⟩ := hw
            refine va_iald hx hb hK hP 2 0 rfl rfl hin d_M_take_104 ?_
            refine lv_iadd hx hb d_M_take_105 ?_
            refine lv_istore (lv' := [(7, .int (v + (f_p0_next (((16 * x4) + x5) - 1).toNatClampNeg))), (6, .int (x5 * (I_p0 25))), (0, .ref a_p0), (1, .int x1), (2, .int x2), (3, .int x3), (4, .int x4), (5, .int x5)]) hx hb d_M_take_106 hl (by decide) rfl (fun ls hl => ?_)
            exact b108 _ hk15 _ ih _ _ _ f_p0_next x1 x2 x3 x4 x5 (v + (f_p0_next (((16 * x4) + x5) - 1).toNatClampNeg)) hP hD hS (lv_sub hl [2, 3, 4, 5, 6, 7, 0] rfl) hw
  have l15 : ∀ n : Nat, ∀ (H : Heap) (locs : List Loc) (ls : Array Slot) (f_p0_next : Nat → Int32) (x1 : Int32) (x2 : Int32) (x3 : Int32) (x4 : Int32), va_P (dC, dI) vwCl [oM a_p0 A_p0 I_p0, gz cI (A_p0 15) 256 f_p0_data, gz cI (A_p0 29) 256 f_p0_next] H → va_D A [oM a_p0 A_p0 I_p0, gz cI (A_p0 15) 256 f_p0_data, gz cI (A_p0 29) 256 f_p0_next] → va_S A s.heap H locs → lv_has ls 8 [(0, .ref a_p0), (1, .int x1), (2, .int x2), (3, .int x3), (4, .int x4)] → wp_M_take_l15 post I_p0 f_p0_data n f_p0_next x1 x2 x3 x4 → W p l e ({ frames := 1, cells := 0, slots := 0, locals := 21 } : Room) s m args below meth c H locs 0 0 Q (F0 m 15 ls []) := by
    intro n
    induction n with
    | zero => intro H locs ls f_p0_next x1 x2 x3 x4 hP hD hS hl hw; exact hw.elim
    | succ n ih =>
      intro H locs ls f_p0_next x1 x2 x3 x4 hP hD hS hl hw
      unfold wp_M_take_l15 at hw
      refine lv_iload hx hb d_M_take_15 (lv_at hl 4 rfl) ?_
      refine lv_iload_n hx hb d_M_take_17 rfl (lv_at hl 2 rfl) ?_
      refine lv_icmp_ge hx hb d_M_take_18 rfl (fun hc => ?_) (fun hc => ?_)
      · have hw := hw.1 hc
        exact hret _ _ _ _ f_p0_next d_M_take_142 hP hD hS hw
      · have hw := hw.2 hc
        refine lv_iconst (v := 0) hx hb d_M_take_21 (by decide) ?_
        refine lv_istore (lv' := [(5, .int 0), (0, .ref a_p0), (1, .int x1), (2, .int x2), (3, .int x3), (4, .int x4)]) hx hb d_M_take_22 hl (by decide) rfl (fun ls hl => ?_)
        obtain ⟨n1, hw⟩ := hw
        exact l24 _ ih n1 _ _ _ f_p0_next x1 x2 x3 x4 0 hP hD hS (lv_sub hl [1, 2, 3, 4, 5, 0] rfl) hw
  intro ls hl hP hD hS
  have hl : lv_has ls 8 [(0, .ref a_p0), (1, .int x1), (2, .int x2)] := hl
  unfold wp_M_take at hw
  refine lv_aload_n hx hb d_M_take_0 rfl (lv_at hl 0 rfl) ?_
  refine va_get (D := (dC, dI)) (ci := 10) (v := .int (I_p0 23)) (C := R_M) (T := T_M) (N := 30) hx hb hg in_M hown hK hP 0 rfl rfl 23 (by decide) (hg _ t_781) (fun _ h9 => h9) rfl d_M_take_1 ?_
  refine lv_aload_n hx hb d_M_take_4 rfl (lv_at hl 0 rfl) ?_
  refine va_get (D := (dC, dI)) (ci := 10) (v := .int (I_p0 25)) (C := R_M) (T := T_M) (N := 30) hx hb hg in_M hown hK hP 0 rfl rfl 25 (by decide) (hg _ t_783) (fun _ h9 => h9) rfl d_M_take_5 ?_
  refine gc_i (wn := fun (_ : Unit) => [oM a_p0 A_p0 I_p0, gz cI (A_p0 15) 256 f_p0_data, gz cI (A_p0 29) 256 f_p0_next]) (wr := [oM a_p0 A_p0 I_p0, gz cI (A_p0 15) 256 f_p0_data, gz cI (A_p0 29) 256 f_p0_next]) (gr_S (As := [.int (I_p0 23), .int (I_p0 25)]) (rest := []) ⟨hx, hb, hml, hown, hg⟩ (c_M_rowBytes l dC dI cI (I_p0 23) (I_p0 25) hw _) (va_cwS 2 hg (gg_S t_962 t_963 t_71 t_964) rfl rfl rfl (by decide +kernel) ⟨Nat.le_of_ble_eq_true rfl, Nat.le_of_ble_eq_true rfl⟩) hK hN hP hD [] (by decide) rfl rfl hl.1 rfl (Nat.le_of_ble_eq_true rfl) d_M_take_8 ⟨Nat.le_of_ble_eq_true rfl, Nat.le_of_ble_eq_true rfl⟩) rfl rfl hP hD hS hA [] [0, 1, 2] [0, 1, 2] rfl rfl (by decide) (by decide) (by decide) (fun _ => rfl) ?_
  intro r8 _ H locs hw hP hD hS
  try dsimp only at hw
  have hP : va_P (dC, dI) vwCl [oM a_p0 A_p0 I_p0, gz cI (A_p0 15) 256 f_p0_data, gz cI (A_p0 29) 256 f_p0_next] H := hP
  have hD : va_D A [oM a_p0 A_p0 I_p0, gz cI (A_p0 15) 256 f_p0_data, gz cI (A_p0 29) 256 f_p0_next] := hD
  refine lv_istore_n (lv' := [(3, .int r8), (0, .ref a_p0), (1, .int x1), (2, .int x2)]) hx hb d_M_take_11 rfl hl (by decide) rfl (fun ls hl => ?_)
  refine lv_iload_n hx hb d_M_take_12 rfl (lv_at hl 2 rfl) ?_
  refine lv_istore (lv' := [(4, .int x1), (3, .int r8), (0, .ref a_p0), (1, .int x1), (2, .int x2)]) hx hb d_M_take_13 hl (by decide) rfl (fun ls hl => ?_)
  obtain ⟨n1, hw⟩ := hw
  exact l15 n1 _ _ _ f_p0_next x1 x2 r8 x1 hP hD hS (lv_sub hl [2, 3, 4, 1, 0] rfl) hw
theorem d_M_load_0 : decode b_M_load 0 = .ok (.aload_n 0, 1) := by decide +kernel
theorem d_M_load_1 : decode b_M_load 1 = .ok (.invokevirtual 102, 3) := by decide +kernel
theorem d_M_load_4 : decode b_M_load 4 = .ok (.iload_n 1, 1) := by decide +kernel
theorem d_M_load_5 : decode b_M_load 5 = .ok (.ifCond .lt 11, 3) := by decide +kernel
theorem d_M_load_8 : decode b_M_load 8 = .ok (.iload_n 1, 1) := by decide +kernel
theorem d_M_load_9 : decode b_M_load 9 = .ok (.aload_n 0, 1) := by decide +kernel
theorem d_M_load_10 : decode b_M_load 10 = .ok (.getfield 86, 3) := by decide +kernel
theorem d_M_load_13 : decode b_M_load 13 = .ok (.if_icmp .lt 6, 3) := by decide +kernel
theorem d_M_load_16 : decode b_M_load 16 = .ok (.bipush (-4), 2) := by decide +kernel
theorem d_M_load_18 : decode b_M_load 18 = .ok (.ireturn, 1) := by decide +kernel
theorem d_M_load_19 : decode b_M_load 19 = .ok (.aload_n 0, 1) := by decide +kernel
theorem d_M_load_20 : decode b_M_load 20 = .ok (.iload_n 1, 1) := by decide +kernel
theorem d_M_load_21 : decode b_M_load 21 = .ok (.invokevirtual 246, 3) := by decide +kernel
theorem d_M_load_24 : decode b_M_load 24 = .ok (.ifCond .ne 6, 3) := by decide +kernel
theorem d_M_load_27 : decode b_M_load 27 = .ok (.bipush (-5), 2) := by decide +kernel
theorem d_M_load_29 : decode b_M_load 29 = .ok (.ireturn, 1) := by decide +kernel
theorem d_M_load_30 : decode b_M_load 30 = .ok (.iconst 0, 1) := by decide +kernel
theorem d_M_load_31 : decode b_M_load 31 = .ok (.istore_n 2, 1) := by decide +kernel
theorem d_M_load_32 : decode b_M_load 32 = .ok (.iload_n 2, 1) := by decide +kernel
theorem d_M_load_33 : decode b_M_load 33 = .ok (.aload_n 0, 1) := by decide +kernel
theorem d_M_load_34 : decode b_M_load 34 = .ok (.invokevirtual 232, 3) := by decide +kernel
theorem d_M_load_37 : decode b_M_load 37 = .ok (.if_icmp .ge 69, 3) := by decide +kernel
theorem d_M_load_40 : decode b_M_load 40 = .ok (.aload_n 0, 1) := by decide +kernel
theorem d_M_load_41 : decode b_M_load 41 = .ok (.iload_n 1, 1) := by decide +kernel
theorem d_M_load_42 : decode b_M_load 42 = .ok (.iload_n 2, 1) := by decide +kernel
theorem d_M_load_43 : decode b_M_load 43 = .ok (.invokevirtual 249, 3) := by decide +kernel
theorem d_M_load_46 : decode b_M_load 46 = .ok (.ifCond .ne 8, 3) := by decide +kernel
theorem d_M_load_49 : decode b_M_load 49 = .ok (.bipush (-6), 2) := by decide +kernel
theorem d_M_load_51 : decode b_M_load 51 = .ok (.iload_n 2, 1) := by decide +kernel
theorem d_M_load_52 : decode b_M_load 52 = .ok (.isub, 1) := by decide +kernel
theorem d_M_load_53 : decode b_M_load 53 = .ok (.ireturn, 1) := by decide +kernel
theorem d_M_load_54 : decode b_M_load 54 = .ok (.aload_n 0, 1) := by decide +kernel
theorem d_M_load_55 : decode b_M_load 55 = .ok (.iload_n 2, 1) := by decide +kernel
theorem d_M_load_56 : decode b_M_load 56 = .ok (.aload_n 0, 1) := by decide +kernel
theorem d_M_load_57 : decode b_M_load 57 = .ok (.getfield 204, 3) := by decide +kernel
theorem d_M_load_60 : decode b_M_load 60 = .ok (.imul, 1) := by decide +kernel
theorem d_M_load_61 : decode b_M_load 61 = .ok (.aload_n 0, 1) := by decide +kernel
theorem d_M_load_62 : decode b_M_load 62 = .ok (.getfield 201, 3) := by decide +kernel
theorem d_M_load_65 : decode b_M_load 65 = .ok (.iload_n 2, 1) := by decide +kernel
theorem d_M_load_66 : decode b_M_load 66 = .ok (.aload_n 0, 1) := by decide +kernel
theorem d_M_load_67 : decode b_M_load 67 = .ok (.getfield 204, 3) := by decide +kernel
theorem d_M_load_70 : decode b_M_load 70 = .ok (.imul, 1) := by decide +kernel
theorem d_M_load_71 : decode b_M_load 71 = .ok (.aload_n 0, 1) := by decide +kernel
theorem d_M_load_72 : decode b_M_load 72 = .ok (.getfield 204, 3) := by decide +kernel
theorem d_M_load_75 : decode b_M_load 75 = .ok (.iadd, 1) := by decide +kernel
theorem d_M_load_76 : decode b_M_load 76 = .ok (.if_icmp .ge 10, 3) := by decide +kernel
theorem d_M_load_79 : decode b_M_load 79 = .ok (.aload_n 0, 1) := by decide +kernel
theorem d_M_load_80 : decode b_M_load 80 = .ok (.getfield 201, 3) := by decide +kernel
theorem d_M_load_83 : decode b_M_load 83 = .ok (.goto 14, 3) := by decide +kernel
theorem d_M_load_86 : decode b_M_load 86 = .ok (.iload_n 2, 1) := by decide +kernel
theorem d_M_load_87 : decode b_M_load 87 = .ok (.aload_n 0, 1) := by decide +kernel
theorem d_M_load_88 : decode b_M_load 88 = .ok (.getfield 204, 3) := by decide +kernel
theorem d_M_load_91 : decode b_M_load 91 = .ok (.imul, 1) := by decide +kernel
theorem d_M_load_92 : decode b_M_load 92 = .ok (.aload_n 0, 1) := by decide +kernel
theorem d_M_load_93 : decode b_M_load 93 = .ok (.getfield 204, 3) := by decide +kernel
theorem d_M_load_96 : decode b_M_load 96 = .ok (.iadd, 1) := by decide +kernel
theorem d_M_load_97 : decode b_M_load 97 = .ok (.invokevirtual 253, 3) := by decide +kernel
theorem d_M_load_100 : decode b_M_load 100 = .ok (.iinc 2 1, 3) := by decide +kernel
theorem d_M_load_103 : decode b_M_load 103 = .ok (.goto (-71), 3) := by decide +kernel
theorem d_M_load_106 : decode b_M_load 106 = .ok (.aload_n 0, 1) := by decide +kernel
theorem d_M_load_107 : decode b_M_load 107 = .ok (.aload_n 0, 1) := by decide +kernel
theorem d_M_load_108 : decode b_M_load 108 = .ok (.getfield 220, 3) := by decide +kernel
theorem d_M_load_111 : decode b_M_load 111 = .ok (.putfield 13, 3) := by decide +kernel
theorem d_M_load_114 : decode b_M_load 114 = .ok (.aload_n 0, 1) := by decide +kernel
theorem d_M_load_115 : decode b_M_load 115 = .ok (.aload_n 0, 1) := by decide +kernel
theorem d_M_load_116 : decode b_M_load 116 = .ok (.getfield 201, 3) := by decide +kernel
theorem d_M_load_119 : decode b_M_load 119 = .ok (.putfield 17, 3) := by decide +kernel
theorem d_M_load_122 : decode b_M_load 122 = .ok (.aload_n 0, 1) := by decide +kernel
theorem d_M_load_123 : decode b_M_load 123 = .ok (.aload_n 0, 1) := by decide +kernel
theorem d_M_load_124 : decode b_M_load 124 = .ok (.getfield 223, 3) := by decide +kernel
theorem d_M_load_127 : decode b_M_load 127 = .ok (.putfield 20, 3) := by decide +kernel
theorem d_M_load_130 : decode b_M_load 130 = .ok (.iconst 0, 1) := by decide +kernel
theorem d_M_load_131 : decode b_M_load 131 = .ok (.istore_n 2, 1) := by decide +kernel
theorem d_M_load_132 : decode b_M_load 132 = .ok (.iload_n 2, 1) := by decide +kernel
theorem d_M_load_133 : decode b_M_load 133 = .ok (.sipush 256, 3) := by decide +kernel
theorem d_M_load_136 : decode b_M_load 136 = .ok (.if_icmp .ge 21, 3) := by decide +kernel
theorem d_M_load_139 : decode b_M_load 139 = .ok (.aload_n 0, 1) := by decide +kernel
theorem d_M_load_140 : decode b_M_load 140 = .ok (.getfield 23, 3) := by decide +kernel
theorem d_M_load_143 : decode b_M_load 143 = .ok (.iload_n 2, 1) := by decide +kernel
theorem d_M_load_144 : decode b_M_load 144 = .ok (.aload_n 0, 1) := by decide +kernel
theorem d_M_load_145 : decode b_M_load 145 = .ok (.getfield 56, 3) := by decide +kernel
theorem d_M_load_148 : decode b_M_load 148 = .ok (.iload_n 2, 1) := by decide +kernel
theorem d_M_load_149 : decode b_M_load 149 = .ok (.iaload, 1) := by decide +kernel
theorem d_M_load_150 : decode b_M_load 150 = .ok (.iastore, 1) := by decide +kernel
theorem d_M_load_151 : decode b_M_load 151 = .ok (.iinc 2 1, 3) := by decide +kernel
theorem d_M_load_154 : decode b_M_load 154 = .ok (.goto (-22), 3) := by decide +kernel
theorem d_M_load_157 : decode b_M_load 157 = .ok (.iconst 0, 1) := by decide +kernel
theorem d_M_load_158 : decode b_M_load 158 = .ok (.ireturn, 1) := by decide +kernel
def wp_M_load_l132 (post : Int32 → (Nat → Int32) → (Nat → Int32) → (Nat → Int32) → (Nat → Int32) → (Nat → Int32) → (Nat → Int32) → (Nat → Int32) → (Nat → Int32) → Prop) (f_p0_file : Nat → Int32) : Nat → (Nat → Int32) → (Nat → Int32) → (Nat → Int32) → (Nat → Int32) → (Nat → Int32) → (Nat → Int32) → (Nat → Int32) → (Nat → Int32) → Int32 → Prop
  | 0, _, _, _, _, _, _, _, _, _ => False
  | n + 1, I_p0, f_p0_data, f_p0_dirs, f_p0_many, f_p0_next, f_p0_nibs, f_p0_samples, f_p0_start, x2 =>
    ((256 ≤ x2 →
      post 0 I_p0 f_p0_data f_p0_dirs f_p0_many f_p0_next f_p0_nibs f_p0_samples f_p0_start) ∧
     (¬ 256 ≤ x2 →
      vp_in x2 256 ∧
      vp_in x2 256 ∧
      wp_M_load_l132 post f_p0_file n I_p0 f_p0_data f_p0_dirs f_p0_many f_p0_next f_p0_nibs (upd f_p0_samples (x2).toNatClampNeg (f_p0_next (x2).toNatClampNeg)) f_p0_start (x2 + 1)))
def wp_M_load_b97 (post : Int32 → (Nat → Int32) → (Nat → Int32) → (Nat → Int32) → (Nat → Int32) → (Nat → Int32) → (Nat → Int32) → (Nat → Int32) → (Nat → Int32) → Prop) (k32 : (Nat → Int32) → (Nat → Int32) → (Nat → Int32) → (Nat → Int32) → (Nat → Int32) → (Nat → Int32) → (Nat → Int32) → (Nat → Int32) → Int32 → Int32 → Prop) (f_p0_file : Nat → Int32) (I_p0 : Nat → Int32) (f_p0_data : Nat → Int32) (f_p0_dirs : Nat → Int32) (f_p0_many : Nat → Int32) (f_p0_next : Nat → Int32) (f_p0_nibs : Nat → Int32) (f_p0_samples : Nat → Int32) (f_p0_start : Nat → Int32) (x1 : Int32) (x2 : Int32) (s0 : Int32) (s1 : Int32) : Prop :=
  wp_M_take (fun (f_p0_next_97 : Nat → Int32) =>
    k32 I_p0 f_p0_data f_p0_dirs f_p0_many f_p0_next_97 f_p0_nibs f_p0_samples f_p0_start x1 (x2 + 1)) I_p0 f_p0_data f_p0_next s1 s0
def wp_M_load_l32 (post : Int32 → (Nat → Int32) → (Nat → Int32) → (Nat → Int32) → (Nat → Int32) → (Nat → Int32) → (Nat → Int32) → (Nat → Int32) → (Nat → Int32) → Prop) (f_p0_file : Nat → Int32) : Nat → (Nat → Int32) → (Nat → Int32) → (Nat → Int32) → (Nat → Int32) → (Nat → Int32) → (Nat → Int32) → (Nat → Int32) → (Nat → Int32) → Int32 → Int32 → Prop
  | 0, _, _, _, _, _, _, _, _, _, _ => False
  | n + 1, I_p0, f_p0_data, f_p0_dirs, f_p0_many, f_p0_next, f_p0_nibs, f_p0_samples, f_p0_start, x1, x2 =>
    wp_M_strips (fun (r34 : Int32) =>
      ((r34 ≤ x2 →
        (∃ n1 : Nat, wp_M_load_l132 post f_p0_file n1 (upd (upd (upd I_p0 3 (I_p0 23)) 4 (I_p0 24)) 5 (I_p0 25)) f_p0_data f_p0_dirs f_p0_many f_p0_next f_p0_nibs f_p0_samples f_p0_start 0)) ∧
       (¬ r34 ≤ x2 →
        wp_M_strip (fun (r43 : Int32) (I_p0_43 : Nat → Int32) (f_p0_data_43 : Nat → Int32) (f_p0_dirs_43 : Nat → Int32) (f_p0_many_43 : Nat → Int32) (f_p0_nibs_43 : Nat → Int32) (f_p0_start_43 : Nat → Int32) =>
          ((r43 = 0 →
            post ((-6) - x2) I_p0_43 f_p0_data_43 f_p0_dirs_43 f_p0_many_43 f_p0_next f_p0_nibs_43 f_p0_samples f_p0_start_43) ∧
           (¬ r43 = 0 →
            ((((x2 * (I_p0_43 27)) + (I_p0_43 27)) ≤ (I_p0_43 24) →
              wp_M_load_b97 post (wp_M_load_l32 post f_p0_file n) f_p0_file I_p0_43 f_p0_data_43 f_p0_dirs_43 f_p0_many_43 f_p0_next f_p0_nibs_43 f_p0_samples f_p0_start_43 x1 x2 ((x2 * (I_p0_43 27)) + (I_p0_43 27)) (x2 * (I_p0_43 27))) ∧
             (¬ ((x2 * (I_p0_43 27)) + (I_p0_43 27)) ≤ (I_p0_43 24) →
              wp_M_load_b97 post (wp_M_load_l32 post f_p0_file n) f_p0_file I_p0_43 f_p0_data_43 f_p0_dirs_43 f_p0_many_43 f_p0_next f_p0_nibs_43 f_p0_samples f_p0_start_43 x1 x2 (I_p0_43 24) (x2 * (I_p0_43 27))))))) f_p0_file I_p0 f_p0_data f_p0_dirs f_p0_many f_p0_nibs f_p0_start x1 x2))) I_p0
def wp_M_load (post : Int32 → (Nat → Int32) → (Nat → Int32) → (Nat → Int32) → (Nat → Int32) → (Nat → Int32) → (Nat → Int32) → (Nat → Int32) → (Nat → Int32) → Prop) (f_p0_file : Nat → Int32) (I_p0 : Nat → Int32) (f_p0_data : Nat → Int32) (f_p0_dirs : Nat → Int32) (f_p0_many : Nat → Int32) (f_p0_next : Nat → Int32) (f_p0_nibs : Nat → Int32) (f_p0_samples : Nat → Int32) (f_p0_start : Nat → Int32) (x1 : Int32) : Prop :=
  wp_M_walk (fun (I_p0_1 : Nat → Int32) (f_p0_dirs_1 : Nat → Int32) =>
    ((x1 < 0 →
      post (-4) I_p0_1 f_p0_data f_p0_dirs_1 f_p0_many f_p0_next f_p0_nibs f_p0_samples f_p0_start) ∧
     (¬ x1 < 0 →
      ((x1 < (I_p0_1 11) →
        wp_M_fields (fun (r21 : Int32) (I_p0_21 : Nat → Int32) (f_p0_dirs_21 : Nat → Int32) =>
          ((r21 = 0 →
            post (-5) I_p0_21 f_p0_data f_p0_dirs_21 f_p0_many f_p0_next f_p0_nibs f_p0_samples f_p0_start) ∧
           (¬ r21 = 0 →
            (∃ n1 : Nat, wp_M_load_l32 post f_p0_file n1 I_p0_21 f_p0_data f_p0_dirs_21 f_p0_many f_p0_next f_p0_nibs f_p0_samples f_p0_start x1 0)))) f_p0_file I_p0_1 f_p0_dirs_1 x1) ∧
       (¬ x1 < (I_p0_1 11) →
        post (-4) I_p0_1 f_p0_data f_p0_dirs_1 f_p0_many f_p0_next f_p0_nibs f_p0_samples f_p0_start))))) f_p0_file I_p0 f_p0_dirs
set_option maxRecDepth 100000 in
set_option maxHeartbeats 4000000 in
theorem c_M_load (l : Launch) (dC : Nat → ClassId) (dI : Nat → Nat → Nat) (cI : ClassId) (a_p0 : Nat) (A_p0 : Nat → Nat) (f_p0_file : Nat → Int32) (I_p0 : Nat → Int32) (f_p0_data : Nat → Int32) (f_p0_dirs : Nat → Int32) (f_p0_many : Nat → Int32) (f_p0_next : Nat → Int32) (f_p0_nibs : Nat → Int32) (f_p0_samples : Nat → Int32) (f_p0_start : Nat → Int32) (x1 : Int32) {post : Int32 → (Nat → Int32) → (Nat → Int32) → (Nat → Int32) → (Nat → Int32) → (Nat → Int32) → (Nat → Int32) → (Nat → Int32) → (Nat → Int32) → Prop} (hw : wp_M_load post f_p0_file I_p0 f_p0_data f_p0_dirs f_p0_many f_p0_next f_p0_nibs f_p0_samples f_p0_start x1) : gm_i l y_M_load ws_M_load ({ frames := 7, cells := 0, slots := 0, locals := 180 } : Room) (dC, dI) vwCl [(cI, .int)] [.ref a_p0, .int x1] [oM a_p0 A_p0 I_p0, gz cI (A_p0 15) 256 f_p0_data, gz cI (A_p0 13) 8 f_p0_dirs, gz cI (A_p0 0) 2000 f_p0_file, gz cI (A_p0 18) 120 f_p0_many, gz cI (A_p0 29) 256 f_p0_next, gz cI (A_p0 16) 512 f_p0_nibs, gz cI (A_p0 6) 256 f_p0_samples, gz cI (A_p0 17) 120 f_p0_start] (fun (u : (Nat → Int32) × (Nat → Int32) × (Nat → Int32) × (Nat → Int32) × (Nat → Int32) × (Nat → Int32) × (Nat → Int32) × (Nat → Int32)) => [oM a_p0 A_p0 u.1, gz cI (A_p0 15) 256 u.2.1, gz cI (A_p0 13) 8 u.2.2.1, gz cI (A_p0 0) 2000 f_p0_file, gz cI (A_p0 18) 120 u.2.2.2.1, gz cI (A_p0 29) 256 u.2.2.2.2.1, gz cI (A_p0 16) 512 u.2.2.2.2.2.1, gz cI (A_p0 6) 256 u.2.2.2.2.2.2.1, gz cI (A_p0 17) 120 u.2.2.2.2.2.2.2]) (fun (r : Int32) (u : (Nat → Int32) × (Nat → Int32) × (Nat → Int32) × (Nat → Int32) × (Nat → Int32) × (Nat → Int32) × (Nat → Int32) × (Nat → Int32)) => post r u.1 u.2.1 u.2.2.1 u.2.2.2.1 u.2.2.2.2.1 u.2.2.2.2.2.1 u.2.2.2.2.2.2.1 u.2.2.2.2.2.2.2) := by
  refine gm_iof (cc := b_M_load) (maxL := 3) (ty := .int) (by decide) rfl (Nat.le_of_ble_eq_true rfl) ?_
  intro p e s m args below meth c A Q hx hb hml hown hg hK hN hA hret
  have hown : s.vm.findClass R_M = some m.cls := hown
  have l132 : ∀ n : Nat, ∀ (H : Heap) (locs : List Loc) (ls : Array Slot) (I_p0 : Nat → Int32) (f_p0_data : Nat → Int32) (f_p0_dirs : Nat → Int32) (f_p0_many : Nat → Int32) (f_p0_next : Nat → Int32) (f_p0_nibs : Nat → Int32) (f_p0_samples : Nat → Int32) (f_p0_start : Nat → Int32) (x2 : Int32), va_P (dC, dI) vwCl [oM a_p0 A_p0 I_p0, gz cI (A_p0 15) 256 f_p0_data, gz cI (A_p0 13) 8 f_p0_dirs, gz cI (A_p0 0) 2000 f_p0_file, gz cI (A_p0 18) 120 f_p0_many, gz cI (A_p0 29) 256 f_p0_next, gz cI (A_p0 16) 512 f_p0_nibs, gz cI (A_p0 6) 256 f_p0_samples, gz cI (A_p0 17) 120 f_p0_start] H → va_D A [oM a_p0 A_p0 I_p0, gz cI (A_p0 15) 256 f_p0_data, gz cI (A_p0 13) 8 f_p0_dirs, gz cI (A_p0 0) 2000 f_p0_file, gz cI (A_p0 18) 120 f_p0_many, gz cI (A_p0 29) 256 f_p0_next, gz cI (A_p0 16) 512 f_p0_nibs, gz cI (A_p0 6) 256 f_p0_samples, gz cI (A_p0 17) 120 f_p0_start] → va_S A s.heap H locs → lv_has ls 3 [(0, .ref a_p0), (2, .int x2)] → wp_M_load_l132 post f_p0_file n I_p0 f_p0_data f_p0_dirs f_p0_many f_p0_next f_p0_nibs f_p0_samples f_p0_start x2 → W p l e ({ frames := 7, cells := 0, slots := 0, locals := 180 } : Room) s m args below meth c H locs 0 0 Q (F0 m 132 ls []) := by
    intro n
    induction n with
    | zero => intro H locs ls I_p0 f_p0_data f_p0_dirs f_p0_many f_p0_next f_p0_nibs f_p0_samples f_p0_start x2 hP hD hS hl hw; exact hw.elim
    | succ n ih =>
      intro H locs ls I_p0 f_p0_data f_p0_dirs f_p0_many f_p0_next f_p0_nibs f_p0_samples f_p0_start x2 hP hD hS hl hw
      unfold wp_M_load_l132 at hw
      refine lv_iload_n hx hb d_M_load_132 rfl (lv_at hl 1 rfl) ?_
      refine lv_sipush (v := 256) hx hb d_M_load_133 (by decide) ?_
      refine lv_icmp_ge hx hb d_M_load_136 rfl (fun hc => ?_) (fun hc => ?_)
      · have hw := hw.1 hc
        refine lv_iconst (v := 0) hx hb d_M_load_157 (by decide) ?_
        exact hret _ _ _ _ _ (I_p0, f_p0_data, f_p0_dirs, f_p0_many, f_p0_next, f_p0_nibs, f_p0_samples, f_p0_start) d_M_load_158 rfl hP hD hS hw
      · have hw := hw.2 hc
        refine lv_aload_n hx hb d_M_load_139 rfl (lv_at hl 0 rfl) ?_
        refine va_get (D := (dC, dI)) (ci := 10) (v := .ref (A_p0 6)) (C := R_M) (T := T_M) (N := 30) hx hb hg in_M hown hK hP 0 rfl rfl 6 (by decide) (hg _ t_764) (fun _ h9 => h9) rfl d_M_load_140 ?_
        refine lv_iload_n hx hb d_M_load_143 rfl (lv_at hl 1 rfl) ?_
        refine lv_aload_n hx hb d_M_load_144 rfl (lv_at hl 0 rfl) ?_
        refine va_get (D := (dC, dI)) (ci := 10) (v := .ref (A_p0 29)) (C := R_M) (T := T_M) (N := 30) hx hb hg in_M hown hK hP 0 rfl rfl 29 (by decide) (hg _ t_787) (fun _ h9 => h9) rfl d_M_load_145 ?_
        refine lv_iload_n hx hb d_M_load_148 rfl (lv_at hl 1 rfl) ?_
        obtain ⟨hin, hw⟩ := hw
        refine va_iald hx hb hK hP 5 0 rfl rfl hin d_M_load_149 ?_
        obtain ⟨hin, hw⟩ := hw
        refine va_iast hx hb hK hP hD hS 7 0 rfl rfl hin d_M_load_150 (fun H locs hP hD hS => ?_)
        have hP : va_P (dC, dI) vwCl [oM a_p0 A_p0 I_p0, gz cI (A_p0 15) 256 f_p0_data, gz cI (A_p0 13) 8 f_p0_dirs, gz cI (A_p0 0) 2000 f_p0_file, gz cI (A_p0 18) 120 f_p0_many, gz cI (A_p0 29) 256 f_p0_next, gz cI (A_p0 16) 512 f_p0_nibs, gz cI (A_p0 6) 256 (upd f_p0_samples (x2).toNatClampNeg (f_p0_next (x2).toNatClampNeg)), gz cI (A_p0 17) 120 f_p0_start] H := hP
        have hD : va_D A [oM a_p0 A_p0 I_p0, gz cI (A_p0 15) 256 f_p0_data, gz cI (A_p0 13) 8 f_p0_dirs, gz cI (A_p0 0) 2000 f_p0_file, gz cI (A_p0 18) 120 f_p0_many, gz cI (A_p0 29) 256 f_p0_next, gz cI (A_p0 16) 512 f_p0_nibs, gz cI (A_p0 6) 256 (upd f_p0_samples (x2).toNatClampNeg (f_p0_next (x2).toNatClampNeg)), gz cI (A_p0 17) 120 f_p0_start] := hD
        refine lv_iinc (k := 1) (v := (x2 + 1)) (lv' := [(2, .int (x2 + 1)), (0, .ref a_p0)]) hx hb d_M_load_151 hl rfl (congrArg (fun z => x2 + z) (by decide : Int32.ofInt 1 = 1)) (by decide) rfl (fun ls hl => ?_)
        refine lv_goto hx hb d_M_load_154 rfl ?_
        exact ih _ _ _ I_p0 f_p0_data f_p0_dirs f_p0_many f_p0_next f_p0_nibs (upd f_p0_samples (x2).toNatClampNeg (f_p0_next (x2).toNatClampNeg)) f_p0_start (x2 + 1) hP hD hS (lv_sub hl [1, 0] rfl) hw
  have b97 : ∀ (k32 : (Nat → Int32) → (Nat → Int32) → (Nat → Int32) → (Nat → Int32) → (Nat → Int32) → (Nat → Int32) → (Nat → Int32) → (Nat → Int32) → Int32 → Int32 → Prop), (∀ (H : Heap) (locs : List Loc) (ls : Array Slot) (I_p0 : Nat → Int32) (f_p0_data : Nat → Int32) (f_p0_dirs : Nat → Int32) (f_p0_many : Nat → Int32) (f_p0_next : Nat → Int32) (f_p0_nibs : Nat → Int32) (f_p0_samples : Nat → Int32) (f_p0_start : Nat → Int32) (x1 : Int32) (x2 : Int32), va_P (dC, dI) vwCl [oM a_p0 A_p0 I_p0, gz cI (A_p0 15) 256 f_p0_data, gz cI (A_p0 13) 8 f_p0_dirs, gz cI (A_p0 0) 2000 f_p0_file, gz cI (A_p0 18) 120 f_p0_many, gz cI (A_p0 29) 256 f_p0_next, gz cI (A_p0 16) 512 f_p0_nibs, gz cI (A_p0 6) 256 f_p0_samples, gz cI (A_p0 17) 120 f_p0_start] H → va_D A [oM a_p0 A_p0 I_p0, gz cI (A_p0 15) 256 f_p0_data, gz cI (A_p0 13) 8 f_p0_dirs, gz cI (A_p0 0) 2000 f_p0_file, gz cI (A_p0 18) 120 f_p0_many, gz cI (A_p0 29) 256 f_p0_next, gz cI (A_p0 16) 512 f_p0_nibs, gz cI (A_p0 6) 256 f_p0_samples, gz cI (A_p0 17) 120 f_p0_start] → va_S A s.heap H locs → lv_has ls 3 [(0, .ref a_p0), (1, .int x1), (2, .int x2)] → k32 I_p0 f_p0_data f_p0_dirs f_p0_many f_p0_next f_p0_nibs f_p0_samples f_p0_start x1 x2 → W p l e ({ frames := 7, cells := 0, slots := 0, locals := 180 } : Room) s m args below meth c H locs 0 0 Q (F0 m 32 ls [])) → ∀ (H : Heap) (locs : List Loc) (ls : Array Slot) (I_p0 : Nat → Int32) (f_p0_data : Nat → Int32) (f_p0_dirs : Nat → Int32) (f_p0_many : Nat → Int32) (f_p0_next : Nat → Int32) (f_p0_nibs : Nat → Int32) (f_p0_samples : Nat → Int32) (f_p0_start : Nat → Int32) (x1 : Int32) (x2 : Int32) (s0 : Int32) (s1 : Int32), va_P (dC, dI) vwCl [oM a_p0 A_p0 I_p0, gz cI (A_p0 15) 256 f_p0_data, gz cI (A_p0 13) 8 f_p0_dirs, gz cI (A_p0 0) 2000 f_p0_file, gz cI (A_p0 18) 120 f_p0_many, gz cI (A_p0 29) 256 f_p0_next, gz cI (A_p0 16) 512 f_p0_nibs, gz cI (A_p0 6) 256 f_p0_samples, gz cI (A_p0 17) 120 f_p0_start] H → va_D A [oM a_p0 A_p0 I_p0, gz cI (A_p0 15) 256 f_p0_data, gz cI (A_p0 13) 8 f_p0_dirs, gz cI (A_p0 0) 2000 f_p0_file, gz cI (A_p0 18) 120 f_p0_many, gz cI (A_p0 29) 256 f_p0_next, gz cI (A_p0 16) 512 f_p0_nibs, gz cI (A_p0 6) 256 f_p0_samples, gz cI (A_p0 17) 120 f_p0_start] → va_S A s.heap H locs → lv_has ls 3 [(0, .ref a_p0), (1, .int x1), (2, .int x2)] → wp_M_load_b97 post k32 f_p0_file I_p0 f_p0_data f_p0_dirs f_p0_many f_p0_next f_p0_nibs f_p0_samples f_p0_start x1 x2 s0 s1 → W p l e ({ frames := 7, cells := 0, slots := 0, locals := 180 } : Room) s m args below meth c H locs 0 0 Q (F0 m 97 ls [.int s0, .int s1, .ref a_p0]) := by
    intro k32 hk32 H locs ls I_p0 f_p0_data f_p0_dirs f_p0_many f_p0_next f_p0_nibs f_p0_samples f_p0_start x1 x2 s0 s1 hP hD hS hl hw
    unfold wp_M_load_b97 at hw
    refine gc_v (wn := fun u => [oM a_p0 A_p0 I_p0, gz cI (A_p0 15) 256 f_p0_data, gz cI (A_p0 13) 8 f_p0_dirs, gz cI (A_p0 0) 2000 f_p0_file, gz cI (A_p0 18) 120 f_p0_many, gz cI (A_p0 29) 256 u, gz cI (A_p0 16) 512 f_p0_nibs, gz cI (A_p0 6) 256 f_p0_samples, gz cI (A_p0 17) 120 f_p0_start]) (wr := [gz cI (A_p0 13) 8 f_p0_dirs, gz cI (A_p0 0) 2000 f_p0_file, gz cI (A_p0 18) 120 f_p0_many, gz cI (A_p0 16) 512 f_p0_nibs, gz cI (A_p0 6) 256 f_p0_samples, gz cI (A_p0 17) 120 f_p0_start]) (gr_V (As := [.int s1, .int s0]) (rest := []) ⟨hx, hb, hml, hown, hg⟩ (c_M_take l dC dI cI a_p0 A_p0 I_p0 f_p0_data f_p0_next s1 s0 hw _) (cwV 2 hg (gg_V t_1060 t_1062 t_58 t_71 t_1063) rfl rfl rfl (by decide +kernel) ⟨Nat.le_of_ble_eq_true rfl, Nat.le_of_ble_eq_true rfl⟩) hK hN hP hD [0, 1, 5] (by decide) rfl 0 10 rfl rfl rfl rfl hl.1 rfl (Nat.le_of_ble_eq_true rfl) d_M_load_97 ⟨Nat.le_of_ble_eq_true rfl, Nat.le_of_ble_eq_true rfl⟩) rfl rfl hP hD hS hA [0, 1, 5] [2, 3, 4, 6, 7, 8] [6, 7, 0, 1, 2, 8, 3, 4, 5] rfl rfl (by decide) (by decide) (by decide) (fun _ => rfl) ?_
    intro f_p0_next_97 H locs hw hP hD hS
    try dsimp only at hw
    have hP : va_P (dC, dI) vwCl [oM a_p0 A_p0 I_p0, gz cI (A_p0 15) 256 f_p0_data, gz cI (A_p0 13) 8 f_p0_dirs, gz cI (A_p0 0) 2000 f_p0_file, gz cI (A_p0 18) 120 f_p0_many, gz cI (A_p0 29) 256 f_p0_next_97, gz cI (A_p0 16) 512 f_p0_nibs, gz cI (A_p0 6) 256 f_p0_samples, gz cI (A_p0 17) 120 f_p0_start] H := hP
    have hD : va_D A [oM a_p0 A_p0 I_p0, gz cI (A_p0 15) 256 f_p0_data, gz cI (A_p0 13) 8 f_p0_dirs, gz cI (A_p0 0) 2000 f_p0_file, gz cI (A_p0 18) 120 f_p0_many, gz cI (A_p0 29) 256 f_p0_next_97, gz cI (A_p0 16) 512 f_p0_nibs, gz cI (A_p0 6) 256 f_p0_samples, gz cI (A_p0 17) 120 f_p0_start] := hD
    refine lv_iinc (k := 2) (v := (x2 + 1)) (lv' := [(2, .int (x2 + 1)), (0, .ref a_p0), (1, .int x1)]) hx hb d_M_load_100 hl rfl (congrArg (fun z => x2 + z) (by decide : Int32.ofInt 1 = 1)) (by decide) rfl (fun ls hl => ?_)
    refine lv_goto hx hb d_M_load_103 rfl ?_
    exact hk32 _ _ _ I_p0 f_p0_data f_p0_dirs f_p0_many f_p0_next_97 f_p0_nibs f_p0_samples f_p0_start x1 (x2 + 1) hP hD hS (lv_sub hl [1, 2, 0] rfl) hw
  have l32 : ∀ n : Nat, ∀ (H : Heap) (locs : List Loc) (ls : Array Slot) (I_p0 : Nat → Int32) (f_p0_data : Nat → Int32) (f_p0_dirs : Nat → Int32) (f_p0_many : Nat → Int32) (f_p0_next : Nat → Int32) (f_p0_nibs : Nat → Int32) (f_p0_samples : Nat → Int32) (f_p0_start : Nat → Int32) (x1 : Int32) (x2 : Int32), va_P (dC, dI) vwCl [oM a_p0 A_p0 I_p0, gz cI (A_p0 15) 256 f_p0_data, gz cI (A_p0 13) 8 f_p0_dirs, gz cI (A_p0 0) 2000 f_p0_file, gz cI (A_p0 18) 120 f_p0_many, gz cI (A_p0 29) 256 f_p0_next, gz cI (A_p0 16) 512 f_p0_nibs, gz cI (A_p0 6) 256 f_p0_samples, gz cI (A_p0 17) 120 f_p0_start] H → va_D A [oM a_p0 A_p0 I_p0, gz cI (A_p0 15) 256 f_p0_data, gz cI (A_p0 13) 8 f_p0_dirs, gz cI (A_p0 0) 2000 f_p0_file, gz cI (A_p0 18) 120 f_p0_many, gz cI (A_p0 29) 256 f_p0_next, gz cI (A_p0 16) 512 f_p0_nibs, gz cI (A_p0 6) 256 f_p0_samples, gz cI (A_p0 17) 120 f_p0_start] → va_S A s.heap H locs → lv_has ls 3 [(0, .ref a_p0), (1, .int x1), (2, .int x2)] → wp_M_load_l32 post f_p0_file n I_p0 f_p0_data f_p0_dirs f_p0_many f_p0_next f_p0_nibs f_p0_samples f_p0_start x1 x2 → W p l e ({ frames := 7, cells := 0, slots := 0, locals := 180 } : Room) s m args below meth c H locs 0 0 Q (F0 m 32 ls []) := by
    intro n
    induction n with
    | zero => intro H locs ls I_p0 f_p0_data f_p0_dirs f_p0_many f_p0_next f_p0_nibs f_p0_samples f_p0_start x1 x2 hP hD hS hl hw; exact hw.elim
    | succ n ih =>
      intro H locs ls I_p0 f_p0_data f_p0_dirs f_p0_many f_p0_next f_p0_nibs f_p0_samples f_p0_start x1 x2 hP hD hS hl hw
      unfold wp_M_load_l32 at hw
      refine lv_iload_n hx hb d_M_load_32 rfl (lv_at hl 2 rfl) ?_
      refine lv_aload_n hx hb d_M_load_33 rfl (lv_at hl 0 rfl) ?_
      refine gc_i (wn := fun (_ : Unit) => [oM a_p0 A_p0 I_p0, gz cI (A_p0 15) 256 f_p0_data, gz cI (A_p0 13) 8 f_p0_dirs, gz cI (A_p0 0) 2000 f_p0_file, gz cI (A_p0 18) 120 f_p0_many, gz cI (A_p0 29) 256 f_p0_next, gz cI (A_p0 16) 512 f_p0_nibs, gz cI (A_p0 6) 256 f_p0_samples, gz cI (A_p0 17) 120 f_p0_start]) (wr := [gz cI (A_p0 15) 256 f_p0_data, gz cI (A_p0 13) 8 f_p0_dirs, gz cI (A_p0 0) 2000 f_p0_file, gz cI (A_p0 18) 120 f_p0_many, gz cI (A_p0 29) 256 f_p0_next, gz cI (A_p0 16) 512 f_p0_nibs, gz cI (A_p0 6) 256 f_p0_samples, gz cI (A_p0 17) 120 f_p0_start]) (gr_V (As := []) (rest := [.int x2]) ⟨hx, hb, hml, hown, hg⟩ (c_M_strips l dC dI cI a_p0 A_p0 I_p0 hw _) (cwV 0 hg (gg_V t_1040 t_1042 t_53 t_71 t_1043) rfl rfl rfl (by decide +kernel) ⟨Nat.le_of_ble_eq_true rfl, Nat.le_of_ble_eq_true rfl⟩) hK hN hP hD [0] (by decide) rfl 0 10 rfl rfl rfl rfl hl.1 rfl (Nat.le_of_ble_eq_true rfl) d_M_load_34 ⟨Nat.le_of_ble_eq_true rfl, Nat.le_of_ble_eq_true rfl⟩) rfl rfl hP hD hS hA [0] [1, 2, 3, 4, 5, 6, 7, 8] [8, 0, 1, 2, 3, 4, 5, 6, 7] rfl rfl (by decide) (by decide) (by decide) (fun _ => rfl) ?_
      intro r34 _ H locs hw hP hD hS
      try dsimp only at hw
      have hP : va_P (dC, dI) vwCl [oM a_p0 A_p0 I_p0, gz cI (A_p0 15) 256 f_p0_data, gz cI (A_p0 13) 8 f_p0_dirs, gz cI (A_p0 0) 2000 f_p0_file, gz cI (A_p0 18) 120 f_p0_many, gz cI (A_p0 29) 256 f_p0_next, gz cI (A_p0 16) 512 f_p0_nibs, gz cI (A_p0 6) 256 f_p0_samples, gz cI (A_p0 17) 120 f_p0_start] H := hP
      have hD : va_D A [oM a_p0 A_p0 I_p0, gz cI (A_p0 15) 256 f_p0_data, gz cI (A_p0 13) 8 f_p0_dirs, gz cI (A_p0 0) 2000 f_p0_file, gz cI (A_p0 18) 120 f_p0_many, gz cI (A_p0 29) 256 f_p0_next, gz cI (A_p0 16) 512 f_p0_nibs, gz cI (A_p0 6) 256 f_p0_samples, gz cI (A_p0 17) 120 f_p0_start] := hD
      refine lv_icmp_ge hx hb d_M_load_37 rfl (fun hc => ?_) (fun hc => ?_)
      · have hw := hw.1 hc
        refine lv_aload_n hx hb d_M_load_106 rfl (lv_at hl 0 rfl) ?_
        refine lv_aload_n hx hb d_M_load_107 rfl (lv_at hl 0 rfl) ?_
        refine va_get (D := (dC, dI)) (ci := 10) (v := .int (I_p0 23)) (C := R_M) (T := T_M) (N := 30) hx hb hg in_M hown hK hP 0 rfl rfl 23 (by decide) (hg _ t_781) (fun _ h9 => h9) rfl d_M_load_108 ?_
        refine va_put (D := (dC, dI)) (ci := 10) (v := .int (I_p0 23)) (ty := .int) (C := R_M) (T := T_M) (N := 30) hx hb hg in_M t_M tok_M nok_M hown hK hP hD hS 0 rfl rfl 3 (by decide) (hg _ t_761) (fun _ h9 => h9) rfl (by decide +kernel) rfl rfl (Nat.le_of_ble_eq_true rfl) d_M_load_111 (fun H locs hP hD hS => ?_)
        have hP : va_P (dC, dI) vwCl [oM a_p0 A_p0 (upd I_p0 3 (I_p0 23)), gz cI (A_p0 15) 256 f_p0_data, gz cI (A_p0 13) 8 f_p0_dirs, gz cI (A_p0 0) 2000 f_p0_file, gz cI (A_p0 18) 120 f_p0_many, gz cI (A_p0 29) 256 f_p0_next, gz cI (A_p0 16) 512 f_p0_nibs, gz cI (A_p0 6) 256 f_p0_samples, gz cI (A_p0 17) 120 f_p0_start] H := hP
        have hD : va_D A [oM a_p0 A_p0 (upd I_p0 3 (I_p0 23)), gz cI (A_p0 15) 256 f_p0_data, gz cI (A_p0 13) 8 f_p0_dirs, gz cI (A_p0 0) 2000 f_p0_file, gz cI (A_p0 18) 120 f_p0_many, gz cI (A_p0 29) 256 f_p0_next, gz cI (A_p0 16) 512 f_p0_nibs, gz cI (A_p0 6) 256 f_p0_samples, gz cI (A_p0 17) 120 f_p0_start] := hD
        refine lv_aload_n hx hb d_M_load_114 rfl (lv_at hl 0 rfl) ?_
        refine lv_aload_n hx hb d_M_load_115 rfl (lv_at hl 0 rfl) ?_
        refine va_get (D := (dC, dI)) (ci := 10) (v := .int (I_p0 24)) (C := R_M) (T := T_M) (N := 30) hx hb hg in_M hown hK hP 0 rfl rfl 24 (by decide) (hg _ t_782) (fun _ h9 => h9) rfl d_M_load_116 ?_
        refine va_put (D := (dC, dI)) (ci := 10) (v := .int (I_p0 24)) (ty := .int) (C := R_M) (T := T_M) (N := 30) hx hb hg in_M t_M tok_M nok_M hown hK hP hD hS 0 rfl rfl 4 (by decide) (hg _ t_762) (fun _ h9 => h9) rfl (by decide +kernel) rfl rfl (Nat.le_of_ble_eq_true rfl) d_M_load_119 (fun H locs hP hD hS => ?_)
        have hP : va_P (dC, dI) vwCl [oM a_p0 A_p0 (upd (upd I_p0 3 (I_p0 23)) 4 (I_p0 24)), gz cI (A_p0 15) 256 f_p0_data, gz cI (A_p0 13) 8 f_p0_dirs, gz cI (A_p0 0) 2000 f_p0_file, gz cI (A_p0 18) 120 f_p0_many, gz cI (A_p0 29) 256 f_p0_next, gz cI (A_p0 16) 512 f_p0_nibs, gz cI (A_p0 6) 256 f_p0_samples, gz cI (A_p0 17) 120 f_p0_start] H := hP
        have hD : va_D A [oM a_p0 A_p0 (upd (upd I_p0 3 (I_p0 23)) 4 (I_p0 24)), gz cI (A_p0 15) 256 f_p0_data, gz cI (A_p0 13) 8 f_p0_dirs, gz cI (A_p0 0) 2000 f_p0_file, gz cI (A_p0 18) 120 f_p0_many, gz cI (A_p0 29) 256 f_p0_next, gz cI (A_p0 16) 512 f_p0_nibs, gz cI (A_p0 6) 256 f_p0_samples, gz cI (A_p0 17) 120 f_p0_start] := hD
        refine lv_aload_n hx hb d_M_load_122 rfl (lv_at hl 0 rfl) ?_
        refine lv_aload_n hx hb d_M_load_123 rfl (lv_at hl 0 rfl) ?_
        refine va_get (D := (dC, dI)) (ci := 10) (v := .int (I_p0 25)) (C := R_M) (T := T_M) (N := 30) hx hb hg in_M hown hK hP 0 rfl rfl 25 (by decide) (hg _ t_783) (fun _ h9 => h9) rfl d_M_load_124 ?_
        refine va_put (D := (dC, dI)) (ci := 10) (v := .int (I_p0 25)) (ty := .int) (C := R_M) (T := T_M) (N := 30) hx hb hg in_M t_M tok_M nok_M hown hK hP hD hS 0 rfl rfl 5 (by decide) (hg _ t_763) (fun _ h9 => h9) rfl (by decide +kernel) rfl rfl (Nat.le_of_ble_eq_true rfl) d_M_load_127 (fun H locs hP hD hS => ?_)
        have hP : va_P (dC, dI) vwCl [oM a_p0 A_p0 (upd (upd (upd I_p0 3 (I_p0 23)) 4 (I_p0 24)) 5 (I_p0 25)), gz cI (A_p0 15) 256 f_p0_data, gz cI (A_p0 13) 8 f_p0_dirs, gz cI (A_p0 0) 2000 f_p0_file, gz cI (A_p0 18) 120 f_p0_many, gz cI (A_p0 29) 256 f_p0_next, gz cI (A_p0 16) 512 f_p0_nibs, gz cI (A_p0 6) 256 f_p0_samples, gz cI (A_p0 17) 120 f_p0_start] H := hP
        have hD : va_D A [oM a_p0 A_p0 (upd (upd (upd I_p0 3 (I_p0 23)) 4 (I_p0 24)) 5 (I_p0 25)), gz cI (A_p0 15) 256 f_p0_data, gz cI (A_p0 13) 8 f_p0_dirs, gz cI (A_p0 0) 2000 f_p0_file, gz cI (A_p0 18) 120 f_p0_many, gz cI (A_p0 29) 256 f_p0_next, gz cI (A_p0 16) 512 f_p0_nibs, gz cI (A_p0 6) 256 f_p0_samples, gz cI (A_p0 17) 120 f_p0_start] := hD
        refine lv_iconst (v := 0) hx hb d_M_load_130 (by decide) ?_
        refine lv_istore_n (lv' := [(2, .int 0), (0, .ref a_p0), (1, .int x1)]) hx hb d_M_load_131 rfl hl (by decide) rfl (fun ls hl => ?_)
        obtain ⟨n1, hw⟩ := hw
        exact l132 n1 _ _ _ (upd (upd (upd I_p0 3 (I_p0 23)) 4 (I_p0 24)) 5 (I_p0 25)) f_p0_data f_p0_dirs f_p0_many f_p0_next f_p0_nibs f_p0_samples f_p0_start 0 hP hD hS (lv_sub hl [1, 0] rfl) hw
      · have hw := hw.2 hc
        refine lv_aload_n hx hb d_M_load_40 rfl (lv_at hl 0 rfl) ?_
        refine lv_iload_n hx hb d_M_load_41 rfl (lv_at hl 1 rfl) ?_
        refine lv_iload_n hx hb d_M_load_42 rfl (lv_at hl 2 rfl) ?_
        refine gc_i (wn := fun u => [oM a_p0 A_p0 u.1, gz cI (A_p0 15) 256 u.2.1, gz cI (A_p0 13) 8 u.2.2.1, gz cI (A_p0 0) 2000 f_p0_file, gz cI (A_p0 18) 120 u.2.2.2.1, gz cI (A_p0 29) 256 f_p0_next, gz cI (A_p0 16) 512 u.2.2.2.2.1, gz cI (A_p0 6) 256 f_p0_samples, gz cI (A_p0 17) 120 u.2.2.2.2.2]) (wr := [gz cI (A_p0 29) 256 f_p0_next, gz cI (A_p0 6) 256 f_p0_samples]) (gr_V (As := [.int x1, .int x2]) (rest := []) ⟨hx, hb, hml, hown, hg⟩ (c_M_strip l dC dI cI a_p0 A_p0 f_p0_file I_p0 f_p0_data f_p0_dirs f_p0_many f_p0_nibs f_p0_start x1 x2 hw _) (cwV 2 hg (gg_V t_1044 t_1046 t_54 t_71 t_1047) rfl rfl rfl (by decide +kernel) ⟨Nat.le_of_ble_eq_true rfl, Nat.le_of_ble_eq_true rfl⟩) hK hN hP hD [0, 1, 2, 3, 4, 6, 8] (by decide) rfl 0 10 rfl rfl rfl rfl hl.1 rfl (Nat.le_of_ble_eq_true rfl) d_M_load_43 ⟨Nat.le_of_ble_eq_true rfl, Nat.le_of_ble_eq_true rfl⟩) rfl rfl hP hD hS hA [0, 1, 2, 3, 4, 6, 8] [5, 7] [2, 3, 4, 5, 6, 0, 7, 1, 8] rfl rfl (by decide) (by decide) (by decide) (fun _ => rfl) ?_
        intro r43 u9 H locs hw hP hD hS
        obtain ⟨I_p0_43, f_p0_data_43, f_p0_dirs_43, f_p0_many_43, f_p0_nibs_43, f_p0_start_43⟩ := u9
        try dsimp only at hw
        have hP : va_P (dC, dI) vwCl [oM a_p0 A_p0 I_p0_43, gz cI (A_p0 15) 256 f_p0_data_43, gz cI (A_p0 13) 8 f_p0_dirs_43, gz cI (A_p0 0) 2000 f_p0_file, gz cI (A_p0 18) 120 f_p0_many_43, gz cI (A_p0 29) 256 f_p0_next, gz cI (A_p0 16) 512 f_p0_nibs_43, gz cI (A_p0 6) 256 f_p0_samples, gz cI (A_p0 17) 120 f_p0_start_43] H := hP
        have hD : va_D A [oM a_p0 A_p0 I_p0_43, gz cI (A_p0 15) 256 f_p0_data_43, gz cI (A_p0 13) 8 f_p0_dirs_43, gz cI (A_p0 0) 2000 f_p0_file, gz cI (A_p0 18) 120 f_p0_many_43, gz cI (A_p0 29) 256 f_p0_next, gz cI (A_p0 16) 512 f_p0_nibs_43, gz cI (A_p0 6) 256 f_p0_samples, gz cI (A_p0 17) 120 f_p0_start_43] := hD
        refine lv_if_ne hx hb d_M_load_46 rfl (fun hc => ?_) (fun hc => ?_)
        · have hw := hw.2 hc
          refine lv_aload_n hx hb d_M_load_54 rfl (lv_at hl 0 rfl) ?_
          refine lv_iload_n hx hb d_M_load_55 rfl (lv_at hl 2 rfl) ?_
          refine lv_aload_n hx hb d_M_load_56 rfl (lv_at hl 0 rfl) ?_
          refine va_get (D := (dC, dI)) (ci := 10) (v := .int (I_p0_43 27)) (C := R_M) (T := T_M) (N := 30) hx hb hg in_M hown hK hP 0 rfl rfl 27 (by decide) (hg _ t_785) (fun _ h9 => h9) rfl d_M_load_57 ?_
          refine lv_imul hx hb d_M_load_60 ?_
          refine lv_aload_n hx hb d_M_load_61 rfl (lv_at hl 0 rfl) ?_
          refine va_get (D := (dC, dI)) (ci := 10) (v := .int (I_p0_43 24)) (C := R_M) (T := T_M) (N := 30) hx hb hg in_M hown hK hP 0 rfl rfl 24 (by decide) (hg _ t_782) (fun _ h9 => h9) rfl d_M_load_62 ?_
          refine lv_iload_n hx hb d_M_load_65 rfl (lv_at hl 2 rfl) ?_
          refine lv_aload_n hx hb d_M_load_66 rfl (lv_at hl 0 rfl) ?_
          refine va_get (D := (dC, dI)) (ci := 10) (v := .int (I_p0_43 27)) (C := R_M) (T := T_M) (N := 30) hx hb hg in_M hown hK hP 0 rfl rfl 27 (by decide) (hg _ t_785) (fun _ h9 => h9) rfl d_M_load_67 ?_
          refine lv_imul hx hb d_M_load_70 ?_
          refine lv_aload_n hx hb d_M_load_71 rfl (lv_at hl 0 rfl) ?_
          refine va_get (D := (dC, dI)) (ci := 10) (v := .int (I_p0_43 27)) (C := R_M) (T := T_M) (N := 30) hx hb hg in_M hown hK hP 0 rfl rfl 27 (by decide) (hg _ t_785) (fun _ h9 => h9) rfl d_M_load_72 ?_
          refine lv_iadd hx hb d_M_load_75 ?_
          refine lv_icmp_ge hx hb d_M_load_76 rfl (fun hc => ?_) (fun hc => ?_)
          · have hw := hw.1 hc
            refine lv_iload_n hx hb d_M_load_86 rfl (lv_at hl 2 rfl) ?_
            refine lv_aload_n hx hb d_M_load_87 rfl (lv_at hl 0 rfl) ?_
            refine va_get (D := (dC, dI)) (ci := 10) (v := .int (I_p0_43 27)) (C := R_M) (T := T_M) (N := 30) hx hb hg in_M hown hK hP 0 rfl rfl 27 (by decide) (hg _ t_785) (fun _ h9 => h9) rfl d_M_load_88 ?_
            refine lv_imul hx hb d_M_load_91 ?_
            refine lv_aload_n hx hb d_M_load_92 rfl (lv_at hl 0 rfl) ?_
            refine va_get (D := (dC, dI)) (ci := 10) (v := .int (I_p0_43 27)) (C := R_M) (T := T_M) (N := 30) hx hb hg in_M hown hK hP 0 rfl rfl 27 (by decide) (hg _ t_785) (fun _ h9 => h9) rfl d_M_load_93 ?_
            refine lv_iadd hx hb d_M_load_96 ?_
            exact b97 _ ih _ _ _ I_p0_43 f_p0_data_43 f_p0_dirs_43 f_p0_many_43 f_p0_next f_p0_nibs_43 f_p0_samples f_p0_start_43 x1 x2 ((x2 * (I_p0_43 27)) + (I_p0_43 27)) (x2 * (I_p0_43 27)) hP hD hS (lv_sub hl [0, 1, 2] rfl) hw
          · have hw := hw.2 hc
            refine lv_aload_n hx hb d_M_load_79 rfl (lv_at hl 0 rfl) ?_
            refine va_get (D := (dC, dI)) (ci := 10) (v := .int (I_p0_43 24)) (C := R_M) (T := T_M) (N := 30) hx hb hg in_M hown hK hP 0 rfl rfl 24 (by decide) (hg _ t_782) (fun _ h9 => h9) rfl d_M_load_80 ?_
            refine lv_goto hx hb d_M_load_83 rfl ?_
            exact b97 _ ih _ _ _ I_p0_43 f_p0_data_43 f_p0_dirs_43 f_p0_many_43 f_p0_next f_p0_nibs_43 f_p0_samples f_p0_start_43 x1 x2 (I_p0_43 24) (x2 * (I_p0_43 27)) hP hD hS (lv_sub hl [0, 1, 2] rfl) hw
        · have hw := hw.1 hc
          refine lv_bipush (v := (-6)) hx hb d_M_load_49 (by decide) ?_
          refine lv_iload_n hx hb d_M_load_51 rfl (lv_at hl 2 rfl) ?_
          refine lv_isub hx hb d_M_load_52 ?_
          exact hret _ _ _ _ _ (I_p0_43, f_p0_data_43, f_p0_dirs_43, f_p0_many_43, f_p0_next, f_p0_nibs_43, f_p0_samples, f_p0_start_43) d_M_load_53 rfl hP hD hS hw
  intro ls hl hP hD hS
  have hl : lv_has ls 3 [(0, .ref a_p0), (1, .int x1)] := hl
  unfold wp_M_load at hw
  refine lv_aload_n hx hb d_M_load_0 rfl (lv_at hl 0 rfl) ?_
  refine gc_v (wn := fun u => [oM a_p0 A_p0 u.1, gz cI (A_p0 15) 256 f_p0_data, gz cI (A_p0 13) 8 u.2, gz cI (A_p0 0) 2000 f_p0_file, gz cI (A_p0 18) 120 f_p0_many, gz cI (A_p0 29) 256 f_p0_next, gz cI (A_p0 16) 512 f_p0_nibs, gz cI (A_p0 6) 256 f_p0_samples, gz cI (A_p0 17) 120 f_p0_start]) (wr := [gz cI (A_p0 15) 256 f_p0_data, gz cI (A_p0 18) 120 f_p0_many, gz cI (A_p0 29) 256 f_p0_next, gz cI (A_p0 16) 512 f_p0_nibs, gz cI (A_p0 6) 256 f_p0_samples, gz cI (A_p0 17) 120 f_p0_start]) (gr_V (As := []) (rest := []) ⟨hx, hb, hml, hown, hg⟩ (c_M_walk l dC dI cI a_p0 A_p0 f_p0_file I_p0 f_p0_dirs hw _) (cwV 0 hg (gg_V t_897 t_899 t_27 t_71 t_900) rfl rfl rfl (by decide +kernel) ⟨Nat.le_of_ble_eq_true rfl, Nat.le_of_ble_eq_true rfl⟩) hK hN hP hD [0, 2, 3] (by decide) rfl 0 10 rfl rfl rfl rfl hl.1 rfl (Nat.le_of_ble_eq_true rfl) d_M_load_1 ⟨Nat.le_of_ble_eq_true rfl, Nat.le_of_ble_eq_true rfl⟩) rfl rfl hP hD hS hA [0, 2, 3] [1, 4, 5, 6, 7, 8] [6, 0, 7, 8, 1, 2, 3, 4, 5] rfl rfl (by decide) (by decide) (by decide) (fun _ => rfl) ?_
  intro u9 H locs hw hP hD hS
  obtain ⟨I_p0_1, f_p0_dirs_1⟩ := u9
  try dsimp only at hw
  have hP : va_P (dC, dI) vwCl [oM a_p0 A_p0 I_p0_1, gz cI (A_p0 15) 256 f_p0_data, gz cI (A_p0 13) 8 f_p0_dirs_1, gz cI (A_p0 0) 2000 f_p0_file, gz cI (A_p0 18) 120 f_p0_many, gz cI (A_p0 29) 256 f_p0_next, gz cI (A_p0 16) 512 f_p0_nibs, gz cI (A_p0 6) 256 f_p0_samples, gz cI (A_p0 17) 120 f_p0_start] H := hP
  have hD : va_D A [oM a_p0 A_p0 I_p0_1, gz cI (A_p0 15) 256 f_p0_data, gz cI (A_p0 13) 8 f_p0_dirs_1, gz cI (A_p0 0) 2000 f_p0_file, gz cI (A_p0 18) 120 f_p0_many, gz cI (A_p0 29) 256 f_p0_next, gz cI (A_p0 16) 512 f_p0_nibs, gz cI (A_p0 6) 256 f_p0_samples, gz cI (A_p0 17) 120 f_p0_start] := hD
  refine lv_iload_n hx hb d_M_load_4 rfl (lv_at hl 1 rfl) ?_
  refine lv_if_lt hx hb d_M_load_5 rfl (fun hc => ?_) (fun hc => ?_)
  · have hw := hw.1 hc
    refine lv_bipush (v := (-4)) hx hb d_M_load_16 (by decide) ?_
    exact hret _ _ _ _ _ (I_p0_1, f_p0_data, f_p0_dirs_1, f_p0_many, f_p0_next, f_p0_nibs, f_p0_samples, f_p0_start) d_M_load_18 rfl hP hD hS hw
  · have hw := hw.2 hc
    refine lv_iload_n hx hb d_M_load_8 rfl (lv_at hl 1 rfl) ?_
    refine lv_aload_n hx hb d_M_load_9 rfl (lv_at hl 0 rfl) ?_
    refine va_get (D := (dC, dI)) (ci := 10) (v := .int (I_p0_1 11)) (C := R_M) (T := T_M) (N := 30) hx hb hg in_M hown hK hP 0 rfl rfl 11 (by decide) (hg _ t_769) (fun _ h9 => h9) rfl d_M_load_10 ?_
    refine lv_icmp_lt hx hb d_M_load_13 rfl (fun hc => ?_) (fun hc => ?_)
    · have hw := hw.1 hc
      refine lv_aload_n hx hb d_M_load_19 rfl (lv_at hl 0 rfl) ?_
      refine lv_iload_n hx hb d_M_load_20 rfl (lv_at hl 1 rfl) ?_
      refine gc_i (wn := fun u => [oM a_p0 A_p0 u.1, gz cI (A_p0 15) 256 f_p0_data, gz cI (A_p0 13) 8 u.2, gz cI (A_p0 0) 2000 f_p0_file, gz cI (A_p0 18) 120 f_p0_many, gz cI (A_p0 29) 256 f_p0_next, gz cI (A_p0 16) 512 f_p0_nibs, gz cI (A_p0 6) 256 f_p0_samples, gz cI (A_p0 17) 120 f_p0_start]) (wr := [gz cI (A_p0 15) 256 f_p0_data, gz cI (A_p0 18) 120 f_p0_many, gz cI (A_p0 29) 256 f_p0_next, gz cI (A_p0 16) 512 f_p0_nibs, gz cI (A_p0 6) 256 f_p0_samples, gz cI (A_p0 17) 120 f_p0_start]) (gr_V (As := [.int x1]) (rest := []) ⟨hx, hb, hml, hown, hg⟩ (c_M_fields l dC dI cI a_p0 A_p0 f_p0_file I_p0_1 f_p0_dirs_1 x1 hw _) (cwV 1 hg (gg_V t_1020 t_1022 t_49 t_71 t_1023) rfl rfl rfl (by decide +kernel) ⟨Nat.le_of_ble_eq_true rfl, Nat.le_of_ble_eq_true rfl⟩) hK hN hP hD [0, 2, 3] (by decide) rfl 0 10 rfl rfl rfl rfl hl.1 rfl (Nat.le_of_ble_eq_true rfl) d_M_load_21 ⟨Nat.le_of_ble_eq_true rfl, Nat.le_of_ble_eq_true rfl⟩) rfl rfl hP hD hS hA [0, 2, 3] [1, 4, 5, 6, 7, 8] [6, 0, 7, 8, 1, 2, 3, 4, 5] rfl rfl (by decide) (by decide) (by decide) (fun _ => rfl) ?_
      intro r21 u9 H locs hw hP hD hS
      obtain ⟨I_p0_21, f_p0_dirs_21⟩ := u9
      try dsimp only at hw
      have hP : va_P (dC, dI) vwCl [oM a_p0 A_p0 I_p0_21, gz cI (A_p0 15) 256 f_p0_data, gz cI (A_p0 13) 8 f_p0_dirs_21, gz cI (A_p0 0) 2000 f_p0_file, gz cI (A_p0 18) 120 f_p0_many, gz cI (A_p0 29) 256 f_p0_next, gz cI (A_p0 16) 512 f_p0_nibs, gz cI (A_p0 6) 256 f_p0_samples, gz cI (A_p0 17) 120 f_p0_start] H := hP
      have hD : va_D A [oM a_p0 A_p0 I_p0_21, gz cI (A_p0 15) 256 f_p0_data, gz cI (A_p0 13) 8 f_p0_dirs_21, gz cI (A_p0 0) 2000 f_p0_file, gz cI (A_p0 18) 120 f_p0_many, gz cI (A_p0 29) 256 f_p0_next, gz cI (A_p0 16) 512 f_p0_nibs, gz cI (A_p0 6) 256 f_p0_samples, gz cI (A_p0 17) 120 f_p0_start] := hD
      refine lv_if_ne hx hb d_M_load_24 rfl (fun hc => ?_) (fun hc => ?_)
      · have hw := hw.2 hc
        refine lv_iconst (v := 0) hx hb d_M_load_30 (by decide) ?_
        refine lv_istore_n (lv' := [(2, .int 0), (0, .ref a_p0), (1, .int x1)]) hx hb d_M_load_31 rfl hl (by decide) rfl (fun ls hl => ?_)
        obtain ⟨n1, hw⟩ := hw
        exact l32 n1 _ _ _ I_p0_21 f_p0_data f_p0_dirs_21 f_p0_many f_p0_next f_p0_nibs f_p0_samples f_p0_start x1 0 hP hD hS (lv_sub hl [1, 2, 0] rfl) hw
      · have hw := hw.1 hc
        refine lv_bipush (v := (-5)) hx hb d_M_load_27 (by decide) ?_
        exact hret _ _ _ _ _ (I_p0_21, f_p0_data, f_p0_dirs_21, f_p0_many, f_p0_next, f_p0_nibs, f_p0_samples, f_p0_start) d_M_load_29 rfl hP hD hS hw
    · have hw := hw.2 hc
      refine lv_bipush (v := (-4)) hx hb d_M_load_16 (by decide) ?_
      exact hret _ _ _ _ _ (I_p0_1, f_p0_data, f_p0_dirs_1, f_p0_many, f_p0_next, f_p0_nibs, f_p0_samples, f_p0_start) d_M_load_18 rfl hP hD hS hw
theorem d_M_pages_0 : decode b_M_pages 0 = .ok (.aload_n 0, 1) := by decide +kernel
theorem d_M_pages_1 : decode b_M_pages 1 = .ok (.invokevirtual 102, 3) := by decide +kernel
theorem d_M_pages_4 : decode b_M_pages 4 = .ok (.aload_n 0, 1) := by decide +kernel
theorem d_M_pages_5 : decode b_M_pages 5 = .ok (.getfield 86, 3) := by decide +kernel
theorem d_M_pages_8 : decode b_M_pages 8 = .ok (.ireturn, 1) := by decide +kernel
def wp_M_pages (post : Int32 → (Nat → Int32) → (Nat → Int32) → Prop) (f_p0_file : Nat → Int32) (I_p0 : Nat → Int32) (f_p0_dirs : Nat → Int32) : Prop :=
  wp_M_walk (fun (I_p0_1 : Nat → Int32) (f_p0_dirs_1 : Nat → Int32) =>
    post (I_p0_1 11) I_p0_1 f_p0_dirs_1) f_p0_file I_p0 f_p0_dirs
set_option maxRecDepth 100000 in
set_option maxHeartbeats 4000000 in
theorem c_M_pages (l : Launch) (dC : Nat → ClassId) (dI : Nat → Nat → Nat) (cI : ClassId) (a_p0 : Nat) (A_p0 : Nat → Nat) (f_p0_file : Nat → Int32) (I_p0 : Nat → Int32) (f_p0_dirs : Nat → Int32) {post : Int32 → (Nat → Int32) → (Nat → Int32) → Prop} (hw : wp_M_pages post f_p0_file I_p0 f_p0_dirs) : gm_i l y_M_pages ws_M_pages ({ frames := 3, cells := 0, slots := 0, locals := 74 } : Room) (dC, dI) vwCl [(cI, .int)] [.ref a_p0] [oM a_p0 A_p0 I_p0, gz cI (A_p0 13) 8 f_p0_dirs, gz cI (A_p0 0) 2000 f_p0_file] (fun (u : (Nat → Int32) × (Nat → Int32)) => [oM a_p0 A_p0 u.1, gz cI (A_p0 13) 8 u.2, gz cI (A_p0 0) 2000 f_p0_file]) (fun (r : Int32) (u : (Nat → Int32) × (Nat → Int32)) => post r u.1 u.2) := by
  refine gm_iof (cc := b_M_pages) (maxL := 1) (ty := .int) (by decide) rfl (Nat.le_of_ble_eq_true rfl) ?_
  intro p e s m args below meth c A Q hx hb hml hown hg hK hN hA hret
  have hown : s.vm.findClass R_M = some m.cls := hown
  intro ls hl hP hD hS
  have hl : lv_has ls 1 [(0, .ref a_p0)] := hl
  unfold wp_M_pages at hw
  refine lv_aload_n hx hb d_M_pages_0 rfl (lv_at hl 0 rfl) ?_
  refine gc_v (wn := fun u => [oM a_p0 A_p0 u.1, gz cI (A_p0 13) 8 u.2, gz cI (A_p0 0) 2000 f_p0_file]) (wr := []) (gr_V (As := []) (rest := []) ⟨hx, hb, hml, hown, hg⟩ (c_M_walk l dC dI cI a_p0 A_p0 f_p0_file I_p0 f_p0_dirs hw _) (cwV 0 hg (gg_V t_897 t_899 t_27 t_71 t_900) rfl rfl rfl (by decide +kernel) ⟨Nat.le_of_ble_eq_true rfl, Nat.le_of_ble_eq_true rfl⟩) hK hN hP hD [0, 1, 2] (by decide) rfl 0 10 rfl rfl rfl rfl hl.1 rfl (Nat.le_of_ble_eq_true rfl) d_M_pages_1 ⟨Nat.le_of_ble_eq_true rfl, Nat.le_of_ble_eq_true rfl⟩) rfl rfl hP hD hS hA [0, 1, 2] [] [0, 1, 2] rfl rfl (by decide) (by decide) (by decide) (fun _ => rfl) ?_
  intro u9 H locs hw hP hD hS
  obtain ⟨I_p0_1, f_p0_dirs_1⟩ := u9
  try dsimp only at hw
  have hP : va_P (dC, dI) vwCl [oM a_p0 A_p0 I_p0_1, gz cI (A_p0 13) 8 f_p0_dirs_1, gz cI (A_p0 0) 2000 f_p0_file] H := hP
  have hD : va_D A [oM a_p0 A_p0 I_p0_1, gz cI (A_p0 13) 8 f_p0_dirs_1, gz cI (A_p0 0) 2000 f_p0_file] := hD
  refine lv_aload_n hx hb d_M_pages_4 rfl (lv_at hl 0 rfl) ?_
  refine va_get (D := (dC, dI)) (ci := 10) (v := .int (I_p0_1 11)) (C := R_M) (T := T_M) (N := 30) hx hb hg in_M hown hK hP 0 rfl rfl 11 (by decide) (hg _ t_769) (fun _ h9 => h9) rfl d_M_pages_5 ?_
  exact hret _ _ _ _ _ (I_p0_1, f_p0_dirs_1) d_M_pages_8 rfl hP hD hS hw
theorem d_M_poke_0 : decode b_M_poke 0 = .ok (.iload_n 1, 1) := by decide +kernel
theorem d_M_poke_1 : decode b_M_poke 1 = .ok (.ifCond .lt 22, 3) := by decide +kernel
theorem d_M_poke_4 : decode b_M_poke 4 = .ok (.iload_n 1, 1) := by decide +kernel
theorem d_M_poke_5 : decode b_M_poke 5 = .ok (.aload_n 0, 1) := by decide +kernel
theorem d_M_poke_6 : decode b_M_poke 6 = .ok (.getfield 63, 3) := by decide +kernel
theorem d_M_poke_9 : decode b_M_poke 9 = .ok (.if_icmp .ge 14, 3) := by decide +kernel
theorem d_M_poke_12 : decode b_M_poke 12 = .ok (.iload_n 2, 1) := by decide +kernel
theorem d_M_poke_13 : decode b_M_poke 13 = .ok (.ifCond .lt 10, 3) := by decide +kernel
theorem d_M_poke_16 : decode b_M_poke 16 = .ok (.iload_n 2, 1) := by decide +kernel
theorem d_M_poke_17 : decode b_M_poke 17 = .ok (.sipush 255, 3) := by decide +kernel
theorem d_M_poke_20 : decode b_M_poke 20 = .ok (.if_icmp .le 5, 3) := by decide +kernel
theorem d_M_poke_23 : decode b_M_poke 23 = .ok (.iconst 0, 1) := by decide +kernel
theorem d_M_poke_24 : decode b_M_poke 24 = .ok (.ireturn, 1) := by decide +kernel
theorem d_M_poke_25 : decode b_M_poke 25 = .ok (.aload_n 0, 1) := by decide +kernel
theorem d_M_poke_26 : decode b_M_poke 26 = .ok (.getfield 7, 3) := by decide +kernel
theorem d_M_poke_29 : decode b_M_poke 29 = .ok (.iload_n 1, 1) := by decide +kernel
theorem d_M_poke_30 : decode b_M_poke 30 = .ok (.iload_n 2, 1) := by decide +kernel
theorem d_M_poke_31 : decode b_M_poke 31 = .ok (.iastore, 1) := by decide +kernel
theorem d_M_poke_32 : decode b_M_poke 32 = .ok (.iconst 1, 1) := by decide +kernel
theorem d_M_poke_33 : decode b_M_poke 33 = .ok (.ireturn, 1) := by decide +kernel
def wp_M_poke (post : Int32 → (Nat → Int32) → Prop) (I_p0 : Nat → Int32) (f_p0_file : Nat → Int32) (x1 : Int32) (x2 : Int32) : Prop :=
  ((x1 < 0 →
    post 0 f_p0_file) ∧
   (¬ x1 < 0 →
    (((I_p0 1) ≤ x1 →
      post 0 f_p0_file) ∧
     (¬ (I_p0 1) ≤ x1 →
      ((x2 < 0 →
        post 0 f_p0_file) ∧
       (¬ x2 < 0 →
        ((x2 ≤ 255 →
          vp_in x1 2000 ∧
          post 1 (upd f_p0_file (x1).toNatClampNeg x2)) ∧
         (¬ x2 ≤ 255 →
          post 0 f_p0_file))))))))
set_option maxRecDepth 100000 in
set_option maxHeartbeats 4000000 in
theorem c_M_poke (l : Launch) (dC : Nat → ClassId) (dI : Nat → Nat → Nat) (cI : ClassId) (a_p0 : Nat) (A_p0 : Nat → Nat) (I_p0 : Nat → Int32) (f_p0_file : Nat → Int32) (x1 : Int32) (x2 : Int32) {post : Int32 → (Nat → Int32) → Prop} (hw : wp_M_poke post I_p0 f_p0_file x1 x2) : gm_i l y_M_poke ws_M_poke ({ frames := 0, cells := 0, slots := 0, locals := 0 } : Room) (dC, dI) vwCl [(cI, .int)] [.ref a_p0, .int x1, .int x2] [oM a_p0 A_p0 I_p0, gz cI (A_p0 0) 2000 f_p0_file] (fun (u : (Nat → Int32)) => [oM a_p0 A_p0 I_p0, gz cI (A_p0 0) 2000 u]) (fun (r : Int32) (u : (Nat → Int32)) => post r u) := by
  refine gm_iof (cc := b_M_poke) (maxL := 3) (ty := .boolean) (by decide) rfl (Nat.le_of_ble_eq_true rfl) ?_
  intro p e s m args below meth c A Q hx hb hml hown hg hK hN hA hret
  have hown : s.vm.findClass R_M = some m.cls := hown
  intro ls hl hP hD hS
  have hl : lv_has ls 3 [(0, .ref a_p0), (1, .int x1), (2, .int x2)] := hl
  unfold wp_M_poke at hw
  refine lv_iload_n hx hb d_M_poke_0 rfl (lv_at hl 1 rfl) ?_
  refine lv_if_lt hx hb d_M_poke_1 rfl (fun hc => ?_) (fun hc => ?_)
  · have hw := hw.1 hc
    refine lv_iconst (v := 0) hx hb d_M_poke_23 (by decide) ?_
    exact hret _ _ _ _ _ f_p0_file d_M_poke_24 rfl hP hD hS hw
  · have hw := hw.2 hc
    refine lv_iload_n hx hb d_M_poke_4 rfl (lv_at hl 1 rfl) ?_
    refine lv_aload_n hx hb d_M_poke_5 rfl (lv_at hl 0 rfl) ?_
    refine va_get (D := (dC, dI)) (ci := 10) (v := .int (I_p0 1)) (C := R_M) (T := T_M) (N := 30) hx hb hg in_M hown hK hP 0 rfl rfl 1 (by decide) (hg _ t_759) (fun _ h9 => h9) rfl d_M_poke_6 ?_
    refine lv_icmp_ge hx hb d_M_poke_9 rfl (fun hc => ?_) (fun hc => ?_)
    · have hw := hw.1 hc
      refine lv_iconst (v := 0) hx hb d_M_poke_23 (by decide) ?_
      exact hret _ _ _ _ _ f_p0_file d_M_poke_24 rfl hP hD hS hw
    · have hw := hw.2 hc
      refine lv_iload_n hx hb d_M_poke_12 rfl (lv_at hl 2 rfl) ?_
      refine lv_if_lt hx hb d_M_poke_13 rfl (fun hc => ?_) (fun hc => ?_)
      · have hw := hw.1 hc
        refine lv_iconst (v := 0) hx hb d_M_poke_23 (by decide) ?_
        exact hret _ _ _ _ _ f_p0_file d_M_poke_24 rfl hP hD hS hw
      · have hw := hw.2 hc
        refine lv_iload_n hx hb d_M_poke_16 rfl (lv_at hl 2 rfl) ?_
        refine lv_sipush (v := 255) hx hb d_M_poke_17 (by decide) ?_
        refine lv_icmp_le hx hb d_M_poke_20 rfl (fun hc => ?_) (fun hc => ?_)
        · have hw := hw.1 hc
          refine lv_aload_n hx hb d_M_poke_25 rfl (lv_at hl 0 rfl) ?_
          refine va_get (D := (dC, dI)) (ci := 10) (v := .ref (A_p0 0)) (C := R_M) (T := T_M) (N := 30) hx hb hg in_M hown hK hP 0 rfl rfl 0 (by decide) (hg _ t_758) (fun _ h9 => h9) rfl d_M_poke_26 ?_
          refine lv_iload_n hx hb d_M_poke_29 rfl (lv_at hl 1 rfl) ?_
          refine lv_iload_n hx hb d_M_poke_30 rfl (lv_at hl 2 rfl) ?_
          obtain ⟨hin, hw⟩ := hw
          refine va_iast hx hb hK hP hD hS 1 0 rfl rfl hin d_M_poke_31 (fun H locs hP hD hS => ?_)
          have hP : va_P (dC, dI) vwCl [oM a_p0 A_p0 I_p0, gz cI (A_p0 0) 2000 (upd f_p0_file (x1).toNatClampNeg x2)] H := hP
          have hD : va_D A [oM a_p0 A_p0 I_p0, gz cI (A_p0 0) 2000 (upd f_p0_file (x1).toNatClampNeg x2)] := hD
          refine lv_iconst (v := 1) hx hb d_M_poke_32 (by decide) ?_
          exact hret _ _ _ _ _ (upd f_p0_file (x1).toNatClampNeg x2) d_M_poke_33 rfl hP hD hS hw
        · have hw := hw.2 hc
          refine lv_iconst (v := 0) hx hb d_M_poke_23 (by decide) ?_
          exact hret _ _ _ _ _ f_p0_file d_M_poke_24 rfl hP hD hS hw
theorem d_M_sample_0 : decode b_M_sample 0 = .ok (.iload_n 1, 1) := by decide +kernel
theorem d_M_sample_1 : decode b_M_sample 1 = .ok (.ifCond .lt 23, 3) := by decide +kernel
theorem d_M_sample_4 : decode b_M_sample 4 = .ok (.iload_n 2, 1) := by decide +kernel
theorem d_M_sample_5 : decode b_M_sample 5 = .ok (.ifCond .lt 19, 3) := by decide +kernel
theorem d_M_sample_8 : decode b_M_sample 8 = .ok (.iload_n 1, 1) := by decide +kernel
theorem d_M_sample_9 : decode b_M_sample 9 = .ok (.aload_n 0, 1) := by decide +kernel
theorem d_M_sample_10 : decode b_M_sample 10 = .ok (.getfield 13, 3) := by decide +kernel
theorem d_M_sample_13 : decode b_M_sample 13 = .ok (.if_icmp .ge 11, 3) := by decide +kernel
theorem d_M_sample_16 : decode b_M_sample 16 = .ok (.iload_n 2, 1) := by decide +kernel
theorem d_M_sample_17 : decode b_M_sample 17 = .ok (.aload_n 0, 1) := by decide +kernel
theorem d_M_sample_18 : decode b_M_sample 18 = .ok (.getfield 17, 3) := by decide +kernel
theorem d_M_sample_21 : decode b_M_sample 21 = .ok (.if_icmp .lt 7, 3) := by decide +kernel
theorem d_M_sample_24 : decode b_M_sample 24 = .ok (.iconst (-1), 1) := by decide +kernel
theorem d_M_sample_25 : decode b_M_sample 25 = .ok (.goto 14, 3) := by decide +kernel
theorem d_M_sample_28 : decode b_M_sample 28 = .ok (.aload_n 0, 1) := by decide +kernel
theorem d_M_sample_29 : decode b_M_sample 29 = .ok (.getfield 23, 3) := by decide +kernel
theorem d_M_sample_32 : decode b_M_sample 32 = .ok (.bipush 16, 2) := by decide +kernel
theorem d_M_sample_34 : decode b_M_sample 34 = .ok (.iload_n 2, 1) := by decide +kernel
theorem d_M_sample_35 : decode b_M_sample 35 = .ok (.imul, 1) := by decide +kernel
theorem d_M_sample_36 : decode b_M_sample 36 = .ok (.iload_n 1, 1) := by decide +kernel
theorem d_M_sample_37 : decode b_M_sample 37 = .ok (.iadd, 1) := by decide +kernel
theorem d_M_sample_38 : decode b_M_sample 38 = .ok (.iaload, 1) := by decide +kernel
theorem d_M_sample_39 : decode b_M_sample 39 = .ok (.ireturn, 1) := by decide +kernel
def wp_M_sample_b24 (post : Int32 → Prop) (I_p0 : Nat → Int32) (f_p0_samples : Nat → Int32) : Prop :=
  post (-1)
def wp_M_sample (post : Int32 → Prop) (I_p0 : Nat → Int32) (f_p0_samples : Nat → Int32) (x1 : Int32) (x2 : Int32) : Prop :=
  ((x1 < 0 →
    wp_M_sample_b24 post I_p0 f_p0_samples) ∧
   (¬ x1 < 0 →
    ((x2 < 0 →
      wp_M_sample_b24 post I_p0 f_p0_samples) ∧
     (¬ x2 < 0 →
      (((I_p0 3) ≤ x1 →
        wp_M_sample_b24 post I_p0 f_p0_samples) ∧
       (¬ (I_p0 3) ≤ x1 →
        ((x2 < (I_p0 4) →
          vp_in ((16 * x2) + x1) 256 ∧
          post (f_p0_samples ((16 * x2) + x1).toNatClampNeg)) ∧
         (¬ x2 < (I_p0 4) →
          wp_M_sample_b24 post I_p0 f_p0_samples))))))))
set_option maxRecDepth 100000 in
set_option maxHeartbeats 4000000 in
theorem c_M_sample (l : Launch) (dC : Nat → ClassId) (dI : Nat → Nat → Nat) (cI : ClassId) (a_p0 : Nat) (A_p0 : Nat → Nat) (I_p0 : Nat → Int32) (f_p0_samples : Nat → Int32) (x1 : Int32) (x2 : Int32) {post : Int32 → Prop} (hw : wp_M_sample post I_p0 f_p0_samples x1 x2) : gm_i l y_M_sample ws_M_sample ({ frames := 0, cells := 0, slots := 0, locals := 0 } : Room) (dC, dI) vwCl [(cI, .int)] [.ref a_p0, .int x1, .int x2] [oM a_p0 A_p0 I_p0, gz cI (A_p0 6) 256 f_p0_samples] (fun (_ : Unit) => [oM a_p0 A_p0 I_p0, gz cI (A_p0 6) 256 f_p0_samples]) (fun (r : Int32) (_ : Unit) => post r) := by
  refine gm_iof (cc := b_M_sample) (maxL := 3) (ty := .int) (by decide) rfl (Nat.le_of_ble_eq_true rfl) ?_
  intro p e s m args below meth c A Q hx hb hml hown hg hK hN hA hret
  have hown : s.vm.findClass R_M = some m.cls := hown
  have b24 : ∀ (H : Heap) (locs : List Loc) (ls : Array Slot), va_P (dC, dI) vwCl [oM a_p0 A_p0 I_p0, gz cI (A_p0 6) 256 f_p0_samples] H → va_D A [oM a_p0 A_p0 I_p0, gz cI (A_p0 6) 256 f_p0_samples] → va_S A s.heap H locs → lv_has ls 3 [] → wp_M_sample_b24 post I_p0 f_p0_samples → W p l e ({ frames := 0, cells := 0, slots := 0, locals := 0 } : Room) s m args below meth c H locs 0 0 Q (F0 m 24 ls []) := by
    intro H locs ls hP hD hS hl hw
    unfold wp_M_sample_b24 at hw
    refine lv_iconst (v := (-1)) hx hb d_M_sample_24 (by decide) ?_
    refine lv_goto hx hb d_M_sample_25 rfl ?_
    exact hret _ _ _ _ _ () d_M_sample_39 rfl hP hD hS hw
  intro ls hl hP hD hS
  have hl : lv_has ls 3 [(0, .ref a_p0), (1, .int x1), (2, .int x2)] := hl
  unfold wp_M_sample at hw
  refine lv_iload_n hx hb d_M_sample_0 rfl (lv_at hl 1 rfl) ?_
  refine lv_if_lt hx hb d_M_sample_1 rfl (fun hc => ?_) (fun hc => ?_)
  · have hw := hw.1 hc
    exact b24 _ _ _ hP hD hS (lv_sub hl [] rfl) hw
  · have hw := hw.2 hc
    refine lv_iload_n hx hb d_M_sample_4 rfl (lv_at hl 2 rfl) ?_
    refine lv_if_lt hx hb d_M_sample_5 rfl (fun hc => ?_) (fun hc => ?_)
    · have hw := hw.1 hc
      exact b24 _ _ _ hP hD hS (lv_sub hl [] rfl) hw
    · have hw := hw.2 hc
      refine lv_iload_n hx hb d_M_sample_8 rfl (lv_at hl 1 rfl) ?_
      refine lv_aload_n hx hb d_M_sample_9 rfl (lv_at hl 0 rfl) ?_
      refine va_get (D := (dC, dI)) (ci := 10) (v := .int (I_p0 3)) (C := R_M) (T := T_M) (N := 30) hx hb hg in_M hown hK hP 0 rfl rfl 3 (by decide) (hg _ t_761) (fun _ h9 => h9) rfl d_M_sample_10 ?_
      refine lv_icmp_ge hx hb d_M_sample_13 rfl (fun hc => ?_) (fun hc => ?_)
      · have hw := hw.1 hc
        exact b24 _ _ _ hP hD hS (lv_sub hl [] rfl) hw
      · have hw := hw.2 hc
        refine lv_iload_n hx hb d_M_sample_16 rfl (lv_at hl 2 rfl) ?_
        refine lv_aload_n hx hb d_M_sample_17 rfl (lv_at hl 0 rfl) ?_
        refine va_get (D := (dC, dI)) (ci := 10) (v := .int (I_p0 4)) (C := R_M) (T := T_M) (N := 30) hx hb hg in_M hown hK hP 0 rfl rfl 4 (by decide) (hg _ t_762) (fun _ h9 => h9) rfl d_M_sample_18 ?_
        refine lv_icmp_lt hx hb d_M_sample_21 rfl (fun hc => ?_) (fun hc => ?_)
        · have hw := hw.1 hc
          refine lv_aload_n hx hb d_M_sample_28 rfl (lv_at hl 0 rfl) ?_
          refine va_get (D := (dC, dI)) (ci := 10) (v := .ref (A_p0 6)) (C := R_M) (T := T_M) (N := 30) hx hb hg in_M hown hK hP 0 rfl rfl 6 (by decide) (hg _ t_764) (fun _ h9 => h9) rfl d_M_sample_29 ?_
          refine lv_bipush (v := 16) hx hb d_M_sample_32 (by decide) ?_
          refine lv_iload_n hx hb d_M_sample_34 rfl (lv_at hl 2 rfl) ?_
          refine lv_imul hx hb d_M_sample_35 ?_
          refine lv_iload_n hx hb d_M_sample_36 rfl (lv_at hl 1 rfl) ?_
          refine lv_iadd hx hb d_M_sample_37 ?_
          obtain ⟨hin, hw⟩ := hw
          refine va_iald hx hb hK hP 1 0 rfl rfl hin d_M_sample_38 ?_
          exact hret _ _ _ _ _ () d_M_sample_39 rfl hP hD hS hw
        · have hw := hw.2 hc
          exact b24 _ _ _ hP hD hS (lv_sub hl [] rfl) hw
theorem d_M_shape_0 : decode b_M_shape 0 = .ok (.ldc 66, 2) := by decide +kernel
theorem d_M_shape_2 : decode b_M_shape 2 = .ok (.aload_n 0, 1) := by decide +kernel
theorem d_M_shape_3 : decode b_M_shape 3 = .ok (.getfield 20, 3) := by decide +kernel
theorem d_M_shape_6 : decode b_M_shape 6 = .ok (.imul, 1) := by decide +kernel
theorem d_M_shape_7 : decode b_M_shape 7 = .ok (.sipush 1000, 3) := by decide +kernel
theorem d_M_shape_10 : decode b_M_shape 10 = .ok (.aload_n 0, 1) := by decide +kernel
theorem d_M_shape_11 : decode b_M_shape 11 = .ok (.getfield 13, 3) := by decide +kernel
theorem d_M_shape_14 : decode b_M_shape 14 = .ok (.imul, 1) := by decide +kernel
theorem d_M_shape_15 : decode b_M_shape 15 = .ok (.iadd, 1) := by decide +kernel
theorem d_M_shape_16 : decode b_M_shape 16 = .ok (.aload_n 0, 1) := by decide +kernel
theorem d_M_shape_17 : decode b_M_shape 17 = .ok (.getfield 17, 3) := by decide +kernel
theorem d_M_shape_20 : decode b_M_shape 20 = .ok (.iadd, 1) := by decide +kernel
theorem d_M_shape_21 : decode b_M_shape 21 = .ok (.ireturn, 1) := by decide +kernel
def wp_M_shape (post : Int32 → Prop) (I_p0 : Nat → Int32) : Prop :=
  post (((1000000 * (I_p0 5)) + (1000 * (I_p0 3))) + (I_p0 4))
set_option maxRecDepth 100000 in
set_option maxHeartbeats 4000000 in
theorem c_M_shape (l : Launch) (dC : Nat → ClassId) (dI : Nat → Nat → Nat) (cI : ClassId) (a_p0 : Nat) (A_p0 : Nat → Nat) (I_p0 : Nat → Int32) {post : Int32 → Prop} (hw : wp_M_shape post I_p0) : gm_i l y_M_shape ws_M_shape ({ frames := 0, cells := 0, slots := 0, locals := 0 } : Room) (dC, dI) vwCl [(cI, .int)] [.ref a_p0] [oM a_p0 A_p0 I_p0] (fun (_ : Unit) => [oM a_p0 A_p0 I_p0]) (fun (r : Int32) (_ : Unit) => post r) := by
  refine gm_iof (cc := b_M_shape) (maxL := 1) (ty := .int) (by decide) rfl (Nat.le_of_ble_eq_true rfl) ?_
  intro p e s m args below meth c A Q hx hb hml hown hg hK hN hA hret
  have hown : s.vm.findClass R_M = some m.cls := hown
  intro ls hl hP hD hS
  have hl : lv_has ls 1 [(0, .ref a_p0)] := hl
  unfold wp_M_shape at hw
  refine lv_ldc (v := 1000000) hx hb hown (hg _ t_870) d_M_shape_0 ?_
  refine lv_aload_n hx hb d_M_shape_2 rfl (lv_at hl 0 rfl) ?_
  refine va_get (D := (dC, dI)) (ci := 10) (v := .int (I_p0 5)) (C := R_M) (T := T_M) (N := 30) hx hb hg in_M hown hK hP 0 rfl rfl 5 (by decide) (hg _ t_763) (fun _ h9 => h9) rfl d_M_shape_3 ?_
  refine lv_imul hx hb d_M_shape_6 ?_
  refine lv_sipush (v := 1000) hx hb d_M_shape_7 (by decide) ?_
  refine lv_aload_n hx hb d_M_shape_10 rfl (lv_at hl 0 rfl) ?_
  refine va_get (D := (dC, dI)) (ci := 10) (v := .int (I_p0 3)) (C := R_M) (T := T_M) (N := 30) hx hb hg in_M hown hK hP 0 rfl rfl 3 (by decide) (hg _ t_761) (fun _ h9 => h9) rfl d_M_shape_11 ?_
  refine lv_imul hx hb d_M_shape_14 ?_
  refine lv_iadd hx hb d_M_shape_15 ?_
  refine lv_aload_n hx hb d_M_shape_16 rfl (lv_at hl 0 rfl) ?_
  refine va_get (D := (dC, dI)) (ci := 10) (v := .int (I_p0 4)) (C := R_M) (T := T_M) (N := 30) hx hb hg in_M hown hK hP 0 rfl rfl 4 (by decide) (hg _ t_762) (fun _ h9 => h9) rfl d_M_shape_17 ?_
  refine lv_iadd hx hb d_M_shape_20 ?_
  exact hret _ _ _ _ _ () d_M_shape_21 rfl hP hD hS hw
theorem d_M_sound_0 : decode b_M_sound 0 = .ok (.aload_n 0, 1) := by decide +kernel
theorem d_M_sound_1 : decode b_M_sound 1 = .ok (.invokevirtual 102, 3) := by decide +kernel
theorem d_M_sound_4 : decode b_M_sound 4 = .ok (.aload_n 0, 1) := by decide +kernel
theorem d_M_sound_5 : decode b_M_sound 5 = .ok (.getfield 89, 3) := by decide +kernel
theorem d_M_sound_8 : decode b_M_sound 8 = .ok (.ireturn, 1) := by decide +kernel
def wp_M_sound (post : Int32 → (Nat → Int32) → (Nat → Int32) → Prop) (f_p0_file : Nat → Int32) (I_p0 : Nat → Int32) (f_p0_dirs : Nat → Int32) : Prop :=
  wp_M_walk (fun (I_p0_1 : Nat → Int32) (f_p0_dirs_1 : Nat → Int32) =>
    ((I_p0_1 12) = 0 ∨ (I_p0_1 12) = 1) ∧
    post (I_p0_1 12) I_p0_1 f_p0_dirs_1) f_p0_file I_p0 f_p0_dirs
set_option maxRecDepth 100000 in
set_option maxHeartbeats 4000000 in
theorem c_M_sound (l : Launch) (dC : Nat → ClassId) (dI : Nat → Nat → Nat) (cI : ClassId) (a_p0 : Nat) (A_p0 : Nat → Nat) (f_p0_file : Nat → Int32) (I_p0 : Nat → Int32) (f_p0_dirs : Nat → Int32) {post : Int32 → (Nat → Int32) → (Nat → Int32) → Prop} (hw : wp_M_sound post f_p0_file I_p0 f_p0_dirs) : gm_i l y_M_sound ws_M_sound ({ frames := 3, cells := 0, slots := 0, locals := 74 } : Room) (dC, dI) vwCl [(cI, .int)] [.ref a_p0] [oM a_p0 A_p0 I_p0, gz cI (A_p0 13) 8 f_p0_dirs, gz cI (A_p0 0) 2000 f_p0_file] (fun (u : (Nat → Int32) × (Nat → Int32)) => [oM a_p0 A_p0 u.1, gz cI (A_p0 13) 8 u.2, gz cI (A_p0 0) 2000 f_p0_file]) (fun (r : Int32) (u : (Nat → Int32) × (Nat → Int32)) => post r u.1 u.2) := by
  refine gm_iof (cc := b_M_sound) (maxL := 1) (ty := .boolean) (by decide) rfl (Nat.le_of_ble_eq_true rfl) ?_
  intro p e s m args below meth c A Q hx hb hml hown hg hK hN hA hret
  have hown : s.vm.findClass R_M = some m.cls := hown
  intro ls hl hP hD hS
  have hl : lv_has ls 1 [(0, .ref a_p0)] := hl
  unfold wp_M_sound at hw
  refine lv_aload_n hx hb d_M_sound_0 rfl (lv_at hl 0 rfl) ?_
  refine gc_v (wn := fun u => [oM a_p0 A_p0 u.1, gz cI (A_p0 13) 8 u.2, gz cI (A_p0 0) 2000 f_p0_file]) (wr := []) (gr_V (As := []) (rest := []) ⟨hx, hb, hml, hown, hg⟩ (c_M_walk l dC dI cI a_p0 A_p0 f_p0_file I_p0 f_p0_dirs hw _) (cwV 0 hg (gg_V t_897 t_899 t_27 t_71 t_900) rfl rfl rfl (by decide +kernel) ⟨Nat.le_of_ble_eq_true rfl, Nat.le_of_ble_eq_true rfl⟩) hK hN hP hD [0, 1, 2] (by decide) rfl 0 10 rfl rfl rfl rfl hl.1 rfl (Nat.le_of_ble_eq_true rfl) d_M_sound_1 ⟨Nat.le_of_ble_eq_true rfl, Nat.le_of_ble_eq_true rfl⟩) rfl rfl hP hD hS hA [0, 1, 2] [] [0, 1, 2] rfl rfl (by decide) (by decide) (by decide) (fun _ => rfl) ?_
  intro u9 H locs hw hP hD hS
  obtain ⟨I_p0_1, f_p0_dirs_1⟩ := u9
  try dsimp only at hw
  have hP : va_P (dC, dI) vwCl [oM a_p0 A_p0 I_p0_1, gz cI (A_p0 13) 8 f_p0_dirs_1, gz cI (A_p0 0) 2000 f_p0_file] H := hP
  have hD : va_D A [oM a_p0 A_p0 I_p0_1, gz cI (A_p0 13) 8 f_p0_dirs_1, gz cI (A_p0 0) 2000 f_p0_file] := hD
  refine lv_aload_n hx hb d_M_sound_4 rfl (lv_at hl 0 rfl) ?_
  refine va_get (D := (dC, dI)) (ci := 10) (v := .int (I_p0_1 12)) (C := R_M) (T := T_M) (N := 30) hx hb hg in_M hown hK hP 0 rfl rfl 12 (by decide) (hg _ t_770) (fun _ h9 => h9) rfl d_M_sound_5 ?_
  obtain ⟨hz, hw⟩ := hw
  exact hret _ _ _ _ _ (I_p0_1, f_p0_dirs_1) d_M_sound_8 (gz_nar hz) hP hD hS hw
theorem d_M_unlabel_0 : decode b_M_unlabel 0 = .ok (.aload_n 0, 1) := by decide +kernel
theorem d_M_unlabel_1 : decode b_M_unlabel 1 = .ok (.getfield 69, 3) := by decide +kernel
theorem d_M_unlabel_4 : decode b_M_unlabel 4 = .ok (.istore_n 1, 1) := by decide +kernel
theorem d_M_unlabel_5 : decode b_M_unlabel 5 = .ok (.aload_n 0, 1) := by decide +kernel
theorem d_M_unlabel_6 : decode b_M_unlabel 6 = .ok (.iconst 0, 1) := by decide +kernel
theorem d_M_unlabel_7 : decode b_M_unlabel 7 = .ok (.putfield 69, 3) := by decide +kernel
theorem d_M_unlabel_10 : decode b_M_unlabel 10 = .ok (.iload_n 1, 1) := by decide +kernel
theorem d_M_unlabel_11 : decode b_M_unlabel 11 = .ok (.ireturn, 1) := by decide +kernel
def wp_M_unlabel (post : Int32 → (Nat → Int32) → Prop) (I_p0 : Nat → Int32) : Prop :=
  post (I_p0 7) (upd I_p0 7 0)
set_option maxRecDepth 100000 in
set_option maxHeartbeats 4000000 in
theorem c_M_unlabel (l : Launch) (dC : Nat → ClassId) (dI : Nat → Nat → Nat) (cI : ClassId) (a_p0 : Nat) (A_p0 : Nat → Nat) (I_p0 : Nat → Int32) {post : Int32 → (Nat → Int32) → Prop} (hw : wp_M_unlabel post I_p0) : gm_i l y_M_unlabel ws_M_unlabel ({ frames := 0, cells := 0, slots := 0, locals := 0 } : Room) (dC, dI) vwCl [(cI, .int)] [.ref a_p0] [oM a_p0 A_p0 I_p0] (fun (u : (Nat → Int32)) => [oM a_p0 A_p0 u]) (fun (r : Int32) (u : (Nat → Int32)) => post r u) := by
  refine gm_iof (cc := b_M_unlabel) (maxL := 2) (ty := .int) (by decide) rfl (Nat.le_of_ble_eq_true rfl) ?_
  intro p e s m args below meth c A Q hx hb hml hown hg hK hN hA hret
  have hown : s.vm.findClass R_M = some m.cls := hown
  intro ls hl hP hD hS
  have hl : lv_has ls 2 [(0, .ref a_p0)] := hl
  unfold wp_M_unlabel at hw
  refine lv_aload_n hx hb d_M_unlabel_0 rfl (lv_at hl 0 rfl) ?_
  refine va_get (D := (dC, dI)) (ci := 10) (v := .int (I_p0 7)) (C := R_M) (T := T_M) (N := 30) hx hb hg in_M hown hK hP 0 rfl rfl 7 (by decide) (hg _ t_765) (fun _ h9 => h9) rfl d_M_unlabel_1 ?_
  refine lv_istore_n (lv' := [(1, .int (I_p0 7)), (0, .ref a_p0)]) hx hb d_M_unlabel_4 rfl hl (by decide) rfl (fun ls hl => ?_)
  refine lv_aload_n hx hb d_M_unlabel_5 rfl (lv_at hl 1 rfl) ?_
  refine lv_iconst (v := 0) hx hb d_M_unlabel_6 (by decide) ?_
  refine va_put (D := (dC, dI)) (ci := 10) (v := .int 0) (ty := .int) (C := R_M) (T := T_M) (N := 30) hx hb hg in_M t_M tok_M nok_M hown hK hP hD hS 0 rfl rfl 7 (by decide) (hg _ t_765) (fun _ h9 => h9) rfl (by decide +kernel) rfl rfl (Nat.le_of_ble_eq_true rfl) d_M_unlabel_7 (fun H locs hP hD hS => ?_)
  have hP : va_P (dC, dI) vwCl [oM a_p0 A_p0 (upd I_p0 7 0)] H := hP
  have hD : va_D A [oM a_p0 A_p0 (upd I_p0 7 0)] := hD
  refine lv_iload_n hx hb d_M_unlabel_10 rfl (lv_at hl 0 rfl) ?_
  exact hret _ _ _ _ _ (upd I_p0 7 0) d_M_unlabel_11 rfl hP hD hS hw
