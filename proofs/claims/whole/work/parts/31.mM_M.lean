theorem d_M_packets_0 : decode b_M_packets 0 = .ok (.iload_n 1, 1) := by decide +kernel
theorem d_M_packets_1 : decode b_M_packets 1 = .ok (.istore_n 3, 1) := by decide +kernel
theorem d_M_packets_2 : decode b_M_packets 2 = .ok (.iload_n 3, 1) := by decide +kernel
theorem d_M_packets_3 : decode b_M_packets 3 = .ok (.iload_n 2, 1) := by decide +kernel
theorem d_M_packets_4 : decode b_M_packets 4 = .ok (.if_icmp .ge 108, 3) := by decide +kernel
theorem d_M_packets_7 : decode b_M_packets 7 = .ok (.aload_n 0, 1) := by decide +kernel
theorem d_M_packets_8 : decode b_M_packets 8 = .ok (.iload_n 3, 1) := by decide +kernel
theorem d_M_packets_9 : decode b_M_packets 9 = .ok (.iload_n 2, 1) := by decide +kernel
theorem d_M_packets_10 : decode b_M_packets 10 = .ok (.invokevirtual 135, 3) := by decide +kernel
theorem d_M_packets_13 : decode b_M_packets 13 = .ok (.istore 4, 2) := by decide +kernel
theorem d_M_packets_15 : decode b_M_packets 15 = .ok (.iload 4, 2) := by decide +kernel
theorem d_M_packets_17 : decode b_M_packets 17 = .ok (.iconst 3, 1) := by decide +kernel
theorem d_M_packets_18 : decode b_M_packets 18 = .ok (.if_icmp .lt 31, 3) := by decide +kernel
theorem d_M_packets_21 : decode b_M_packets 21 = .ok (.aload_n 0, 1) := by decide +kernel
theorem d_M_packets_22 : decode b_M_packets 22 = .ok (.sipush 257, 3) := by decide +kernel
theorem d_M_packets_25 : decode b_M_packets 25 = .ok (.iload 4, 2) := by decide +kernel
theorem d_M_packets_27 : decode b_M_packets 27 = .ok (.isub, 1) := by decide +kernel
theorem d_M_packets_28 : decode b_M_packets 28 = .ok (.invokevirtual 128, 3) := by decide +kernel
theorem d_M_packets_31 : decode b_M_packets 31 = .ok (.aload_n 0, 1) := by decide +kernel
theorem d_M_packets_32 : decode b_M_packets 32 = .ok (.aload_n 0, 1) := by decide +kernel
theorem d_M_packets_33 : decode b_M_packets 33 = .ok (.getfield 38, 3) := by decide +kernel
theorem d_M_packets_36 : decode b_M_packets 36 = .ok (.iload_n 3, 1) := by decide +kernel
theorem d_M_packets_37 : decode b_M_packets 37 = .ok (.iaload, 1) := by decide +kernel
theorem d_M_packets_38 : decode b_M_packets 38 = .ok (.invokevirtual 128, 3) := by decide +kernel
theorem d_M_packets_41 : decode b_M_packets 41 = .ok (.iload_n 3, 1) := by decide +kernel
theorem d_M_packets_42 : decode b_M_packets 42 = .ok (.iload 4, 2) := by decide +kernel
theorem d_M_packets_44 : decode b_M_packets 44 = .ok (.iadd, 1) := by decide +kernel
theorem d_M_packets_45 : decode b_M_packets 45 = .ok (.istore_n 3, 1) := by decide +kernel
theorem d_M_packets_46 : decode b_M_packets 46 = .ok (.goto 63, 3) := by decide +kernel
theorem d_M_packets_49 : decode b_M_packets 49 = .ok (.iload_n 3, 1) := by decide +kernel
theorem d_M_packets_50 : decode b_M_packets 50 = .ok (.iconst 1, 1) := by decide +kernel
theorem d_M_packets_51 : decode b_M_packets 51 = .ok (.iadd, 1) := by decide +kernel
theorem d_M_packets_52 : decode b_M_packets 52 = .ok (.istore 5, 2) := by decide +kernel
theorem d_M_packets_54 : decode b_M_packets 54 = .ok (.iload 5, 2) := by decide +kernel
theorem d_M_packets_56 : decode b_M_packets 56 = .ok (.iload_n 2, 1) := by decide +kernel
theorem d_M_packets_57 : decode b_M_packets 57 = .ok (.if_icmp .ge 20, 3) := by decide +kernel
theorem d_M_packets_60 : decode b_M_packets 60 = .ok (.aload_n 0, 1) := by decide +kernel
theorem d_M_packets_61 : decode b_M_packets 61 = .ok (.iload 5, 2) := by decide +kernel
theorem d_M_packets_63 : decode b_M_packets 63 = .ok (.iload_n 2, 1) := by decide +kernel
theorem d_M_packets_64 : decode b_M_packets 64 = .ok (.invokevirtual 135, 3) := by decide +kernel
theorem d_M_packets_67 : decode b_M_packets 67 = .ok (.iconst 3, 1) := by decide +kernel
theorem d_M_packets_68 : decode b_M_packets 68 = .ok (.if_icmp .ge 9, 3) := by decide +kernel
theorem d_M_packets_71 : decode b_M_packets 71 = .ok (.iinc 5 1, 3) := by decide +kernel
theorem d_M_packets_74 : decode b_M_packets 74 = .ok (.goto (-20), 3) := by decide +kernel
theorem d_M_packets_77 : decode b_M_packets 77 = .ok (.aload_n 0, 1) := by decide +kernel
theorem d_M_packets_78 : decode b_M_packets 78 = .ok (.iload 5, 2) := by decide +kernel
theorem d_M_packets_80 : decode b_M_packets 80 = .ok (.iload_n 3, 1) := by decide +kernel
theorem d_M_packets_81 : decode b_M_packets 81 = .ok (.isub, 1) := by decide +kernel
theorem d_M_packets_82 : decode b_M_packets 82 = .ok (.iconst 1, 1) := by decide +kernel
theorem d_M_packets_83 : decode b_M_packets 83 = .ok (.isub, 1) := by decide +kernel
theorem d_M_packets_84 : decode b_M_packets 84 = .ok (.invokevirtual 128, 3) := by decide +kernel
theorem d_M_packets_87 : decode b_M_packets 87 = .ok (.iload_n 3, 1) := by decide +kernel
theorem d_M_packets_88 : decode b_M_packets 88 = .ok (.iload 5, 2) := by decide +kernel
theorem d_M_packets_90 : decode b_M_packets 90 = .ok (.if_icmp .ge 19, 3) := by decide +kernel
theorem d_M_packets_93 : decode b_M_packets 93 = .ok (.aload_n 0, 1) := by decide +kernel
theorem d_M_packets_94 : decode b_M_packets 94 = .ok (.aload_n 0, 1) := by decide +kernel
theorem d_M_packets_95 : decode b_M_packets 95 = .ok (.getfield 38, 3) := by decide +kernel
theorem d_M_packets_98 : decode b_M_packets 98 = .ok (.iload_n 3, 1) := by decide +kernel
theorem d_M_packets_99 : decode b_M_packets 99 = .ok (.iaload, 1) := by decide +kernel
theorem d_M_packets_100 : decode b_M_packets 100 = .ok (.invokevirtual 128, 3) := by decide +kernel
theorem d_M_packets_103 : decode b_M_packets 103 = .ok (.iinc 3 1, 3) := by decide +kernel
theorem d_M_packets_106 : decode b_M_packets 106 = .ok (.goto (-19), 3) := by decide +kernel
theorem d_M_packets_109 : decode b_M_packets 109 = .ok (.goto (-107), 3) := by decide +kernel
theorem d_M_packets_112 : decode b_M_packets 112 = .ok (.return_, 1) := by decide +kernel
def wp_M_packets_b109 (post : (Nat → Int32) → (Nat → Int32) → Prop) (k2 : (Nat → Int32) → (Nat → Int32) → Int32 → Int32 → Prop) (f_p0_data : Nat → Int32) (I_p0 : Nat → Int32) (f_p0_file : Nat → Int32) (x2 : Int32) (x3 : Int32) : Prop :=
  k2 I_p0 f_p0_file x2 x3
def wp_M_packets_l87 (post : (Nat → Int32) → (Nat → Int32) → Prop) (k2 : (Nat → Int32) → (Nat → Int32) → Int32 → Int32 → Prop) (f_p0_data : Nat → Int32) : Nat → (Nat → Int32) → (Nat → Int32) → Int32 → Int32 → Int32 → Prop
  | 0, _, _, _, _, _ => False
  | n + 1, I_p0, f_p0_file, x2, x3, x5 =>
    ((x5 ≤ x3 →
      wp_M_packets_b109 post k2 f_p0_data I_p0 f_p0_file x2 x3) ∧
     (¬ x5 ≤ x3 →
      vp_in x3 256 ∧
      wp_M_put (fun (I_p0_100 : Nat → Int32) (f_p0_file_100 : Nat → Int32) =>
        wp_M_packets_l87 post k2 f_p0_data n I_p0_100 f_p0_file_100 x2 (x3 + 1) x5) I_p0 f_p0_file (f_p0_data (x3).toNatClampNeg)))
def wp_M_packets_b77 (post : (Nat → Int32) → (Nat → Int32) → Prop) (k2 : (Nat → Int32) → (Nat → Int32) → Int32 → Int32 → Prop) (f_p0_data : Nat → Int32) (I_p0 : Nat → Int32) (f_p0_file : Nat → Int32) (x2 : Int32) (x3 : Int32) (x5 : Int32) : Prop :=
  wp_M_put (fun (I_p0_84 : Nat → Int32) (f_p0_file_84 : Nat → Int32) =>
    (∃ n1 : Nat, wp_M_packets_l87 post k2 f_p0_data n1 I_p0_84 f_p0_file_84 x2 x3 x5)) I_p0 f_p0_file ((x5 - x3) - 1)
def wp_M_packets_l54 (post : (Nat → Int32) → (Nat → Int32) → Prop) (k2 : (Nat → Int32) → (Nat → Int32) → Int32 → Int32 → Prop) (f_p0_data : Nat → Int32) : Nat → (Nat → Int32) → (Nat → Int32) → Int32 → Int32 → Int32 → Prop
  | 0, _, _, _, _, _ => False
  | n + 1, I_p0, f_p0_file, x2, x3, x5 =>
    ((x2 ≤ x5 →
      wp_M_packets_b77 post k2 f_p0_data I_p0 f_p0_file x2 x3 x5) ∧
     (¬ x2 ≤ x5 →
      wp_M_run (fun (r64 : Int32) =>
        ((3 ≤ r64 →
          wp_M_packets_b77 post k2 f_p0_data I_p0 f_p0_file x2 x3 x5) ∧
         (¬ 3 ≤ r64 →
          wp_M_packets_l54 post k2 f_p0_data n I_p0 f_p0_file x2 x3 (x5 + 1)))) I_p0 f_p0_data x5 x2))
def wp_M_packets_l2 (post : (Nat → Int32) → (Nat → Int32) → Prop) (f_p0_data : Nat → Int32) : Nat → (Nat → Int32) → (Nat → Int32) → Int32 → Int32 → Prop
  | 0, _, _, _, _ => False
  | n + 1, I_p0, f_p0_file, x2, x3 =>
    ((x2 ≤ x3 →
      post I_p0 f_p0_file) ∧
     (¬ x2 ≤ x3 →
      wp_M_run (fun (r10 : Int32) =>
        ((r10 < 3 →
          (∃ n1 : Nat, wp_M_packets_l54 post (wp_M_packets_l2 post f_p0_data n) f_p0_data n1 I_p0 f_p0_file x2 x3 (x3 + 1))) ∧
         (¬ r10 < 3 →
          wp_M_put (fun (I_p0_28 : Nat → Int32) (f_p0_file_28 : Nat → Int32) =>
            vp_in x3 256 ∧
            wp_M_put (fun (I_p0_38 : Nat → Int32) (f_p0_file_38 : Nat → Int32) =>
              wp_M_packets_b109 post (wp_M_packets_l2 post f_p0_data n) f_p0_data I_p0_38 f_p0_file_38 x2 (x3 + r10)) I_p0_28 f_p0_file_28 (f_p0_data (x3).toNatClampNeg)) I_p0 f_p0_file (257 - r10)))) I_p0 f_p0_data x3 x2))
def wp_M_packets (post : (Nat → Int32) → (Nat → Int32) → Prop) (f_p0_data : Nat → Int32) (I_p0 : Nat → Int32) (f_p0_file : Nat → Int32) (x1 : Int32) (x2 : Int32) : Prop :=
  (∃ n1 : Nat, wp_M_packets_l2 post f_p0_data n1 I_p0 f_p0_file x2 x1)
set_option maxRecDepth 100000 in
set_option maxHeartbeats 4000000 in
theorem c_M_packets (l : Launch) (dC : Nat → ClassId) (dI : Nat → Nat → Nat) (cI : ClassId) (a_p0 : Nat) (A_p0 : Nat → Nat) (f_p0_data : Nat → Int32) (I_p0 : Nat → Int32) (f_p0_file : Nat → Int32) (x1 : Int32) (x2 : Int32) {post : (Nat → Int32) → (Nat → Int32) → Prop} (hw : wp_M_packets post f_p0_data I_p0 f_p0_file x1 x2) : gm_v l y_M_packets ws_M_packets ({ frames := 1, cells := 0, slots := 0, locals := 23 } : Room) (dC, dI) vwCl [(cI, .int)] [.ref a_p0, .int x1, .int x2] [oM a_p0 A_p0 I_p0, gz cI (A_p0 15) 256 f_p0_data, gz cI (A_p0 0) 2000 f_p0_file] (fun (u : (Nat → Int32) × (Nat → Int32)) => [oM a_p0 A_p0 u.1, gz cI (A_p0 15) 256 f_p0_data, gz cI (A_p0 0) 2000 u.2]) (fun (u : (Nat → Int32) × (Nat → Int32)) => post  u.1 u.2) := by
  refine gm_vof (cc := b_M_packets) (maxL := 6) (by decide) rfl (Nat.le_of_ble_eq_true rfl) ?_
  intro p e s m args below meth c A Q hx hb hml hown hg hK hN hA hnm hret
  have hown : s.vm.findClass R_M = some m.cls := hown
  have b109 : ∀ (k2 : (Nat → Int32) → (Nat → Int32) → Int32 → Int32 → Prop), (∀ (H : Heap) (locs : List Loc) (ls : Array Slot) (I_p0 : Nat → Int32) (f_p0_file : Nat → Int32) (x2 : Int32) (x3 : Int32), va_P (dC, dI) vwCl [oM a_p0 A_p0 I_p0, gz cI (A_p0 15) 256 f_p0_data, gz cI (A_p0 0) 2000 f_p0_file] H → va_D A [oM a_p0 A_p0 I_p0, gz cI (A_p0 15) 256 f_p0_data, gz cI (A_p0 0) 2000 f_p0_file] → va_S A s.heap H locs → lv_has ls 6 [(0, .ref a_p0), (2, .int x2), (3, .int x3)] → k2 I_p0 f_p0_file x2 x3 → W p l e ({ frames := 1, cells := 0, slots := 0, locals := 23 } : Room) s m args below meth c H locs 0 0 Q (F0 m 2 ls [])) → ∀ (H : Heap) (locs : List Loc) (ls : Array Slot) (I_p0 : Nat → Int32) (f_p0_file : Nat → Int32) (x2 : Int32) (x3 : Int32), va_P (dC, dI) vwCl [oM a_p0 A_p0 I_p0, gz cI (A_p0 15) 256 f_p0_data, gz cI (A_p0 0) 2000 f_p0_file] H → va_D A [oM a_p0 A_p0 I_p0, gz cI (A_p0 15) 256 f_p0_data, gz cI (A_p0 0) 2000 f_p0_file] → va_S A s.heap H locs → lv_has ls 6 [(0, .ref a_p0), (2, .int x2), (3, .int x3)] → wp_M_packets_b109 post k2 f_p0_data I_p0 f_p0_file x2 x3 → W p l e ({ frames := 1, cells := 0, slots := 0, locals := 23 } : Room) s m args below meth c H locs 0 0 Q (F0 m 109 ls []) := by
    intro k2 hk2 H locs ls I_p0 f_p0_file x2 x3 hP hD hS hl hw
    unfold wp_M_packets_b109 at hw
    refine lv_goto hx hb d_M_packets_109 rfl ?_
    exact hk2 _ _ _ I_p0 f_p0_file x2 x3 hP hD hS (lv_sub hl [0, 1, 2] rfl) hw
  have l87 : ∀ (k2 : (Nat → Int32) → (Nat → Int32) → Int32 → Int32 → Prop), (∀ (H : Heap) (locs : List Loc) (ls : Array Slot) (I_p0 : Nat → Int32) (f_p0_file : Nat → Int32) (x2 : Int32) (x3 : Int32), va_P (dC, dI) vwCl [oM a_p0 A_p0 I_p0, gz cI (A_p0 15) 256 f_p0_data, gz cI (A_p0 0) 2000 f_p0_file] H → va_D A [oM a_p0 A_p0 I_p0, gz cI (A_p0 15) 256 f_p0_data, gz cI (A_p0 0) 2000 f_p0_file] → va_S A s.heap H locs → lv_has ls 6 [(0, .ref a_p0), (2, .int x2), (3, .int x3)] → k2 I_p0 f_p0_file x2 x3 → W p l e ({ frames := 1, cells := 0, slots := 0, locals := 23 } : Room) s m args below meth c H locs 0 0 Q (F0 m 2 ls [])) → ∀ n : Nat, ∀ (H : Heap) (locs : List Loc) (ls : Array Slot) (I_p0 : Nat → Int32) (f_p0_file : Nat → Int32) (x2 : Int32) (x3 : Int32) (x5 : Int32), va_P (dC, dI) vwCl [oM a_p0 A_p0 I_p0, gz cI (A_p0 15) 256 f_p0_data, gz cI (A_p0 0) 2000 f_p0_file] H → va_D A [oM a_p0 A_p0 I_p0, gz cI (A_p0 15) 256 f_p0_data, gz cI (A_p0 0) 2000 f_p0_file] → va_S A s.heap H locs → lv_has ls 6 [(0, .ref a_p0), (2, .int x2), (3, .int x3), (5, .int x5)] → wp_M_packets_l87 post k2 f_p0_data n I_p0 f_p0_file x2 x3 x5 → W p l e ({ frames := 1, cells := 0, slots := 0, locals := 23 } : Room) s m args below meth c H locs 0 0 Q (F0 m 87 ls []) := by
    intro k2 hk2 n
    induction n with
    | zero => intro H locs ls I_p0 f_p0_file x2 x3 x5 hP hD hS hl hw; exact hw.elim
    | succ n ih =>
      intro H locs ls I_p0 f_p0_file x2 x3 x5 hP hD hS hl hw
      unfold wp_M_packets_l87 at hw
      refine lv_iload_n hx hb d_M_packets_87 rfl (lv_at hl 2 rfl) ?_
      refine lv_iload hx hb d_M_packets_88 (lv_at hl 3 rfl) ?_
      refine lv_icmp_ge hx hb d_M_packets_90 rfl (fun hc => ?_) (fun hc => ?_)
      · have hw := hw.1 hc
        exact b109 _ hk2 _ _ _ I_p0 f_p0_file x2 x3 hP hD hS (lv_sub hl [0, 1, 2] rfl) hw
      · have hw := hw.2 hc
        refine lv_aload_n hx hb d_M_packets_93 rfl (lv_at hl 0 rfl) ?_
        refine lv_aload_n hx hb d_M_packets_94 rfl (lv_at hl 0 rfl) ?_
        refine va_get (D := (dC, dI)) (ci := 10) (v := .ref (A_p0 15)) (C := R_M) (T := T_M) (N := 30) hx hb hg in_M hown hK hP 0 rfl rfl 15 (by decide) (hg _ t_773) (fun _ h9 => h9) rfl d_M_packets_95 ?_
        refine lv_iload_n hx hb d_M_packets_98 rfl (lv_at hl 2 rfl) ?_
        obtain ⟨hin, hw⟩ := hw
        refine va_iald hx hb hK hP 1 0 rfl rfl hin d_M_packets_99 ?_
        refine gc_v (wn := fun u => [oM a_p0 A_p0 u.1, gz cI (A_p0 15) 256 f_p0_data, gz cI (A_p0 0) 2000 u.2]) (wr := [gz cI (A_p0 15) 256 f_p0_data]) (gr_V (As := [.int (f_p0_data (x3).toNatClampNeg)]) (rest := []) ⟨hx, hb, hml, hown, hg⟩ (c_M_put l dC dI cI a_p0 A_p0 I_p0 f_p0_file (f_p0_data (x3).toNatClampNeg) hw _) (cwV 1 hg (gg_V t_954 t_956 t_35 t_71 t_957) rfl rfl rfl (by decide +kernel) ⟨Nat.le_of_ble_eq_true rfl, Nat.le_of_ble_eq_true rfl⟩) hK hN hP hD [0, 2] (by decide) rfl 0 10 rfl rfl rfl rfl hl.1 rfl (Nat.le_of_ble_eq_true rfl) d_M_packets_100 ⟨Nat.le_of_ble_eq_true rfl, Nat.le_of_ble_eq_true rfl⟩) rfl rfl hP hD hS hA [0, 2] [1] [1, 0, 2] rfl rfl (by decide) (by decide) (by decide) (fun _ => rfl) ?_
        intro u9 H locs hw hP hD hS
        obtain ⟨I_p0_100, f_p0_file_100⟩ := u9
        try dsimp only at hw
        have hP : va_P (dC, dI) vwCl [oM a_p0 A_p0 I_p0_100, gz cI (A_p0 15) 256 f_p0_data, gz cI (A_p0 0) 2000 f_p0_file_100] H := hP
        have hD : va_D A [oM a_p0 A_p0 I_p0_100, gz cI (A_p0 15) 256 f_p0_data, gz cI (A_p0 0) 2000 f_p0_file_100] := hD
        refine lv_iinc (k := 2) (v := (x3 + 1)) (lv' := [(3, .int (x3 + 1)), (0, .ref a_p0), (2, .int x2), (5, .int x5)]) hx hb d_M_packets_103 hl rfl (congrArg (fun z => x3 + z) (by decide : Int32.ofInt 1 = 1)) (by decide) rfl (fun ls hl => ?_)
        refine lv_goto hx hb d_M_packets_106 rfl ?_
        exact ih _ _ _ I_p0_100 f_p0_file_100 x2 (x3 + 1) x5 hP hD hS (lv_sub hl [1, 2, 0, 3] rfl) hw
  have b77 : ∀ (k2 : (Nat → Int32) → (Nat → Int32) → Int32 → Int32 → Prop), (∀ (H : Heap) (locs : List Loc) (ls : Array Slot) (I_p0 : Nat → Int32) (f_p0_file : Nat → Int32) (x2 : Int32) (x3 : Int32), va_P (dC, dI) vwCl [oM a_p0 A_p0 I_p0, gz cI (A_p0 15) 256 f_p0_data, gz cI (A_p0 0) 2000 f_p0_file] H → va_D A [oM a_p0 A_p0 I_p0, gz cI (A_p0 15) 256 f_p0_data, gz cI (A_p0 0) 2000 f_p0_file] → va_S A s.heap H locs → lv_has ls 6 [(0, .ref a_p0), (2, .int x2), (3, .int x3)] → k2 I_p0 f_p0_file x2 x3 → W p l e ({ frames := 1, cells := 0, slots := 0, locals := 23 } : Room) s m args below meth c H locs 0 0 Q (F0 m 2 ls [])) → ∀ (H : Heap) (locs : List Loc) (ls : Array Slot) (I_p0 : Nat → Int32) (f_p0_file : Nat → Int32) (x2 : Int32) (x3 : Int32) (x5 : Int32), va_P (dC, dI) vwCl [oM a_p0 A_p0 I_p0, gz cI (A_p0 15) 256 f_p0_data, gz cI (A_p0 0) 2000 f_p0_file] H → va_D A [oM a_p0 A_p0 I_p0, gz cI (A_p0 15) 256 f_p0_data, gz cI (A_p0 0) 2000 f_p0_file] → va_S A s.heap H locs → lv_has ls 6 [(0, .ref a_p0), (2, .int x2), (3, .int x3), (5, .int x5)] → wp_M_packets_b77 post k2 f_p0_data I_p0 f_p0_file x2 x3 x5 → W p l e ({ frames := 1, cells := 0, slots := 0, locals := 23 } : Room) s m args below meth c H locs 0 0 Q (F0 m 77 ls []) := by
    intro k2 hk2 H locs ls I_p0 f_p0_file x2 x3 x5 hP hD hS hl hw
    unfold wp_M_packets_b77 at hw
    refine lv_aload_n hx hb d_M_packets_77 rfl (lv_at hl 0 rfl) ?_
    refine lv_iload hx hb d_M_packets_78 (lv_at hl 3 rfl) ?_
    refine lv_iload_n hx hb d_M_packets_80 rfl (lv_at hl 2 rfl) ?_
    refine lv_isub hx hb d_M_packets_81 ?_
    refine lv_iconst (v := 1) hx hb d_M_packets_82 (by decide) ?_
    refine lv_isub hx hb d_M_packets_83 ?_
    refine gc_v (wn := fun u => [oM a_p0 A_p0 u.1, gz cI (A_p0 15) 256 f_p0_data, gz cI (A_p0 0) 2000 u.2]) (wr := [gz cI (A_p0 15) 256 f_p0_data]) (gr_V (As := [.int ((x5 - x3) - 1)]) (rest := []) ⟨hx, hb, hml, hown, hg⟩ (c_M_put l dC dI cI a_p0 A_p0 I_p0 f_p0_file ((x5 - x3) - 1) hw _) (cwV 1 hg (gg_V t_954 t_956 t_35 t_71 t_957) rfl rfl rfl (by decide +kernel) ⟨Nat.le_of_ble_eq_true rfl, Nat.le_of_ble_eq_true rfl⟩) hK hN hP hD [0, 2] (by decide) rfl 0 10 rfl rfl rfl rfl hl.1 rfl (Nat.le_of_ble_eq_true rfl) d_M_packets_84 ⟨Nat.le_of_ble_eq_true rfl, Nat.le_of_ble_eq_true rfl⟩) rfl rfl hP hD hS hA [0, 2] [1] [1, 0, 2] rfl rfl (by decide) (by decide) (by decide) (fun _ => rfl) ?_
    intro u9 H locs hw hP hD hS
    obtain ⟨I_p0_84, f_p0_file_84⟩ := u9
    try dsimp only at hw
    have hP : va_P (dC, dI) vwCl [oM a_p0 A_p0 I_p0_84, gz cI (A_p0 15) 256 f_p0_data, gz cI (A_p0 0) 2000 f_p0_file_84] H := hP
    have hD : va_D A [oM a_p0 A_p0 I_p0_84, gz cI (A_p0 15) 256 f_p0_data, gz cI (A_p0 0) 2000 f_p0_file_84] := hD
    obtain ⟨n1, hw⟩ := hw
    exact l87 _ hk2 n1 _ _ _ I_p0_84 f_p0_file_84 x2 x3 x5 hP hD hS (lv_sub hl [0, 1, 2, 3] rfl) hw
  have l54 : ∀ (k2 : (Nat → Int32) → (Nat → Int32) → Int32 → Int32 → Prop), (∀ (H : Heap) (locs : List Loc) (ls : Array Slot) (I_p0 : Nat → Int32) (f_p0_file : Nat → Int32) (x2 : Int32) (x3 : Int32), va_P (dC, dI) vwCl [oM a_p0 A_p0 I_p0, gz cI (A_p0 15) 256 f_p0_data, gz cI (A_p0 0) 2000 f_p0_file] H → va_D A [oM a_p0 A_p0 I_p0, gz cI (A_p0 15) 256 f_p0_data, gz cI (A_p0 0) 2000 f_p0_file] → va_S A s.heap H locs → lv_has ls 6 [(0, .ref a_p0), (2, .int x2), (3, .int x3)] → k2 I_p0 f_p0_file x2 x3 → W p l e ({ frames := 1, cells := 0, slots := 0, locals := 23 } : Room) s m args below meth c H locs 0 0 Q (F0 m 2 ls [])) → ∀ n : Nat, ∀ (H : Heap) (locs : List Loc) (ls : Array Slot) (I_p0 : Nat → Int32) (f_p0_file : Nat → Int32) (x2 : Int32) (x3 : Int32) (x5 : Int32), va_P (dC, dI) vwCl [oM a_p0 A_p0 I_p0, gz cI (A_p0 15) 256 f_p0_data, gz cI (A_p0 0) 2000 f_p0_file] H → va_D A [oM a_p0 A_p0 I_p0, gz cI (A_p0 15) 256 f_p0_data, gz cI (A_p0 0) 2000 f_p0_file] → va_S A s.heap H locs → lv_has ls 6 [(0, .ref a_p0), (2, .int x2), (3, .int x3), (5, .int x5)] → wp_M_packets_l54 post k2 f_p0_data n I_p0 f_p0_file x2 x3 x5 → W p l e ({ frames := 1, cells := 0, slots := 0, locals := 23 } : Room) s m args below meth c H locs 0 0 Q (F0 m 54 ls []) := by
    intro k2 hk2 n
    induction n with
    | zero => intro H locs ls I_p0 f_p0_file x2 x3 x5 hP hD hS hl hw; exact hw.elim
    | succ n ih =>
      intro H locs ls I_p0 f_p0_file x2 x3 x5 hP hD hS hl hw
      unfold wp_M_packets_l54 at hw
      refine lv_iload hx hb d_M_packets_54 (lv_at hl 3 rfl) ?_
      refine lv_iload_n hx hb d_M_packets_56 rfl (lv_at hl 1 rfl) ?_
      refine lv_icmp_ge hx hb d_M_packets_57 rfl (fun hc => ?_) (fun hc => ?_)
      · have hw := hw.1 hc
        exact b77 _ hk2 _ _ _ I_p0 f_p0_file x2 x3 x5 hP hD hS (lv_sub hl [0, 1, 2, 3] rfl) hw
      · have hw := hw.2 hc
        refine lv_aload_n hx hb d_M_packets_60 rfl (lv_at hl 0 rfl) ?_
        refine lv_iload hx hb d_M_packets_61 (lv_at hl 3 rfl) ?_
        refine lv_iload_n hx hb d_M_packets_63 rfl (lv_at hl 1 rfl) ?_
        refine gc_i (wn := fun (_ : Unit) => [oM a_p0 A_p0 I_p0, gz cI (A_p0 15) 256 f_p0_data, gz cI (A_p0 0) 2000 f_p0_file]) (wr := [gz cI (A_p0 0) 2000 f_p0_file]) (gr_V (As := [.int x5, .int x2]) (rest := []) ⟨hx, hb, hml, hown, hg⟩ (c_M_run l dC dI cI a_p0 A_p0 I_p0 f_p0_data x5 x2 hw _) (cwV 2 hg (gg_V t_988 t_990 t_42 t_71 t_991) rfl rfl rfl (by decide +kernel) ⟨Nat.le_of_ble_eq_true rfl, Nat.le_of_ble_eq_true rfl⟩) hK hN hP hD [0, 1] (by decide) rfl 0 10 rfl rfl rfl rfl hl.1 rfl (Nat.le_of_ble_eq_true rfl) d_M_packets_64 ⟨Nat.le_of_ble_eq_true rfl, Nat.le_of_ble_eq_true rfl⟩) rfl rfl hP hD hS hA [0, 1] [2] [1, 2, 0] rfl rfl (by decide) (by decide) (by decide) (fun _ => rfl) ?_
        intro r64 _ H locs hw hP hD hS
        try dsimp only at hw
        have hP : va_P (dC, dI) vwCl [oM a_p0 A_p0 I_p0, gz cI (A_p0 15) 256 f_p0_data, gz cI (A_p0 0) 2000 f_p0_file] H := hP
        have hD : va_D A [oM a_p0 A_p0 I_p0, gz cI (A_p0 15) 256 f_p0_data, gz cI (A_p0 0) 2000 f_p0_file] := hD
        refine lv_iconst (v := 3) hx hb d_M_packets_67 (by decide) ?_
        refine lv_icmp_ge hx hb d_M_packets_68 rfl (fun hc => ?_) (fun hc => ?_)
        · have hw := hw.1 hc
          exact b77 _ hk2 _ _ _ I_p0 f_p0_file x2 x3 x5 hP hD hS (lv_sub hl [0, 1, 2, 3] rfl) hw
        · have hw := hw.2 hc
          refine lv_iinc (k := 3) (v := (x5 + 1)) (lv' := [(5, .int (x5 + 1)), (0, .ref a_p0), (2, .int x2), (3, .int x3)]) hx hb d_M_packets_71 hl rfl (congrArg (fun z => x5 + z) (by decide : Int32.ofInt 1 = 1)) (by decide) rfl (fun ls hl => ?_)
          refine lv_goto hx hb d_M_packets_74 rfl ?_
          exact ih _ _ _ I_p0 f_p0_file x2 x3 (x5 + 1) hP hD hS (lv_sub hl [1, 2, 3, 0] rfl) hw
  have l2 : ∀ n : Nat, ∀ (H : Heap) (locs : List Loc) (ls : Array Slot) (I_p0 : Nat → Int32) (f_p0_file : Nat → Int32) (x2 : Int32) (x3 : Int32), va_P (dC, dI) vwCl [oM a_p0 A_p0 I_p0, gz cI (A_p0 15) 256 f_p0_data, gz cI (A_p0 0) 2000 f_p0_file] H → va_D A [oM a_p0 A_p0 I_p0, gz cI (A_p0 15) 256 f_p0_data, gz cI (A_p0 0) 2000 f_p0_file] → va_S A s.heap H locs → lv_has ls 6 [(0, .ref a_p0), (2, .int x2), (3, .int x3)] → wp_M_packets_l2 post f_p0_data n I_p0 f_p0_file x2 x3 → W p l e ({ frames := 1, cells := 0, slots := 0, locals := 23 } : Room) s m args below meth c H locs 0 0 Q (F0 m 2 ls []) := by
    intro n
    induction n with
    | zero => intro H locs ls I_p0 f_p0_file x2 x3 hP hD hS hl hw; exact hw.elim
    | succ n ih =>
      intro H locs ls I_p0 f_p0_file x2 x3 hP hD hS hl hw
      unfold wp_M_packets_l2 at hw
      refine lv_iload_n hx hb d_M_packets_2 rfl (lv_at hl 2 rfl) ?_
      refine lv_iload_n hx hb d_M_packets_3 rfl (lv_at hl 1 rfl) ?_
      refine lv_icmp_ge hx hb d_M_packets_4 rfl (fun hc => ?_) (fun hc => ?_)
      · have hw := hw.1 hc
        exact hret _ _ _ _ (I_p0, f_p0_file) d_M_packets_112 hP hD hS hw
      · have hw := hw.2 hc
        refine lv_aload_n hx hb d_M_packets_7 rfl (lv_at hl 0 rfl) ?_
        refine lv_iload_n hx hb d_M_packets_8 rfl (lv_at hl 2 rfl) ?_
        refine lv_iload_n hx hb d_M_packets_9 rfl (lv_at hl 1 rfl) ?_
        refine gc_i (wn := fun (_ : Unit) => [oM a_p0 A_p0 I_p0, gz cI (A_p0 15) 256 f_p0_data, gz cI (A_p0 0) 2000 f_p0_file]) (wr := [gz cI (A_p0 0) 2000 f_p0_file]) (gr_V (As := [.int x3, .int x2]) (rest := []) ⟨hx, hb, hml, hown, hg⟩ (c_M_run l dC dI cI a_p0 A_p0 I_p0 f_p0_data x3 x2 hw _) (cwV 2 hg (gg_V t_988 t_990 t_42 t_71 t_991) rfl rfl rfl (by decide +kernel) ⟨Nat.le_of_ble_eq_true rfl, Nat.le_of_ble_eq_true rfl⟩) hK hN hP hD [0, 1] (by decide) rfl 0 10 rfl rfl rfl rfl hl.1 rfl (Nat.le_of_ble_eq_true rfl) d_M_packets_10 ⟨Nat.le_of_ble_eq_true rfl, Nat.le_of_ble_eq_true rfl⟩) rfl rfl hP hD hS hA [0, 1] [2] [1, 2, 0] rfl rfl (by decide) (by decide) (by decide) (fun _ => rfl) ?_
        intro r10 _ H locs hw hP hD hS
        try dsimp only at hw
        have hP : va_P (dC, dI) vwCl [oM a_p0 A_p0 I_p0, gz cI (A_p0 15) 256 f_p0_data, gz cI (A_p0 0) 2000 f_p0_file] H := hP
        have hD : va_D A [oM a_p0 A_p0 I_p0, gz cI (A_p0 15) 256 f_p0_data, gz cI (A_p0 0) 2000 f_p0_file] := hD
        refine lv_istore (lv' := [(4, .int r10), (0, .ref a_p0), (2, .int x2), (3, .int x3)]) hx hb d_M_packets_13 hl (by decide) rfl (fun ls hl => ?_)
        refine lv_iload hx hb d_M_packets_15 (lv_at hl 0 rfl) ?_
        refine lv_iconst (v := 3) hx hb d_M_packets_17 (by decide) ?_
        refine lv_icmp_lt hx hb d_M_packets_18 rfl (fun hc => ?_) (fun hc => ?_)
        · have hw := hw.1 hc
          refine lv_iload_n hx hb d_M_packets_49 rfl (lv_at hl 3 rfl) ?_
          refine lv_iconst (v := 1) hx hb d_M_packets_50 (by decide) ?_
          refine lv_iadd hx hb d_M_packets_51 ?_
          refine lv_istore (lv' := [(5, .int (x3 + 1)), (4, .int r10), (0, .ref a_p0), (2, .int x2), (3, .int x3)]) hx hb d_M_packets_52 hl (by decide) rfl (fun ls hl => ?_)
          obtain ⟨n1, hw⟩ := hw
          exact l54 _ ih n1 _ _ _ I_p0 f_p0_file x2 x3 (x3 + 1) hP hD hS (lv_sub hl [2, 3, 4, 0] rfl) hw
        · have hw := hw.2 hc
          refine lv_aload_n hx hb d_M_packets_21 rfl (lv_at hl 1 rfl) ?_
          refine lv_sipush (v := 257) hx hb d_M_packets_22 (by decide) ?_
          refine lv_iload hx hb d_M_packets_25 (lv_at hl 0 rfl) ?_
          refine lv_isub hx hb d_M_packets_27 ?_
          refine gc_v (wn := fun u => [oM a_p0 A_p0 u.1, gz cI (A_p0 15) 256 f_p0_data, gz cI (A_p0 0) 2000 u.2]) (wr := [gz cI (A_p0 15) 256 f_p0_data]) (gr_V (As := [.int (257 - r10)]) (rest := []) ⟨hx, hb, hml, hown, hg⟩ (c_M_put l dC dI cI a_p0 A_p0 I_p0 f_p0_file (257 - r10) hw _) (cwV 1 hg (gg_V t_954 t_956 t_35 t_71 t_957) rfl rfl rfl (by decide +kernel) ⟨Nat.le_of_ble_eq_true rfl, Nat.le_of_ble_eq_true rfl⟩) hK hN hP hD [0, 2] (by decide) rfl 0 10 rfl rfl rfl rfl hl.1 rfl (Nat.le_of_ble_eq_true rfl) d_M_packets_28 ⟨Nat.le_of_ble_eq_true rfl, Nat.le_of_ble_eq_true rfl⟩) rfl rfl hP hD hS hA [0, 2] [1] [1, 0, 2] rfl rfl (by decide) (by decide) (by decide) (fun _ => rfl) ?_
          intro u9 H locs hw hP hD hS
          obtain ⟨I_p0_28, f_p0_file_28⟩ := u9
          try dsimp only at hw
          have hP : va_P (dC, dI) vwCl [oM a_p0 A_p0 I_p0_28, gz cI (A_p0 15) 256 f_p0_data, gz cI (A_p0 0) 2000 f_p0_file_28] H := hP
          have hD : va_D A [oM a_p0 A_p0 I_p0_28, gz cI (A_p0 15) 256 f_p0_data, gz cI (A_p0 0) 2000 f_p0_file_28] := hD
          refine lv_aload_n hx hb d_M_packets_31 rfl (lv_at hl 1 rfl) ?_
          refine lv_aload_n hx hb d_M_packets_32 rfl (lv_at hl 1 rfl) ?_
          refine va_get (D := (dC, dI)) (ci := 10) (v := .ref (A_p0 15)) (C := R_M) (T := T_M) (N := 30) hx hb hg in_M hown hK hP 0 rfl rfl 15 (by decide) (hg _ t_773) (fun _ h9 => h9) rfl d_M_packets_33 ?_
          refine lv_iload_n hx hb d_M_packets_36 rfl (lv_at hl 3 rfl) ?_
          obtain ⟨hin, hw⟩ := hw
          refine va_iald hx hb hK hP 1 0 rfl rfl hin d_M_packets_37 ?_
          refine gc_v (wn := fun u => [oM a_p0 A_p0 u.1, gz cI (A_p0 15) 256 f_p0_data, gz cI (A_p0 0) 2000 u.2]) (wr := [gz cI (A_p0 15) 256 f_p0_data]) (gr_V (As := [.int (f_p0_data (x3).toNatClampNeg)]) (rest := []) ⟨hx, hb, hml, hown, hg⟩ (c_M_put l dC dI cI a_p0 A_p0 I_p0_28 f_p0_file_28 (f_p0_data (x3).toNatClampNeg) hw _) (cwV 1 hg (gg_V t_954 t_956 t_35 t_71 t_957) rfl rfl rfl (by decide +kernel) ⟨Nat.le_of_ble_eq_true rfl, Nat.le_of_ble_eq_true rfl⟩) hK hN hP hD [0, 2] (by decide) rfl 0 10 rfl rfl rfl rfl hl.1 rfl (Nat.le_of_ble_eq_true rfl) d_M_packets_38 ⟨Nat.le_of_ble_eq_true rfl, Nat.le_of_ble_eq_true rfl⟩) rfl rfl hP hD hS hA [0, 2] [1] [1, 0, 2] rfl rfl (by decide) (by decide) (by decide) (fun _ => rfl) ?_
          intro u9 H locs hw hP hD hS
          obtain ⟨I_p0_38, f_p0_file_38⟩ := u9
          try dsimp only at hw
          have hP : va_P (dC, dI) vwCl [oM a_p0 A_p0 I_p0_38, gz cI (A_p0 15) 256 f_p0_data, gz cI (A_p0 0) 2000 f_p0_file_38] H := hP
          have hD : va_D A [oM a_p0 A_p0 I_p0_38, gz cI (A_p0 15) 256 f_p0_data, gz cI (A_p0 0) 2000 f_p0_file_38] := hD
          refine lv_iload_n hx hb d_M_packets_41 rfl (lv_at hl 3 rfl) ?_
          refine lv_iload hx hb d_M_packets_42 (lv_at hl 0 rfl) ?_
          refine lv_iadd hx hb d_M_packets_44 ?_
          refine lv_istore_n (lv' := [(3, .int (x3 + r10)), (4, .int r10), (0, .ref a_p0), (2, .int x2)]) hx hb d_M_packets_45 rfl hl (by decide) rfl (fun ls hl => ?_)
          refine lv_goto hx hb d_M_packets_46 rfl ?_
          exact b109 _ ih _ _ _ I_p0_38 f_p0_file_38 x2 (x3 + r10) hP hD hS (lv_sub hl [2, 3, 0] rfl) hw
  intro ls hl hP hD hS
  have hl : lv_has ls 6 [(0, .ref a_p0), (1, .int x1), (2, .int x2)] := hl
  unfold wp_M_packets at hw
  refine lv_iload_n hx hb d_M_packets_0 rfl (lv_at hl 1 rfl) ?_
  refine lv_istore_n (lv' := [(3, .int x1), (0, .ref a_p0), (1, .int x1), (2, .int x2)]) hx hb d_M_packets_1 rfl hl (by decide) rfl (fun ls hl => ?_)
  obtain ⟨n1, hw⟩ := hw
  exact l2 n1 _ _ _ I_p0 f_p0_file x2 x1 hP hD hS (lv_sub hl [1, 3, 0] rfl) hw
theorem d_M_pack_0 : decode b_M_pack 0 = .ok (.iload_n 2, 1) := by decide +kernel
theorem d_M_pack_1 : decode b_M_pack 1 = .ok (.aload_n 0, 1) := by decide +kernel
theorem d_M_pack_2 : decode b_M_pack 2 = .ok (.getfield 13, 3) := by decide +kernel
theorem d_M_pack_5 : decode b_M_pack 5 = .ok (.aload_n 0, 1) := by decide +kernel
theorem d_M_pack_6 : decode b_M_pack 6 = .ok (.getfield 20, 3) := by decide +kernel
theorem d_M_pack_9 : decode b_M_pack 9 = .ok (.invokestatic 132, 3) := by decide +kernel
theorem d_M_pack_12 : decode b_M_pack 12 = .ok (.imul, 1) := by decide +kernel
theorem d_M_pack_13 : decode b_M_pack 13 = .ok (.istore_n 3, 1) := by decide +kernel
theorem d_M_pack_14 : decode b_M_pack 14 = .ok (.iload_n 1, 1) := by decide +kernel
theorem d_M_pack_15 : decode b_M_pack 15 = .ok (.iconst 5, 1) := by decide +kernel
theorem d_M_pack_16 : decode b_M_pack 16 = .ok (.if_icmp .ne 66, 3) := by decide +kernel
theorem d_M_pack_19 : decode b_M_pack 19 = .ok (.iconst 0, 1) := by decide +kernel
theorem d_M_pack_20 : decode b_M_pack 20 = .ok (.istore 4, 2) := by decide +kernel
theorem d_M_pack_22 : decode b_M_pack 22 = .ok (.iload 4, 2) := by decide +kernel
theorem d_M_pack_24 : decode b_M_pack 24 = .ok (.iload_n 3, 1) := by decide +kernel
theorem d_M_pack_25 : decode b_M_pack 25 = .ok (.if_icmp .ge 49, 3) := by decide +kernel
theorem d_M_pack_28 : decode b_M_pack 28 = .ok (.aload_n 0, 1) := by decide +kernel
theorem d_M_pack_29 : decode b_M_pack 29 = .ok (.getfield 41, 3) := by decide +kernel
theorem d_M_pack_32 : decode b_M_pack 32 = .ok (.iconst 2, 1) := by decide +kernel
theorem d_M_pack_33 : decode b_M_pack 33 = .ok (.iload 4, 2) := by decide +kernel
theorem d_M_pack_35 : decode b_M_pack 35 = .ok (.imul, 1) := by decide +kernel
theorem d_M_pack_36 : decode b_M_pack 36 = .ok (.aload_n 0, 1) := by decide +kernel
theorem d_M_pack_37 : decode b_M_pack 37 = .ok (.getfield 38, 3) := by decide +kernel
theorem d_M_pack_40 : decode b_M_pack 40 = .ok (.iload 4, 2) := by decide +kernel
theorem d_M_pack_42 : decode b_M_pack 42 = .ok (.iaload, 1) := by decide +kernel
theorem d_M_pack_43 : decode b_M_pack 43 = .ok (.bipush 16, 2) := by decide +kernel
theorem d_M_pack_45 : decode b_M_pack 45 = .ok (.idiv, 1) := by decide +kernel
theorem d_M_pack_46 : decode b_M_pack 46 = .ok (.iastore, 1) := by decide +kernel
theorem d_M_pack_47 : decode b_M_pack 47 = .ok (.aload_n 0, 1) := by decide +kernel
theorem d_M_pack_48 : decode b_M_pack 48 = .ok (.getfield 41, 3) := by decide +kernel
theorem d_M_pack_51 : decode b_M_pack 51 = .ok (.iconst 2, 1) := by decide +kernel
theorem d_M_pack_52 : decode b_M_pack 52 = .ok (.iload 4, 2) := by decide +kernel
theorem d_M_pack_54 : decode b_M_pack 54 = .ok (.imul, 1) := by decide +kernel
theorem d_M_pack_55 : decode b_M_pack 55 = .ok (.iconst 1, 1) := by decide +kernel
theorem d_M_pack_56 : decode b_M_pack 56 = .ok (.iadd, 1) := by decide +kernel
theorem d_M_pack_57 : decode b_M_pack 57 = .ok (.aload_n 0, 1) := by decide +kernel
theorem d_M_pack_58 : decode b_M_pack 58 = .ok (.getfield 38, 3) := by decide +kernel
theorem d_M_pack_61 : decode b_M_pack 61 = .ok (.iload 4, 2) := by decide +kernel
theorem d_M_pack_63 : decode b_M_pack 63 = .ok (.iaload, 1) := by decide +kernel
theorem d_M_pack_64 : decode b_M_pack 64 = .ok (.bipush 16, 2) := by decide +kernel
theorem d_M_pack_66 : decode b_M_pack 66 = .ok (.irem, 1) := by decide +kernel
theorem d_M_pack_67 : decode b_M_pack 67 = .ok (.iastore, 1) := by decide +kernel
theorem d_M_pack_68 : decode b_M_pack 68 = .ok (.iinc 4 1, 3) := by decide +kernel
theorem d_M_pack_71 : decode b_M_pack 71 = .ok (.goto (-49), 3) := by decide +kernel
theorem d_M_pack_74 : decode b_M_pack 74 = .ok (.aload_n 0, 1) := by decide +kernel
theorem d_M_pack_75 : decode b_M_pack 75 = .ok (.iconst 2, 1) := by decide +kernel
theorem d_M_pack_76 : decode b_M_pack 76 = .ok (.iload_n 3, 1) := by decide +kernel
theorem d_M_pack_77 : decode b_M_pack 77 = .ok (.imul, 1) := by decide +kernel
theorem d_M_pack_78 : decode b_M_pack 78 = .ok (.invokevirtual 155, 3) := by decide +kernel
theorem d_M_pack_81 : decode b_M_pack 81 = .ok (.return_, 1) := by decide +kernel
theorem d_M_pack_82 : decode b_M_pack 82 = .ok (.iconst 0, 1) := by decide +kernel
theorem d_M_pack_83 : decode b_M_pack 83 = .ok (.istore 4, 2) := by decide +kernel
theorem d_M_pack_85 : decode b_M_pack 85 = .ok (.iload 4, 2) := by decide +kernel
theorem d_M_pack_87 : decode b_M_pack 87 = .ok (.iload_n 2, 1) := by decide +kernel
theorem d_M_pack_88 : decode b_M_pack 88 = .ok (.if_icmp .ge 85, 3) := by decide +kernel
theorem d_M_pack_91 : decode b_M_pack 91 = .ok (.iload 4, 2) := by decide +kernel
theorem d_M_pack_93 : decode b_M_pack 93 = .ok (.aload_n 0, 1) := by decide +kernel
theorem d_M_pack_94 : decode b_M_pack 94 = .ok (.getfield 13, 3) := by decide +kernel
theorem d_M_pack_97 : decode b_M_pack 97 = .ok (.aload_n 0, 1) := by decide +kernel
theorem d_M_pack_98 : decode b_M_pack 98 = .ok (.getfield 20, 3) := by decide +kernel
theorem d_M_pack_101 : decode b_M_pack 101 = .ok (.invokestatic 132, 3) := by decide +kernel
theorem d_M_pack_104 : decode b_M_pack 104 = .ok (.imul, 1) := by decide +kernel
theorem d_M_pack_105 : decode b_M_pack 105 = .ok (.istore 5, 2) := by decide +kernel
theorem d_M_pack_107 : decode b_M_pack 107 = .ok (.iload 5, 2) := by decide +kernel
theorem d_M_pack_109 : decode b_M_pack 109 = .ok (.aload_n 0, 1) := by decide +kernel
theorem d_M_pack_110 : decode b_M_pack 110 = .ok (.getfield 13, 3) := by decide +kernel
theorem d_M_pack_113 : decode b_M_pack 113 = .ok (.aload_n 0, 1) := by decide +kernel
theorem d_M_pack_114 : decode b_M_pack 114 = .ok (.getfield 20, 3) := by decide +kernel
theorem d_M_pack_117 : decode b_M_pack 117 = .ok (.invokestatic 132, 3) := by decide +kernel
theorem d_M_pack_120 : decode b_M_pack 120 = .ok (.iadd, 1) := by decide +kernel
theorem d_M_pack_121 : decode b_M_pack 121 = .ok (.istore 6, 2) := by decide +kernel
theorem d_M_pack_123 : decode b_M_pack 123 = .ok (.iload_n 1, 1) := by decide +kernel
theorem d_M_pack_124 : decode b_M_pack 124 = .ok (.iconst 1, 1) := by decide +kernel
theorem d_M_pack_125 : decode b_M_pack 125 = .ok (.if_icmp .ne 34, 3) := by decide +kernel
theorem d_M_pack_128 : decode b_M_pack 128 = .ok (.iload 5, 2) := by decide +kernel
theorem d_M_pack_130 : decode b_M_pack 130 = .ok (.istore 7, 2) := by decide +kernel
theorem d_M_pack_132 : decode b_M_pack 132 = .ok (.iload 7, 2) := by decide +kernel
theorem d_M_pack_134 : decode b_M_pack 134 = .ok (.iload 6, 2) := by decide +kernel
theorem d_M_pack_136 : decode b_M_pack 136 = .ok (.if_icmp .ge 20, 3) := by decide +kernel
theorem d_M_pack_139 : decode b_M_pack 139 = .ok (.aload_n 0, 1) := by decide +kernel
theorem d_M_pack_140 : decode b_M_pack 140 = .ok (.aload_n 0, 1) := by decide +kernel
theorem d_M_pack_141 : decode b_M_pack 141 = .ok (.getfield 38, 3) := by decide +kernel
theorem d_M_pack_144 : decode b_M_pack 144 = .ok (.iload 7, 2) := by decide +kernel
theorem d_M_pack_146 : decode b_M_pack 146 = .ok (.iaload, 1) := by decide +kernel
theorem d_M_pack_147 : decode b_M_pack 147 = .ok (.invokevirtual 128, 3) := by decide +kernel
theorem d_M_pack_150 : decode b_M_pack 150 = .ok (.iinc 7 1, 3) := by decide +kernel
theorem d_M_pack_153 : decode b_M_pack 153 = .ok (.goto (-21), 3) := by decide +kernel
theorem d_M_pack_156 : decode b_M_pack 156 = .ok (.goto 11, 3) := by decide +kernel
theorem d_M_pack_159 : decode b_M_pack 159 = .ok (.aload_n 0, 1) := by decide +kernel
theorem d_M_pack_160 : decode b_M_pack 160 = .ok (.iload 5, 2) := by decide +kernel
theorem d_M_pack_162 : decode b_M_pack 162 = .ok (.iload 6, 2) := by decide +kernel
theorem d_M_pack_164 : decode b_M_pack 164 = .ok (.invokevirtual 158, 3) := by decide +kernel
theorem d_M_pack_167 : decode b_M_pack 167 = .ok (.iinc 4 1, 3) := by decide +kernel
theorem d_M_pack_170 : decode b_M_pack 170 = .ok (.goto (-85), 3) := by decide +kernel
theorem d_M_pack_173 : decode b_M_pack 173 = .ok (.return_, 1) := by decide +kernel
def wp_M_pack_b167 (post : (Nat → Int32) → (Nat → Int32) → (Nat → Int32) → (Nat → Int32) → (Nat → Int32) → Prop) (k85 : (Nat → Int32) → (Nat → Int32) → (Nat → Int32) → (Nat → Int32) → (Nat → Int32) → Int32 → Int32 → Int32 → Prop) (f_p0_data : Nat → Int32) (I_p0 : Nat → Int32) (f_p0_file : Nat → Int32) (f_p0_many : Nat → Int32) (f_p0_nibs : Nat → Int32) (f_p0_start : Nat → Int32) (x1 : Int32) (x2 : Int32) (x4 : Int32) : Prop :=
  k85 I_p0 f_p0_file f_p0_many f_p0_nibs f_p0_start x1 x2 (x4 + 1)
def wp_M_pack_l132 (post : (Nat → Int32) → (Nat → Int32) → (Nat → Int32) → (Nat → Int32) → (Nat → Int32) → Prop) (k85 : (Nat → Int32) → (Nat → Int32) → (Nat → Int32) → (Nat → Int32) → (Nat → Int32) → Int32 → Int32 → Int32 → Prop) (f_p0_data : Nat → Int32) : Nat → (Nat → Int32) → (Nat → Int32) → (Nat → Int32) → (Nat → Int32) → (Nat → Int32) → Int32 → Int32 → Int32 → Int32 → Int32 → Prop
  | 0, _, _, _, _, _, _, _, _, _, _ => False
  | n + 1, I_p0, f_p0_file, f_p0_many, f_p0_nibs, f_p0_start, x1, x2, x4, x6, x7 =>
    ((x6 ≤ x7 →
      wp_M_pack_b167 post k85 f_p0_data I_p0 f_p0_file f_p0_many f_p0_nibs f_p0_start x1 x2 x4) ∧
     (¬ x6 ≤ x7 →
      vp_in x7 256 ∧
      wp_M_put (fun (I_p0_147 : Nat → Int32) (f_p0_file_147 : Nat → Int32) =>
        wp_M_pack_l132 post k85 f_p0_data n I_p0_147 f_p0_file_147 f_p0_many f_p0_nibs f_p0_start x1 x2 x4 x6 (x7 + 1)) I_p0 f_p0_file (f_p0_data (x7).toNatClampNeg)))
def wp_M_pack_l85 (post : (Nat → Int32) → (Nat → Int32) → (Nat → Int32) → (Nat → Int32) → (Nat → Int32) → Prop) (f_p0_data : Nat → Int32) : Nat → (Nat → Int32) → (Nat → Int32) → (Nat → Int32) → (Nat → Int32) → (Nat → Int32) → Int32 → Int32 → Int32 → Prop
  | 0, _, _, _, _, _, _, _, _ => False
  | n + 1, I_p0, f_p0_file, f_p0_many, f_p0_nibs, f_p0_start, x1, x2, x4 =>
    ((x2 ≤ x4 →
      post I_p0 f_p0_file f_p0_many f_p0_nibs f_p0_start) ∧
     (¬ x2 ≤ x4 →
      wp_M_rowBytes (fun (r101 : Int32) =>
        wp_M_rowBytes (fun (r117 : Int32) =>
          ((x1 = 1 →
            (∃ n1 : Nat, wp_M_pack_l132 post (wp_M_pack_l85 post f_p0_data n) f_p0_data n1 I_p0 f_p0_file f_p0_many f_p0_nibs f_p0_start x1 x2 x4 ((x4 * r101) + r117) (x4 * r101))) ∧
           (¬ x1 = 1 →
            wp_M_packets (fun (I_p0_164 : Nat → Int32) (f_p0_file_164 : Nat → Int32) =>
              wp_M_pack_b167 post (wp_M_pack_l85 post f_p0_data n) f_p0_data I_p0_164 f_p0_file_164 f_p0_many f_p0_nibs f_p0_start x1 x2 x4) f_p0_data I_p0 f_p0_file (x4 * r101) ((x4 * r101) + r117)))) (I_p0 3) (I_p0 5)) (I_p0 3) (I_p0 5)))
def wp_M_pack_l22 (post : (Nat → Int32) → (Nat → Int32) → (Nat → Int32) → (Nat → Int32) → (Nat → Int32) → Prop) (f_p0_data : Nat → Int32) : Nat → (Nat → Int32) → (Nat → Int32) → (Nat → Int32) → (Nat → Int32) → (Nat → Int32) → Int32 → Int32 → Prop
  | 0, _, _, _, _, _, _, _ => False
  | n + 1, I_p0, f_p0_file, f_p0_many, f_p0_nibs, f_p0_start, x3, x4 =>
    ((x3 ≤ x4 →
      wp_M_codes (fun (I_p0_78 : Nat → Int32) (f_p0_file_78 : Nat → Int32) (f_p0_many_78 : Nat → Int32) (f_p0_start_78 : Nat → Int32) =>
        post I_p0_78 f_p0_file_78 f_p0_many_78 f_p0_nibs f_p0_start_78) f_p0_nibs I_p0 f_p0_file f_p0_many f_p0_start (2 * x3)) ∧
     (¬ x3 ≤ x4 →
      vp_in x4 256 ∧
      vp_in (2 * x4) 512 ∧
      vp_in x4 256 ∧
      vp_in ((2 * x4) + 1) 512 ∧
      wp_M_pack_l22 post f_p0_data n I_p0 f_p0_file f_p0_many (upd (upd f_p0_nibs (2 * x4).toNatClampNeg ((f_p0_data (x4).toNatClampNeg) / 16)) ((2 * x4) + 1).toNatClampNeg ((f_p0_data (x4).toNatClampNeg) - (f_p0_data (x4).toNatClampNeg) / 16 * 16)) f_p0_start x3 (x4 + 1)))
def wp_M_pack (post : (Nat → Int32) → (Nat → Int32) → (Nat → Int32) → (Nat → Int32) → (Nat → Int32) → Prop) (f_p0_data : Nat → Int32) (I_p0 : Nat → Int32) (f_p0_file : Nat → Int32) (f_p0_many : Nat → Int32) (f_p0_nibs : Nat → Int32) (f_p0_start : Nat → Int32) (x1 : Int32) (x2 : Int32) : Prop :=
  wp_M_rowBytes (fun (r9 : Int32) =>
    ((x1 = 5 →
      (∃ n1 : Nat, wp_M_pack_l22 post f_p0_data n1 I_p0 f_p0_file f_p0_many f_p0_nibs f_p0_start (x2 * r9) 0)) ∧
     (¬ x1 = 5 →
      (∃ n1 : Nat, wp_M_pack_l85 post f_p0_data n1 I_p0 f_p0_file f_p0_many f_p0_nibs f_p0_start x1 x2 0)))) (I_p0 3) (I_p0 5)
set_option maxRecDepth 100000 in
set_option maxHeartbeats 4000000 in
theorem c_M_pack (l : Launch) (dC : Nat → ClassId) (dI : Nat → Nat → Nat) (cI : ClassId) (a_p0 : Nat) (A_p0 : Nat → Nat) (f_p0_data : Nat → Int32) (I_p0 : Nat → Int32) (f_p0_file : Nat → Int32) (f_p0_many : Nat → Int32) (f_p0_nibs : Nat → Int32) (f_p0_start : Nat → Int32) (x1 : Int32) (x2 : Int32) {post : (Nat → Int32) → (Nat → Int32) → (Nat → Int32) → (Nat → Int32) → (Nat → Int32) → Prop} (hw : wp_M_pack post f_p0_data I_p0 f_p0_file f_p0_many f_p0_nibs f_p0_start x1 x2) : gm_v l y_M_pack ws_M_pack ({ frames := 3, cells := 0, slots := 0, locals := 72 } : Room) (dC, dI) vwCl [(cI, .int)] [.ref a_p0, .int x1, .int x2] [oM a_p0 A_p0 I_p0, gz cI (A_p0 15) 256 f_p0_data, gz cI (A_p0 0) 2000 f_p0_file, gz cI (A_p0 18) 120 f_p0_many, gz cI (A_p0 16) 512 f_p0_nibs, gz cI (A_p0 17) 120 f_p0_start] (fun (u : (Nat → Int32) × (Nat → Int32) × (Nat → Int32) × (Nat → Int32) × (Nat → Int32)) => [oM a_p0 A_p0 u.1, gz cI (A_p0 15) 256 f_p0_data, gz cI (A_p0 0) 2000 u.2.1, gz cI (A_p0 18) 120 u.2.2.1, gz cI (A_p0 16) 512 u.2.2.2.1, gz cI (A_p0 17) 120 u.2.2.2.2]) (fun (u : (Nat → Int32) × (Nat → Int32) × (Nat → Int32) × (Nat → Int32) × (Nat → Int32)) => post  u.1 u.2.1 u.2.2.1 u.2.2.2.1 u.2.2.2.2) := by
  refine gm_vof (cc := b_M_pack) (maxL := 8) (by decide) rfl (Nat.le_of_ble_eq_true rfl) ?_
  intro p e s m args below meth c A Q hx hb hml hown hg hK hN hA hnm hret
  have hown : s.vm.findClass R_M = some m.cls := hown
  have b167 : ∀ (k85 : (Nat → Int32) → (Nat → Int32) → (Nat → Int32) → (Nat → Int32) → (Nat → Int32) → Int32 → Int32 → Int32 → Prop), (∀ (H : Heap) (locs : List Loc) (ls : Array Slot) (I_p0 : Nat → Int32) (f_p0_file : Nat → Int32) (f_p0_many : Nat → Int32) (f_p0_nibs : Nat → Int32) (f_p0_start : Nat → Int32) (x1 : Int32) (x2 : Int32) (x4 : Int32), va_P (dC, dI) vwCl [oM a_p0 A_p0 I_p0, gz cI (A_p0 15) 256 f_p0_data, gz cI (A_p0 0) 2000 f_p0_file, gz cI (A_p0 18) 120 f_p0_many, gz cI (A_p0 16) 512 f_p0_nibs, gz cI (A_p0 17) 120 f_p0_start] H → va_D A [oM a_p0 A_p0 I_p0, gz cI (A_p0 15) 256 f_p0_data, gz cI (A_p0 0) 2000 f_p0_file, gz cI (A_p0 18) 120 f_p0_many, gz cI (A_p0 16) 512 f_p0_nibs, gz cI (A_p0 17) 120 f_p0_start] → va_S A s.heap H locs → lv_has ls 8 [(0, .ref a_p0), (1, .int x1), (2, .int x2), (4, .int x4)] → k85 I_p0 f_p0_file f_p0_many f_p0_nibs f_p0_start x1 x2 x4 → W p l e ({ frames := 3, cells := 0, slots := 0, locals := 72 } : Room) s m args below meth c H locs 0 0 Q (F0 m 85 ls [])) → ∀ (H : Heap) (locs : List Loc) (ls : Array Slot) (I_p0 : Nat → Int32) (f_p0_file : Nat → Int32) (f_p0_many : Nat → Int32) (f_p0_nibs : Nat → Int32) (f_p0_start : Nat → Int32) (x1 : Int32) (x2 : Int32) (x4 : Int32), va_P (dC, dI) vwCl [oM a_p0 A_p0 I_p0, gz cI (A_p0 15) 256 f_p0_data, gz cI (A_p0 0) 2000 f_p0_file, gz cI (A_p0 18) 120 f_p0_many, gz cI (A_p0 16) 512 f_p0_nibs, gz cI (A_p0 17) 120 f_p0_start] H → va_D A [oM a_p0 A_p0 I_p0, gz cI (A_p0 15) 256 f_p0_data, gz cI (A_p0 0) 2000 f_p0_file, gz cI (A_p0 18) 120 f_p0_many, gz cI (A_p0 16) 512 f_p0_nibs, gz cI (A_p0 17) 120 f_p0_start] → va_S A s.heap H locs → lv_has ls 8 [(0, .ref a_p0), (1, .int x1), (2, .int x2), (4, .int x4)] → wp_M_pack_b167 post k85 f_p0_data I_p0 f_p0_file f_p0_many f_p0_nibs f_p0_start x1 x2 x4 → W p l e ({ frames := 3, cells := 0, slots := 0, locals := 72 } : Room) s m args below meth c H locs 0 0 Q (F0 m 167 ls []) := by
    intro k85 hk85 H locs ls I_p0 f_p0_file f_p0_many f_p0_nibs f_p0_start x1 x2 x4 hP hD hS hl hw
    unfold wp_M_pack_b167 at hw
    refine lv_iinc (k := 3) (v := (x4 + 1)) (lv' := [(4, .int (x4 + 1)), (0, .ref a_p0), (1, .int x1), (2, .int x2)]) hx hb d_M_pack_167 hl rfl (congrArg (fun z => x4 + z) (by decide : Int32.ofInt 1 = 1)) (by decide) rfl (fun ls hl => ?_)
    refine lv_goto hx hb d_M_pack_170 rfl ?_
    exact hk85 _ _ _ I_p0 f_p0_file f_p0_many f_p0_nibs f_p0_start x1 x2 (x4 + 1) hP hD hS (lv_sub hl [1, 2, 3, 0] rfl) hw
  have l132 : ∀ (k85 : (Nat → Int32) → (Nat → Int32) → (Nat → Int32) → (Nat → Int32) → (Nat → Int32) → Int32 → Int32 → Int32 → Prop), (∀ (H : Heap) (locs : List Loc) (ls : Array Slot) (I_p0 : Nat → Int32) (f_p0_file : Nat → Int32) (f_p0_many : Nat → Int32) (f_p0_nibs : Nat → Int32) (f_p0_start : Nat → Int32) (x1 : Int32) (x2 : Int32) (x4 : Int32), va_P (dC, dI) vwCl [oM a_p0 A_p0 I_p0, gz cI (A_p0 15) 256 f_p0_data, gz cI (A_p0 0) 2000 f_p0_file, gz cI (A_p0 18) 120 f_p0_many, gz cI (A_p0 16) 512 f_p0_nibs, gz cI (A_p0 17) 120 f_p0_start] H → va_D A [oM a_p0 A_p0 I_p0, gz cI (A_p0 15) 256 f_p0_data, gz cI (A_p0 0) 2000 f_p0_file, gz cI (A_p0 18) 120 f_p0_many, gz cI (A_p0 16) 512 f_p0_nibs, gz cI (A_p0 17) 120 f_p0_start] → va_S A s.heap H locs → lv_has ls 8 [(0, .ref a_p0), (1, .int x1), (2, .int x2), (4, .int x4)] → k85 I_p0 f_p0_file f_p0_many f_p0_nibs f_p0_start x1 x2 x4 → W p l e ({ frames := 3, cells := 0, slots := 0, locals := 72 } : Room) s m args below meth c H locs 0 0 Q (F0 m 85 ls [])) → ∀ n : Nat, ∀ (H : Heap) (locs : List Loc) (ls : Array Slot) (I_p0 : Nat → Int32) (f_p0_file : Nat → Int32) (f_p0_many : Nat → Int32) (f_p0_nibs : Nat → Int32) (f_p0_start : Nat → Int32) (x1 : Int32) (x2 : Int32) (x4 : Int32) (x6 : Int32) (x7 : Int32), va_P (dC, dI) vwCl [oM a_p0 A_p0 I_p0, gz cI (A_p0 15) 256 f_p0_data, gz cI (A_p0 0) 2000 f_p0_file, gz cI (A_p0 18) 120 f_p0_many, gz cI (A_p0 16) 512 f_p0_nibs, gz cI (A_p0 17) 120 f_p0_start] H → va_D A [oM a_p0 A_p0 I_p0, gz cI (A_p0 15) 256 f_p0_data, gz cI (A_p0 0) 2000 f_p0_file, gz cI (A_p0 18) 120 f_p0_many, gz cI (A_p0 16) 512 f_p0_nibs, gz cI (A_p0 17) 120 f_p0_start] → va_S A s.heap H locs → lv_has ls 8 [(0, .ref a_p0), (1, .int x1), (2, .int x2), (4, .int x4), (6, .int x6), (7, .int x7)] → wp_M_pack_l132 post k85 f_p0_data n I_p0 f_p0_file f_p0_many f_p0_nibs f_p0_start x1 x2 x4 x6 x7 → W p l e ({ frames := 3, cells := 0, slots := 0, locals := 72 } : Room) s m args below meth c H locs 0 0 Q (F0 m 132 ls []) := by
    intro k85 hk85 n
    induction n with
    | zero => intro H locs ls I_p0 f_p0_file f_p0_many f_p0_nibs f_p0_start x1 x2 x4 x6 x7 hP hD hS hl hw; exact hw.elim
    | succ n ih =>
      intro H locs ls I_p0 f_p0_file f_p0_many f_p0_nibs f_p0_start x1 x2 x4 x6 x7 hP hD hS hl hw
      unfold wp_M_pack_l132 at hw
      refine lv_iload hx hb d_M_pack_132 (lv_at hl 5 rfl) ?_
      refine lv_iload hx hb d_M_pack_134 (lv_at hl 4 rfl) ?_
      refine lv_icmp_ge hx hb d_M_pack_136 rfl (fun hc => ?_) (fun hc => ?_)
      · have hw := hw.1 hc
        refine lv_goto hx hb d_M_pack_156 rfl ?_
        exact b167 _ hk85 _ _ _ I_p0 f_p0_file f_p0_many f_p0_nibs f_p0_start x1 x2 x4 hP hD hS (lv_sub hl [0, 1, 2, 3] rfl) hw
      · have hw := hw.2 hc
        refine lv_aload_n hx hb d_M_pack_139 rfl (lv_at hl 0 rfl) ?_
        refine lv_aload_n hx hb d_M_pack_140 rfl (lv_at hl 0 rfl) ?_
        refine va_get (D := (dC, dI)) (ci := 10) (v := .ref (A_p0 15)) (C := R_M) (T := T_M) (N := 30) hx hb hg in_M hown hK hP 0 rfl rfl 15 (by decide) (hg _ t_773) (fun _ h9 => h9) rfl d_M_pack_141 ?_
        refine lv_iload hx hb d_M_pack_144 (lv_at hl 5 rfl) ?_
        obtain ⟨hin, hw⟩ := hw
        refine va_iald hx hb hK hP 1 0 rfl rfl hin d_M_pack_146 ?_
        refine gc_v (wn := fun u => [oM a_p0 A_p0 u.1, gz cI (A_p0 15) 256 f_p0_data, gz cI (A_p0 0) 2000 u.2, gz cI (A_p0 18) 120 f_p0_many, gz cI (A_p0 16) 512 f_p0_nibs, gz cI (A_p0 17) 120 f_p0_start]) (wr := [gz cI (A_p0 15) 256 f_p0_data, gz cI (A_p0 18) 120 f_p0_many, gz cI (A_p0 16) 512 f_p0_nibs, gz cI (A_p0 17) 120 f_p0_start]) (gr_V (As := [.int (f_p0_data (x7).toNatClampNeg)]) (rest := []) ⟨hx, hb, hml, hown, hg⟩ (c_M_put l dC dI cI a_p0 A_p0 I_p0 f_p0_file (f_p0_data (x7).toNatClampNeg) hw _) (cwV 1 hg (gg_V t_954 t_956 t_35 t_71 t_957) rfl rfl rfl (by decide +kernel) ⟨Nat.le_of_ble_eq_true rfl, Nat.le_of_ble_eq_true rfl⟩) hK hN hP hD [0, 2] (by decide) rfl 0 10 rfl rfl rfl rfl hl.1 rfl (Nat.le_of_ble_eq_true rfl) d_M_pack_147 ⟨Nat.le_of_ble_eq_true rfl, Nat.le_of_ble_eq_true rfl⟩) rfl rfl hP hD hS hA [0, 2] [1, 3, 4, 5] [4, 0, 5, 1, 2, 3] rfl rfl (by decide) (by decide) (by decide) (fun _ => rfl) ?_
        intro u9 H locs hw hP hD hS
        obtain ⟨I_p0_147, f_p0_file_147⟩ := u9
        try dsimp only at hw
        have hP : va_P (dC, dI) vwCl [oM a_p0 A_p0 I_p0_147, gz cI (A_p0 15) 256 f_p0_data, gz cI (A_p0 0) 2000 f_p0_file_147, gz cI (A_p0 18) 120 f_p0_many, gz cI (A_p0 16) 512 f_p0_nibs, gz cI (A_p0 17) 120 f_p0_start] H := hP
        have hD : va_D A [oM a_p0 A_p0 I_p0_147, gz cI (A_p0 15) 256 f_p0_data, gz cI (A_p0 0) 2000 f_p0_file_147, gz cI (A_p0 18) 120 f_p0_many, gz cI (A_p0 16) 512 f_p0_nibs, gz cI (A_p0 17) 120 f_p0_start] := hD
        refine lv_iinc (k := 5) (v := (x7 + 1)) (lv' := [(7, .int (x7 + 1)), (0, .ref a_p0), (1, .int x1), (2, .int x2), (4, .int x4), (6, .int x6)]) hx hb d_M_pack_150 hl rfl (congrArg (fun z => x7 + z) (by decide : Int32.ofInt 1 = 1)) (by decide) rfl (fun ls hl => ?_)
        refine lv_goto hx hb d_M_pack_153 rfl ?_
        exact ih _ _ _ I_p0_147 f_p0_file_147 f_p0_many f_p0_nibs f_p0_start x1 x2 x4 x6 (x7 + 1) hP hD hS (lv_sub hl [1, 2, 3, 4, 5, 0] rfl) hw
  have l85 : ∀ n : Nat, ∀ (H : Heap) (locs : List Loc) (ls : Array Slot) (I_p0 : Nat → Int32) (f_p0_file : Nat → Int32) (f_p0_many : Nat → Int32) (f_p0_nibs : Nat → Int32) (f_p0_start : Nat → Int32) (x1 : Int32) (x2 : Int32) (x4 : Int32), va_P (dC, dI) vwCl [oM a_p0 A_p0 I_p0, gz cI (A_p0 15) 256 f_p0_data, gz cI (A_p0 0) 2000 f_p0_file, gz cI (A_p0 18) 120 f_p0_many, gz cI (A_p0 16) 512 f_p0_nibs, gz cI (A_p0 17) 120 f_p0_start] H → va_D A [oM a_p0 A_p0 I_p0, gz cI (A_p0 15) 256 f_p0_data, gz cI (A_p0 0) 2000 f_p0_file, gz cI (A_p0 18) 120 f_p0_many, gz cI (A_p0 16) 512 f_p0_nibs, gz cI (A_p0 17) 120 f_p0_start] → va_S A s.heap H locs → lv_has ls 8 [(0, .ref a_p0), (1, .int x1), (2, .int x2), (4, .int x4)] → wp_M_pack_l85 post f_p0_data n I_p0 f_p0_file f_p0_many f_p0_nibs f_p0_start x1 x2 x4 → W p l e ({ frames := 3, cells := 0, slots := 0, locals := 72 } : Room) s m args below meth c H locs 0 0 Q (F0 m 85 ls []) := by
    intro n
    induction n with
    | zero => intro H locs ls I_p0 f_p0_file f_p0_many f_p0_nibs f_p0_start x1 x2 x4 hP hD hS hl hw; exact hw.elim
    | succ n ih =>
      intro H locs ls I_p0 f_p0_file f_p0_many f_p0_nibs f_p0_start x1 x2 x4 hP hD hS hl hw
      unfold wp_M_pack_l85 at hw
      refine lv_iload hx hb d_M_pack_85 (lv_at hl 3 rfl) ?_
      refine lv_iload_n hx hb d_M_pack_87 rfl (lv_at hl 2 rfl) ?_
      refine lv_icmp_ge hx hb d_M_pack_88 rfl (fun hc => ?_) (fun hc => ?_)
      · have hw := hw.1 hc
        exact hret _ _ _ _ (I_p0, f_p0_file, f_p0_many, f_p0_nibs, f_p0_start) d_M_pack_173 hP hD hS hw
      · have hw := hw.2 hc
        refine lv_iload hx hb d_M_pack_91 (lv_at hl 3 rfl) ?_
        refine lv_aload_n hx hb d_M_pack_93 rfl (lv_at hl 0 rfl) ?_
        refine va_get (D := (dC, dI)) (ci := 10) (v := .int (I_p0 3)) (C := R_M) (T := T_M) (N := 30) hx hb hg in_M hown hK hP 0 rfl rfl 3 (by decide) (hg _ t_761) (fun _ h9 => h9) rfl d_M_pack_94 ?_
        refine lv_aload_n hx hb d_M_pack_97 rfl (lv_at hl 0 rfl) ?_
        refine va_get (D := (dC, dI)) (ci := 10) (v := .int (I_p0 5)) (C := R_M) (T := T_M) (N := 30) hx hb hg in_M hown hK hP 0 rfl rfl 5 (by decide) (hg _ t_763) (fun _ h9 => h9) rfl d_M_pack_98 ?_
        refine gc_i (wn := fun (_ : Unit) => [oM a_p0 A_p0 I_p0, gz cI (A_p0 15) 256 f_p0_data, gz cI (A_p0 0) 2000 f_p0_file, gz cI (A_p0 18) 120 f_p0_many, gz cI (A_p0 16) 512 f_p0_nibs, gz cI (A_p0 17) 120 f_p0_start]) (wr := [oM a_p0 A_p0 I_p0, gz cI (A_p0 15) 256 f_p0_data, gz cI (A_p0 0) 2000 f_p0_file, gz cI (A_p0 18) 120 f_p0_many, gz cI (A_p0 16) 512 f_p0_nibs, gz cI (A_p0 17) 120 f_p0_start]) (gr_S (As := [.int (I_p0 3), .int (I_p0 5)]) (rest := [.int x4]) ⟨hx, hb, hml, hown, hg⟩ (c_M_rowBytes l dC dI cI (I_p0 3) (I_p0 5) hw _) (va_cwS 2 hg (gg_S t_962 t_963 t_71 t_964) rfl rfl rfl (by decide +kernel) ⟨Nat.le_of_ble_eq_true rfl, Nat.le_of_ble_eq_true rfl⟩) hK hN hP hD [] (by decide) rfl rfl hl.1 rfl (Nat.le_of_ble_eq_true rfl) d_M_pack_101 ⟨Nat.le_of_ble_eq_true rfl, Nat.le_of_ble_eq_true rfl⟩) rfl rfl hP hD hS hA [] [0, 1, 2, 3, 4, 5] [0, 1, 2, 3, 4, 5] rfl rfl (by decide) (by decide) (by decide) (fun _ => rfl) ?_
        intro r101 _ H locs hw hP hD hS
        try dsimp only at hw
        have hP : va_P (dC, dI) vwCl [oM a_p0 A_p0 I_p0, gz cI (A_p0 15) 256 f_p0_data, gz cI (A_p0 0) 2000 f_p0_file, gz cI (A_p0 18) 120 f_p0_many, gz cI (A_p0 16) 512 f_p0_nibs, gz cI (A_p0 17) 120 f_p0_start] H := hP
        have hD : va_D A [oM a_p0 A_p0 I_p0, gz cI (A_p0 15) 256 f_p0_data, gz cI (A_p0 0) 2000 f_p0_file, gz cI (A_p0 18) 120 f_p0_many, gz cI (A_p0 16) 512 f_p0_nibs, gz cI (A_p0 17) 120 f_p0_start] := hD
        refine lv_imul hx hb d_M_pack_104 ?_
        refine lv_istore (lv' := [(5, .int (x4 * r101)), (0, .ref a_p0), (1, .int x1), (2, .int x2), (4, .int x4)]) hx hb d_M_pack_105 hl (by decide) rfl (fun ls hl => ?_)
        refine lv_iload hx hb d_M_pack_107 (lv_at hl 0 rfl) ?_
        refine lv_aload_n hx hb d_M_pack_109 rfl (lv_at hl 1 rfl) ?_
        refine va_get (D := (dC, dI)) (ci := 10) (v := .int (I_p0 3)) (C := R_M) (T := T_M) (N := 30) hx hb hg in_M hown hK hP 0 rfl rfl 3 (by decide) (hg _ t_761) (fun _ h9 => h9) rfl d_M_pack_110 ?_
        refine lv_aload_n hx hb d_M_pack_113 rfl (lv_at hl 1 rfl) ?_
        refine va_get (D := (dC, dI)) (ci := 10) (v := .int (I_p0 5)) (C := R_M) (T := T_M) (N := 30) hx hb hg in_M hown hK hP 0 rfl rfl 5 (by decide) (hg _ t_763) (fun _ h9 => h9) rfl d_M_pack_114 ?_
        refine gc_i (wn := fun (_ : Unit) => [oM a_p0 A_p0 I_p0, gz cI (A_p0 15) 256 f_p0_data, gz cI (A_p0 0) 2000 f_p0_file, gz cI (A_p0 18) 120 f_p0_many, gz cI (A_p0 16) 512 f_p0_nibs, gz cI (A_p0 17) 120 f_p0_start]) (wr := [oM a_p0 A_p0 I_p0, gz cI (A_p0 15) 256 f_p0_data, gz cI (A_p0 0) 2000 f_p0_file, gz cI (A_p0 18) 120 f_p0_many, gz cI (A_p0 16) 512 f_p0_nibs, gz cI (A_p0 17) 120 f_p0_start]) (gr_S (As := [.int (I_p0 3), .int (I_p0 5)]) (rest := [.int (x4 * r101)]) ⟨hx, hb, hml, hown, hg⟩ (c_M_rowBytes l dC dI cI (I_p0 3) (I_p0 5) hw _) (va_cwS 2 hg (gg_S t_962 t_963 t_71 t_964) rfl rfl rfl (by decide +kernel) ⟨Nat.le_of_ble_eq_true rfl, Nat.le_of_ble_eq_true rfl⟩) hK hN hP hD [] (by decide) rfl rfl hl.1 rfl (Nat.le_of_ble_eq_true rfl) d_M_pack_117 ⟨Nat.le_of_ble_eq_true rfl, Nat.le_of_ble_eq_true rfl⟩) rfl rfl hP hD hS hA [] [0, 1, 2, 3, 4, 5] [0, 1, 2, 3, 4, 5] rfl rfl (by decide) (by decide) (by decide) (fun _ => rfl) ?_
        intro r117 _ H locs hw hP hD hS
        try dsimp only at hw
        have hP : va_P (dC, dI) vwCl [oM a_p0 A_p0 I_p0, gz cI (A_p0 15) 256 f_p0_data, gz cI (A_p0 0) 2000 f_p0_file, gz cI (A_p0 18) 120 f_p0_many, gz cI (A_p0 16) 512 f_p0_nibs, gz cI (A_p0 17) 120 f_p0_start] H := hP
        have hD : va_D A [oM a_p0 A_p0 I_p0, gz cI (A_p0 15) 256 f_p0_data, gz cI (A_p0 0) 2000 f_p0_file, gz cI (A_p0 18) 120 f_p0_many, gz cI (A_p0 16) 512 f_p0_nibs, gz cI (A_p0 17) 120 f_p0_start] := hD
        refine lv_iadd hx hb d_M_pack_120 ?_
        refine lv_istore (lv' := [(6, .int ((x4 * r101) + r117)), (5, .int (x4 * r101)), (0, .ref a_p0), (1, .int x1), (2, .int x2), (4, .int x4)]) hx hb d_M_pack_121 hl (by decide) rfl (fun ls hl => ?_)
        refine lv_iload_n hx hb d_M_pack_123 rfl (lv_at hl 3 rfl) ?_
        refine lv_iconst (v := 1) hx hb d_M_pack_124 (by decide) ?_
        refine lv_icmp_ne hx hb d_M_pack_125 rfl (fun hc => ?_) (fun hc => ?_)
        · have hw := hw.2 hc
          refine lv_aload_n hx hb d_M_pack_159 rfl (lv_at hl 2 rfl) ?_
          refine lv_iload hx hb d_M_pack_160 (lv_at hl 1 rfl) ?_
          refine lv_iload hx hb d_M_pack_162 (lv_at hl 0 rfl) ?_
          refine gc_v (wn := fun u => [oM a_p0 A_p0 u.1, gz cI (A_p0 15) 256 f_p0_data, gz cI (A_p0 0) 2000 u.2, gz cI (A_p0 18) 120 f_p0_many, gz cI (A_p0 16) 512 f_p0_nibs, gz cI (A_p0 17) 120 f_p0_start]) (wr := [gz cI (A_p0 18) 120 f_p0_many, gz cI (A_p0 16) 512 f_p0_nibs, gz cI (A_p0 17) 120 f_p0_start]) (gr_V (As := [.int (x4 * r101), .int ((x4 * r101) + r117)]) (rest := []) ⟨hx, hb, hml, hown, hg⟩ (c_M_packets l dC dI cI a_p0 A_p0 f_p0_data I_p0 f_p0_file (x4 * r101) ((x4 * r101) + r117) hw _) (cwV 2 hg (gg_V t_984 t_986 t_41 t_71 t_987) rfl rfl rfl (by decide +kernel) ⟨Nat.le_of_ble_eq_true rfl, Nat.le_of_ble_eq_true rfl⟩) hK hN hP hD [0, 1, 2] (by decide) rfl 0 10 rfl rfl rfl rfl hl.1 rfl (Nat.le_of_ble_eq_true rfl) d_M_pack_164 ⟨Nat.le_of_ble_eq_true rfl, Nat.le_of_ble_eq_true rfl⟩) rfl rfl hP hD hS hA [0, 1, 2] [3, 4, 5] [3, 4, 5, 0, 1, 2] rfl rfl (by decide) (by decide) (by decide) (fun _ => rfl) ?_
          intro u9 H locs hw hP hD hS
          obtain ⟨I_p0_164, f_p0_file_164⟩ := u9
          try dsimp only at hw
          have hP : va_P (dC, dI) vwCl [oM a_p0 A_p0 I_p0_164, gz cI (A_p0 15) 256 f_p0_data, gz cI (A_p0 0) 2000 f_p0_file_164, gz cI (A_p0 18) 120 f_p0_many, gz cI (A_p0 16) 512 f_p0_nibs, gz cI (A_p0 17) 120 f_p0_start] H := hP
          have hD : va_D A [oM a_p0 A_p0 I_p0_164, gz cI (A_p0 15) 256 f_p0_data, gz cI (A_p0 0) 2000 f_p0_file_164, gz cI (A_p0 18) 120 f_p0_many, gz cI (A_p0 16) 512 f_p0_nibs, gz cI (A_p0 17) 120 f_p0_start] := hD
          exact b167 _ ih _ _ _ I_p0_164 f_p0_file_164 f_p0_many f_p0_nibs f_p0_start x1 x2 x4 hP hD hS (lv_sub hl [2, 3, 4, 5] rfl) hw
        · have hw := hw.1 hc
          refine lv_iload hx hb d_M_pack_128 (lv_at hl 1 rfl) ?_
          refine lv_istore (lv' := [(7, .int (x4 * r101)), (6, .int ((x4 * r101) + r117)), (5, .int (x4 * r101)), (0, .ref a_p0), (1, .int x1), (2, .int x2), (4, .int x4)]) hx hb d_M_pack_130 hl (by decide) rfl (fun ls hl => ?_)
          obtain ⟨n1, hw⟩ := hw
          exact l132 _ ih n1 _ _ _ I_p0 f_p0_file f_p0_many f_p0_nibs f_p0_start x1 x2 x4 ((x4 * r101) + r117) (x4 * r101) hP hD hS (lv_sub hl [3, 4, 5, 6, 1, 0] rfl) hw
  have l22 : ∀ n : Nat, ∀ (H : Heap) (locs : List Loc) (ls : Array Slot) (I_p0 : Nat → Int32) (f_p0_file : Nat → Int32) (f_p0_many : Nat → Int32) (f_p0_nibs : Nat → Int32) (f_p0_start : Nat → Int32) (x3 : Int32) (x4 : Int32), va_P (dC, dI) vwCl [oM a_p0 A_p0 I_p0, gz cI (A_p0 15) 256 f_p0_data, gz cI (A_p0 0) 2000 f_p0_file, gz cI (A_p0 18) 120 f_p0_many, gz cI (A_p0 16) 512 f_p0_nibs, gz cI (A_p0 17) 120 f_p0_start] H → va_D A [oM a_p0 A_p0 I_p0, gz cI (A_p0 15) 256 f_p0_data, gz cI (A_p0 0) 2000 f_p0_file, gz cI (A_p0 18) 120 f_p0_many, gz cI (A_p0 16) 512 f_p0_nibs, gz cI (A_p0 17) 120 f_p0_start] → va_S A s.heap H locs → lv_has ls 8 [(0, .ref a_p0), (3, .int x3), (4, .int x4)] → wp_M_pack_l22 post f_p0_data n I_p0 f_p0_file f_p0_many f_p0_nibs f_p0_start x3 x4 → W p l e ({ frames := 3, cells := 0, slots := 0, locals := 72 } : Room) s m args below meth c H locs 0 0 Q (F0 m 22 ls []) := by
    intro n
    induction n with
    | zero => intro H locs ls I_p0 f_p0_file f_p0_many f_p0_nibs f_p0_start x3 x4 hP hD hS hl hw; exact hw.elim
    | succ n ih =>
      intro H locs ls I_p0 f_p0_file f_p0_many f_p0_nibs f_p0_start x3 x4 hP hD hS hl hw
      unfold wp_M_pack_l22 at hw
      refine lv_iload hx hb d_M_pack_22 (lv_at hl 2 rfl) ?_
      refine lv_iload_n hx hb d_M_pack_24 rfl (lv_at hl 1 rfl) ?_
      refine lv_icmp_ge hx hb d_M_pack_25 rfl (fun hc => ?_) (fun hc => ?_)
      · have hw := hw.1 hc
        refine lv_aload_n hx hb d_M_pack_74 rfl (lv_at hl 0 rfl) ?_
        refine lv_iconst (v := 2) hx hb d_M_pack_75 (by decide) ?_
        refine lv_iload_n hx hb d_M_pack_76 rfl (lv_at hl 1 rfl) ?_
        refine lv_imul hx hb d_M_pack_77 ?_
        refine gc_v (wn := fun u => [oM a_p0 A_p0 u.1, gz cI (A_p0 15) 256 f_p0_data, gz cI (A_p0 0) 2000 u.2.1, gz cI (A_p0 18) 120 u.2.2.1, gz cI (A_p0 16) 512 f_p0_nibs, gz cI (A_p0 17) 120 u.2.2.2]) (wr := [gz cI (A_p0 15) 256 f_p0_data]) (gr_V (As := [.int (2 * x3)]) (rest := []) ⟨hx, hb, hml, hown, hg⟩ (c_M_codes l dC dI cI a_p0 A_p0 f_p0_nibs I_p0 f_p0_file f_p0_many f_p0_start (2 * x3) hw _) (cwV 1 hg (gg_V t_969 t_971 t_38 t_71 t_972) rfl rfl rfl (by decide +kernel) ⟨Nat.le_of_ble_eq_true rfl, Nat.le_of_ble_eq_true rfl⟩) hK hN hP hD [0, 2, 3, 4, 5] (by decide) rfl 0 10 rfl rfl rfl rfl hl.1 rfl (Nat.le_of_ble_eq_true rfl) d_M_pack_78 ⟨Nat.le_of_ble_eq_true rfl, Nat.le_of_ble_eq_true rfl⟩) rfl rfl hP hD hS hA [0, 2, 3, 4, 5] [1] [1, 0, 2, 3, 4, 5] rfl rfl (by decide) (by decide) (by decide) (fun _ => rfl) ?_
        intro u9 H locs hw hP hD hS
        obtain ⟨I_p0_78, f_p0_file_78, f_p0_many_78, f_p0_start_78⟩ := u9
        try dsimp only at hw
        have hP : va_P (dC, dI) vwCl [oM a_p0 A_p0 I_p0_78, gz cI (A_p0 15) 256 f_p0_data, gz cI (A_p0 0) 2000 f_p0_file_78, gz cI (A_p0 18) 120 f_p0_many_78, gz cI (A_p0 16) 512 f_p0_nibs, gz cI (A_p0 17) 120 f_p0_start_78] H := hP
        have hD : va_D A [oM a_p0 A_p0 I_p0_78, gz cI (A_p0 15) 256 f_p0_data, gz cI (A_p0 0) 2000 f_p0_file_78, gz cI (A_p0 18) 120 f_p0_many_78, gz cI (A_p0 16) 512 f_p0_nibs, gz cI (A_p0 17) 120 f_p0_start_78] := hD
        exact hret _ _ _ _ (I_p0_78, f_p0_file_78, f_p0_many_78, f_p0_nibs, f_p0_start_78) d_M_pack_81 hP hD hS hw
      · have hw := hw.2 hc
        refine lv_aload_n hx hb d_M_pack_28 rfl (lv_at hl 0 rfl) ?_
        refine va_get (D := (dC, dI)) (ci := 10) (v := .ref (A_p0 16)) (C := R_M) (T := T_M) (N := 30) hx hb hg in_M hown hK hP 0 rfl rfl 16 (by decide) (hg _ t_774) (fun _ h9 => h9) rfl d_M_pack_29 ?_
        refine lv_iconst (v := 2) hx hb d_M_pack_32 (by decide) ?_
        refine lv_iload hx hb d_M_pack_33 (lv_at hl 2 rfl) ?_
        refine lv_imul hx hb d_M_pack_35 ?_
        refine lv_aload_n hx hb d_M_pack_36 rfl (lv_at hl 0 rfl) ?_
        refine va_get (D := (dC, dI)) (ci := 10) (v := .ref (A_p0 15)) (C := R_M) (T := T_M) (N := 30) hx hb hg in_M hown hK hP 0 rfl rfl 15 (by decide) (hg _ t_773) (fun _ h9 => h9) rfl d_M_pack_37 ?_
        refine lv_iload hx hb d_M_pack_40 (lv_at hl 2 rfl) ?_
        obtain ⟨hin, hw⟩ := hw
        refine va_iald hx hb hK hP 1 0 rfl rfl hin d_M_pack_42 ?_
        refine lv_bipush (v := 16) hx hb d_M_pack_43 (by decide) ?_
        refine lv_idiv hx hb d_M_pack_45 (by decide) ?_
        obtain ⟨hin, hw⟩ := hw
        refine va_iast hx hb hK hP hD hS 4 0 rfl rfl hin d_M_pack_46 (fun H locs hP hD hS => ?_)
        have hP : va_P (dC, dI) vwCl [oM a_p0 A_p0 I_p0, gz cI (A_p0 15) 256 f_p0_data, gz cI (A_p0 0) 2000 f_p0_file, gz cI (A_p0 18) 120 f_p0_many, gz cI (A_p0 16) 512 (upd f_p0_nibs (2 * x4).toNatClampNeg ((f_p0_data (x4).toNatClampNeg) / 16)), gz cI (A_p0 17) 120 f_p0_start] H := hP
        have hD : va_D A [oM a_p0 A_p0 I_p0, gz cI (A_p0 15) 256 f_p0_data, gz cI (A_p0 0) 2000 f_p0_file, gz cI (A_p0 18) 120 f_p0_many, gz cI (A_p0 16) 512 (upd f_p0_nibs (2 * x4).toNatClampNeg ((f_p0_data (x4).toNatClampNeg) / 16)), gz cI (A_p0 17) 120 f_p0_start] := hD
        refine lv_aload_n hx hb d_M_pack_47 rfl (lv_at hl 0 rfl) ?_
        refine va_get (D := (dC, dI)) (ci := 10) (v := .ref (A_p0 16)) (C := R_M) (T := T_M) (N := 30) hx hb hg in_M hown hK hP 0 rfl rfl 16 (by decide) (hg _ t_774) (fun _ h9 => h9) rfl d_M_pack_48 ?_
        refine lv_iconst (v := 2) hx hb d_M_pack_51 (by decide) ?_
        refine lv_iload hx hb d_M_pack_52 (lv_at hl 2 rfl) ?_
        refine lv_imul hx hb d_M_pack_54 ?_
        refine lv_iconst (v := 1) hx hb d_M_pack_55 (by decide) ?_
        refine lv_iadd hx hb d_M_pack_56 ?_
        refine lv_aload_n hx hb d_M_pack_57 rfl (lv_at hl 0 rfl) ?_
        refine va_get (D := (dC, dI)) (ci := 10) (v := .ref (A_p0 15)) (C := R_M) (T := T_M) (N := 30) hx hb hg in_M hown hK hP 0 rfl rfl 15 (by decide) (hg _ t_773) (fun _ h9 => h9) rfl d_M_pack_58 ?_
        refine lv_iload hx hb d_M_pack_61 (lv_at hl 2 rfl) ?_
        obtain ⟨hin, hw⟩ := hw
        refine va_iald hx hb hK hP 1 0 rfl rfl hin d_M_pack_63 ?_
        refine lv_bipush (v := 16) hx hb d_M_pack_64 (by decide) ?_
        refine lv_irem hx hb d_M_pack_66 (by decide) ?_
        obtain ⟨hin, hw⟩ := hw
        refine va_iast hx hb hK hP hD hS 4 0 rfl rfl hin d_M_pack_67 (fun H locs hP hD hS => ?_)
        have hP : va_P (dC, dI) vwCl [oM a_p0 A_p0 I_p0, gz cI (A_p0 15) 256 f_p0_data, gz cI (A_p0 0) 2000 f_p0_file, gz cI (A_p0 18) 120 f_p0_many, gz cI (A_p0 16) 512 (upd (upd f_p0_nibs (2 * x4).toNatClampNeg ((f_p0_data (x4).toNatClampNeg) / 16)) ((2 * x4) + 1).toNatClampNeg ((f_p0_data (x4).toNatClampNeg) - (f_p0_data (x4).toNatClampNeg) / 16 * 16)), gz cI (A_p0 17) 120 f_p0_start] H := hP
        have hD : va_D A [oM a_p0 A_p0 I_p0, gz cI (A_p0 15) 256 f_p0_data, gz cI (A_p0 0) 2000 f_p0_file, gz cI (A_p0 18) 120 f_p0_many, gz cI (A_p0 16) 512 (upd (upd f_p0_nibs (2 * x4).toNatClampNeg ((f_p0_data (x4).toNatClampNeg) / 16)) ((2 * x4) + 1).toNatClampNeg ((f_p0_data (x4).toNatClampNeg) - (f_p0_data (x4).toNatClampNeg) / 16 * 16)), gz cI (A_p0 17) 120 f_p0_start] := hD
        refine lv_iinc (k := 2) (v := (x4 + 1)) (lv' := [(4, .int (x4 + 1)), (0, .ref a_p0), (3, .int x3)]) hx hb d_M_pack_68 hl rfl (congrArg (fun z => x4 + z) (by decide : Int32.ofInt 1 = 1)) (by decide) rfl (fun ls hl => ?_)
        refine lv_goto hx hb d_M_pack_71 rfl ?_
        exact ih _ _ _ I_p0 f_p0_file f_p0_many (upd (upd f_p0_nibs (2 * x4).toNatClampNeg ((f_p0_data (x4).toNatClampNeg) / 16)) ((2 * x4) + 1).toNatClampNeg ((f_p0_data (x4).toNatClampNeg) - (f_p0_data (x4).toNatClampNeg) / 16 * 16)) f_p0_start x3 (x4 + 1) hP hD hS (lv_sub hl [1, 2, 0] rfl) hw
  intro ls hl hP hD hS
  have hl : lv_has ls 8 [(0, .ref a_p0), (1, .int x1), (2, .int x2)] := hl
  unfold wp_M_pack at hw
  refine lv_iload_n hx hb d_M_pack_0 rfl (lv_at hl 2 rfl) ?_
  refine lv_aload_n hx hb d_M_pack_1 rfl (lv_at hl 0 rfl) ?_
  refine va_get (D := (dC, dI)) (ci := 10) (v := .int (I_p0 3)) (C := R_M) (T := T_M) (N := 30) hx hb hg in_M hown hK hP 0 rfl rfl 3 (by decide) (hg _ t_761) (fun _ h9 => h9) rfl d_M_pack_2 ?_
  refine lv_aload_n hx hb d_M_pack_5 rfl (lv_at hl 0 rfl) ?_
  refine va_get (D := (dC, dI)) (ci := 10) (v := .int (I_p0 5)) (C := R_M) (T := T_M) (N := 30) hx hb hg in_M hown hK hP 0 rfl rfl 5 (by decide) (hg _ t_763) (fun _ h9 => h9) rfl d_M_pack_6 ?_
  refine gc_i (wn := fun (_ : Unit) => [oM a_p0 A_p0 I_p0, gz cI (A_p0 15) 256 f_p0_data, gz cI (A_p0 0) 2000 f_p0_file, gz cI (A_p0 18) 120 f_p0_many, gz cI (A_p0 16) 512 f_p0_nibs, gz cI (A_p0 17) 120 f_p0_start]) (wr := [oM a_p0 A_p0 I_p0, gz cI (A_p0 15) 256 f_p0_data, gz cI (A_p0 0) 2000 f_p0_file, gz cI (A_p0 18) 120 f_p0_many, gz cI (A_p0 16) 512 f_p0_nibs, gz cI (A_p0 17) 120 f_p0_start]) (gr_S (As := [.int (I_p0 3), .int (I_p0 5)]) (rest := [.int x2]) ⟨hx, hb, hml, hown, hg⟩ (c_M_rowBytes l dC dI cI (I_p0 3) (I_p0 5) hw _) (va_cwS 2 hg (gg_S t_962 t_963 t_71 t_964) rfl rfl rfl (by decide +kernel) ⟨Nat.le_of_ble_eq_true rfl, Nat.le_of_ble_eq_true rfl⟩) hK hN hP hD [] (by decide) rfl rfl hl.1 rfl (Nat.le_of_ble_eq_true rfl) d_M_pack_9 ⟨Nat.le_of_ble_eq_true rfl, Nat.le_of_ble_eq_true rfl⟩) rfl rfl hP hD hS hA [] [0, 1, 2, 3, 4, 5] [0, 1, 2, 3, 4, 5] rfl rfl (by decide) (by decide) (by decide) (fun _ => rfl) ?_
  intro r9 _ H locs hw hP hD hS
  try dsimp only at hw
  have hP : va_P (dC, dI) vwCl [oM a_p0 A_p0 I_p0, gz cI (A_p0 15) 256 f_p0_data, gz cI (A_p0 0) 2000 f_p0_file, gz cI (A_p0 18) 120 f_p0_many, gz cI (A_p0 16) 512 f_p0_nibs, gz cI (A_p0 17) 120 f_p0_start] H := hP
  have hD : va_D A [oM a_p0 A_p0 I_p0, gz cI (A_p0 15) 256 f_p0_data, gz cI (A_p0 0) 2000 f_p0_file, gz cI (A_p0 18) 120 f_p0_many, gz cI (A_p0 16) 512 f_p0_nibs, gz cI (A_p0 17) 120 f_p0_start] := hD
  refine lv_imul hx hb d_M_pack_12 ?_
  refine lv_istore_n (lv' := [(3, .int (x2 * r9)), (0, .ref a_p0), (1, .int x1), (2, .int x2)]) hx hb d_M_pack_13 rfl hl (by decide) rfl (fun ls hl => ?_)
  refine lv_iload_n hx hb d_M_pack_14 rfl (lv_at hl 2 rfl) ?_
  refine lv_iconst (v := 5) hx hb d_M_pack_15 (by decide) ?_
  refine lv_icmp_ne hx hb d_M_pack_16 rfl (fun hc => ?_) (fun hc => ?_)
  · have hw := hw.2 hc
    refine lv_iconst (v := 0) hx hb d_M_pack_82 (by decide) ?_
    refine lv_istore (lv' := [(4, .int 0), (3, .int (x2 * r9)), (0, .ref a_p0), (1, .int x1), (2, .int x2)]) hx hb d_M_pack_83 hl (by decide) rfl (fun ls hl => ?_)
    obtain ⟨n1, hw⟩ := hw
    exact l85 n1 _ _ _ I_p0 f_p0_file f_p0_many f_p0_nibs f_p0_start x1 x2 0 hP hD hS (lv_sub hl [2, 3, 4, 0] rfl) hw
  · have hw := hw.1 hc
    refine lv_iconst (v := 0) hx hb d_M_pack_19 (by decide) ?_
    refine lv_istore (lv' := [(4, .int 0), (3, .int (x2 * r9)), (0, .ref a_p0), (1, .int x1), (2, .int x2)]) hx hb d_M_pack_20 hl (by decide) rfl (fun ls hl => ?_)
    obtain ⟨n1, hw⟩ := hw
    exact l22 n1 _ _ _ I_p0 f_p0_file f_p0_many f_p0_nibs f_p0_start (x2 * r9) 0 hP hD hS (lv_sub hl [2, 1, 0] rfl) hw
theorem d_M_lay_0 : decode b_M_lay 0 = .ok (.iconst 0, 1) := by decide +kernel
theorem d_M_lay_1 : decode b_M_lay 1 = .ok (.istore 5, 2) := by decide +kernel
theorem d_M_lay_3 : decode b_M_lay 3 = .ok (.iload 5, 2) := by decide +kernel
theorem d_M_lay_5 : decode b_M_lay 5 = .ok (.iload 4, 2) := by decide +kernel
theorem d_M_lay_7 : decode b_M_lay 7 = .ok (.if_icmp .ge 94, 3) := by decide +kernel
theorem d_M_lay_10 : decode b_M_lay 10 = .ok (.aload_n 0, 1) := by decide +kernel
theorem d_M_lay_11 : decode b_M_lay 11 = .ok (.getfield 17, 3) := by decide +kernel
theorem d_M_lay_14 : decode b_M_lay 14 = .ok (.iload 5, 2) := by decide +kernel
theorem d_M_lay_16 : decode b_M_lay 16 = .ok (.iload_n 2, 1) := by decide +kernel
theorem d_M_lay_17 : decode b_M_lay 17 = .ok (.imul, 1) := by decide +kernel
theorem d_M_lay_18 : decode b_M_lay 18 = .ok (.iload_n 2, 1) := by decide +kernel
theorem d_M_lay_19 : decode b_M_lay 19 = .ok (.iadd, 1) := by decide +kernel
theorem d_M_lay_20 : decode b_M_lay 20 = .ok (.if_icmp .ge 10, 3) := by decide +kernel
theorem d_M_lay_23 : decode b_M_lay 23 = .ok (.aload_n 0, 1) := by decide +kernel
theorem d_M_lay_24 : decode b_M_lay 24 = .ok (.getfield 17, 3) := by decide +kernel
theorem d_M_lay_27 : decode b_M_lay 27 = .ok (.goto 9, 3) := by decide +kernel
theorem d_M_lay_30 : decode b_M_lay 30 = .ok (.iload 5, 2) := by decide +kernel
theorem d_M_lay_32 : decode b_M_lay 32 = .ok (.iload_n 2, 1) := by decide +kernel
theorem d_M_lay_33 : decode b_M_lay 33 = .ok (.imul, 1) := by decide +kernel
theorem d_M_lay_34 : decode b_M_lay 34 = .ok (.iload_n 2, 1) := by decide +kernel
theorem d_M_lay_35 : decode b_M_lay 35 = .ok (.iadd, 1) := by decide +kernel
theorem d_M_lay_36 : decode b_M_lay 36 = .ok (.istore 6, 2) := by decide +kernel
theorem d_M_lay_38 : decode b_M_lay 38 = .ok (.aload_n 0, 1) := by decide +kernel
theorem d_M_lay_39 : decode b_M_lay 39 = .ok (.invokevirtual 175, 3) := by decide +kernel
theorem d_M_lay_42 : decode b_M_lay 42 = .ok (.aload_n 0, 1) := by decide +kernel
theorem d_M_lay_43 : decode b_M_lay 43 = .ok (.getfield 50, 3) := by decide +kernel
theorem d_M_lay_46 : decode b_M_lay 46 = .ok (.iload 5, 2) := by decide +kernel
theorem d_M_lay_48 : decode b_M_lay 48 = .ok (.aload_n 0, 1) := by decide +kernel
theorem d_M_lay_49 : decode b_M_lay 49 = .ok (.getfield 121, 3) := by decide +kernel
theorem d_M_lay_52 : decode b_M_lay 52 = .ok (.iastore, 1) := by decide +kernel
theorem d_M_lay_53 : decode b_M_lay 53 = .ok (.aload_n 0, 1) := by decide +kernel
theorem d_M_lay_54 : decode b_M_lay 54 = .ok (.iload 5, 2) := by decide +kernel
theorem d_M_lay_56 : decode b_M_lay 56 = .ok (.iload_n 2, 1) := by decide +kernel
theorem d_M_lay_57 : decode b_M_lay 57 = .ok (.imul, 1) := by decide +kernel
theorem d_M_lay_58 : decode b_M_lay 58 = .ok (.iload 6, 2) := by decide +kernel
theorem d_M_lay_60 : decode b_M_lay 60 = .ok (.iload_n 3, 1) := by decide +kernel
theorem d_M_lay_61 : decode b_M_lay 61 = .ok (.invokevirtual 178, 3) := by decide +kernel
theorem d_M_lay_64 : decode b_M_lay 64 = .ok (.aload_n 0, 1) := by decide +kernel
theorem d_M_lay_65 : decode b_M_lay 65 = .ok (.iload_n 1, 1) := by decide +kernel
theorem d_M_lay_66 : decode b_M_lay 66 = .ok (.iload 6, 2) := by decide +kernel
theorem d_M_lay_68 : decode b_M_lay 68 = .ok (.iload 5, 2) := by decide +kernel
theorem d_M_lay_70 : decode b_M_lay 70 = .ok (.iload_n 2, 1) := by decide +kernel
theorem d_M_lay_71 : decode b_M_lay 71 = .ok (.imul, 1) := by decide +kernel
theorem d_M_lay_72 : decode b_M_lay 72 = .ok (.isub, 1) := by decide +kernel
theorem d_M_lay_73 : decode b_M_lay 73 = .ok (.invokevirtual 181, 3) := by decide +kernel
theorem d_M_lay_76 : decode b_M_lay 76 = .ok (.aload_n 0, 1) := by decide +kernel
theorem d_M_lay_77 : decode b_M_lay 77 = .ok (.getfield 53, 3) := by decide +kernel
theorem d_M_lay_80 : decode b_M_lay 80 = .ok (.iload 5, 2) := by decide +kernel
theorem d_M_lay_82 : decode b_M_lay 82 = .ok (.aload_n 0, 1) := by decide +kernel
theorem d_M_lay_83 : decode b_M_lay 83 = .ok (.getfield 121, 3) := by decide +kernel
theorem d_M_lay_86 : decode b_M_lay 86 = .ok (.aload_n 0, 1) := by decide +kernel
theorem d_M_lay_87 : decode b_M_lay 87 = .ok (.getfield 50, 3) := by decide +kernel
theorem d_M_lay_90 : decode b_M_lay 90 = .ok (.iload 5, 2) := by decide +kernel
theorem d_M_lay_92 : decode b_M_lay 92 = .ok (.iaload, 1) := by decide +kernel
theorem d_M_lay_93 : decode b_M_lay 93 = .ok (.isub, 1) := by decide +kernel
theorem d_M_lay_94 : decode b_M_lay 94 = .ok (.iastore, 1) := by decide +kernel
theorem d_M_lay_95 : decode b_M_lay 95 = .ok (.iinc 5 1, 3) := by decide +kernel
theorem d_M_lay_98 : decode b_M_lay 98 = .ok (.goto (-95), 3) := by decide +kernel
theorem d_M_lay_101 : decode b_M_lay 101 = .ok (.return_, 1) := by decide +kernel
def wp_M_lay_b36 (post : (Nat → Int32) → (Nat → Int32) → (Nat → Int32) → (Nat → Int32) → (Nat → Int32) → (Nat → Int32) → (Nat → Int32) → (Nat → Int32) → Prop) (k3 : (Nat → Int32) → (Nat → Int32) → (Nat → Int32) → (Nat → Int32) → (Nat → Int32) → (Nat → Int32) → (Nat → Int32) → (Nat → Int32) → Int32 → Int32 → Int32 → Int32 → Int32 → Prop) (f_p0_samples : Nat → Int32) (I_p0 : Nat → Int32) (f_p0_data : Nat → Int32) (f_p0_file : Nat → Int32) (f_p0_many : Nat → Int32) (f_p0_nibs : Nat → Int32) (f_p0_places : Nat → Int32) (f_p0_sizes : Nat → Int32) (f_p0_start : Nat → Int32) (x1 : Int32) (x2 : Int32) (x3 : Int32) (x4 : Int32) (x5 : Int32) (s0 : Int32) : Prop :=
  wp_M_even (fun (I_p0_39 : Nat → Int32) (f_p0_file_39 : Nat → Int32) =>
    vp_in x5 16 ∧
    wp_M_gather (fun (f_p0_data_61 : Nat → Int32) =>
      wp_M_pack (fun (I_p0_73 : Nat → Int32) (f_p0_file_73 : Nat → Int32) (f_p0_many_73 : Nat → Int32) (f_p0_nibs_73 : Nat → Int32) (f_p0_start_73 : Nat → Int32) =>
        vp_in x5 16 ∧
        vp_in x5 16 ∧
        k3 I_p0_73 f_p0_data_61 f_p0_file_73 f_p0_many_73 f_p0_nibs_73 (upd f_p0_places (x5).toNatClampNeg (I_p0_39 2)) (upd f_p0_sizes (x5).toNatClampNeg ((I_p0_73 2) - ((upd f_p0_places (x5).toNatClampNeg (I_p0_39 2)) (x5).toNatClampNeg))) f_p0_start_73 x1 x2 x3 x4 (x5 + 1)) f_p0_data_61 I_p0_39 f_p0_file_39 f_p0_many f_p0_nibs f_p0_start x1 (s0 - (x5 * x2))) I_p0_39 f_p0_samples f_p0_data (x5 * x2) s0 x3) I_p0 f_p0_file
def wp_M_lay_l3 (post : (Nat → Int32) → (Nat → Int32) → (Nat → Int32) → (Nat → Int32) → (Nat → Int32) → (Nat → Int32) → (Nat → Int32) → (Nat → Int32) → Prop) (f_p0_samples : Nat → Int32) : Nat → (Nat → Int32) → (Nat → Int32) → (Nat → Int32) → (Nat → Int32) → (Nat → Int32) → (Nat → Int32) → (Nat → Int32) → (Nat → Int32) → Int32 → Int32 → Int32 → Int32 → Int32 → Prop
  | 0, _, _, _, _, _, _, _, _, _, _, _, _, _ => False
  | n + 1, I_p0, f_p0_data, f_p0_file, f_p0_many, f_p0_nibs, f_p0_places, f_p0_sizes, f_p0_start, x1, x2, x3, x4, x5 =>
    ((x4 ≤ x5 →
      post I_p0 f_p0_data f_p0_file f_p0_many f_p0_nibs f_p0_places f_p0_sizes f_p0_start) ∧
     (¬ x4 ≤ x5 →
      ((((x5 * x2) + x2) ≤ (I_p0 4) →
        wp_M_lay_b36 post (wp_M_lay_l3 post f_p0_samples n) f_p0_samples I_p0 f_p0_data f_p0_file f_p0_many f_p0_nibs f_p0_places f_p0_sizes f_p0_start x1 x2 x3 x4 x5 ((x5 * x2) + x2)) ∧
       (¬ ((x5 * x2) + x2) ≤ (I_p0 4) →
        wp_M_lay_b36 post (wp_M_lay_l3 post f_p0_samples n) f_p0_samples I_p0 f_p0_data f_p0_file f_p0_many f_p0_nibs f_p0_places f_p0_sizes f_p0_start x1 x2 x3 x4 x5 (I_p0 4)))))
def wp_M_lay (post : (Nat → Int32) → (Nat → Int32) → (Nat → Int32) → (Nat → Int32) → (Nat → Int32) → (Nat → Int32) → (Nat → Int32) → (Nat → Int32) → Prop) (f_p0_samples : Nat → Int32) (I_p0 : Nat → Int32) (f_p0_data : Nat → Int32) (f_p0_file : Nat → Int32) (f_p0_many : Nat → Int32) (f_p0_nibs : Nat → Int32) (f_p0_places : Nat → Int32) (f_p0_sizes : Nat → Int32) (f_p0_start : Nat → Int32) (x1 : Int32) (x2 : Int32) (x3 : Int32) (x4 : Int32) : Prop :=
  (∃ n1 : Nat, wp_M_lay_l3 post f_p0_samples n1 I_p0 f_p0_data f_p0_file f_p0_many f_p0_nibs f_p0_places f_p0_sizes f_p0_start x1 x2 x3 x4 0)
set_option maxRecDepth 100000 in
set_option maxHeartbeats 4000000 in
theorem c_M_lay (l : Launch) (dC : Nat → ClassId) (dI : Nat → Nat → Nat) (cI : ClassId) (a_p0 : Nat) (A_p0 : Nat → Nat) (f_p0_samples : Nat → Int32) (I_p0 : Nat → Int32) (f_p0_data : Nat → Int32) (f_p0_file : Nat → Int32) (f_p0_many : Nat → Int32) (f_p0_nibs : Nat → Int32) (f_p0_places : Nat → Int32) (f_p0_sizes : Nat → Int32) (f_p0_start : Nat → Int32) (x1 : Int32) (x2 : Int32) (x3 : Int32) (x4 : Int32) {post : (Nat → Int32) → (Nat → Int32) → (Nat → Int32) → (Nat → Int32) → (Nat → Int32) → (Nat → Int32) → (Nat → Int32) → (Nat → Int32) → Prop} (hw : wp_M_lay post f_p0_samples I_p0 f_p0_data f_p0_file f_p0_many f_p0_nibs f_p0_places f_p0_sizes f_p0_start x1 x2 x3 x4) : gm_v l y_M_lay ws_M_lay ({ frames := 4, cells := 0, slots := 0, locals := 99 } : Room) (dC, dI) vwCl [(cI, .int)] [.ref a_p0, .int x1, .int x2, .int x3, .int x4] [oM a_p0 A_p0 I_p0, gz cI (A_p0 15) 256 f_p0_data, gz cI (A_p0 0) 2000 f_p0_file, gz cI (A_p0 18) 120 f_p0_many, gz cI (A_p0 16) 512 f_p0_nibs, gz cI (A_p0 21) 16 f_p0_places, gz cI (A_p0 6) 256 f_p0_samples, gz cI (A_p0 22) 16 f_p0_sizes, gz cI (A_p0 17) 120 f_p0_start] (fun (u : (Nat → Int32) × (Nat → Int32) × (Nat → Int32) × (Nat → Int32) × (Nat → Int32) × (Nat → Int32) × (Nat → Int32) × (Nat → Int32)) => [oM a_p0 A_p0 u.1, gz cI (A_p0 15) 256 u.2.1, gz cI (A_p0 0) 2000 u.2.2.1, gz cI (A_p0 18) 120 u.2.2.2.1, gz cI (A_p0 16) 512 u.2.2.2.2.1, gz cI (A_p0 21) 16 u.2.2.2.2.2.1, gz cI (A_p0 6) 256 f_p0_samples, gz cI (A_p0 22) 16 u.2.2.2.2.2.2.1, gz cI (A_p0 17) 120 u.2.2.2.2.2.2.2]) (fun (u : (Nat → Int32) × (Nat → Int32) × (Nat → Int32) × (Nat → Int32) × (Nat → Int32) × (Nat → Int32) × (Nat → Int32) × (Nat → Int32)) => post  u.1 u.2.1 u.2.2.1 u.2.2.2.1 u.2.2.2.2.1 u.2.2.2.2.2.1 u.2.2.2.2.2.2.1 u.2.2.2.2.2.2.2) := by
  refine gm_vof (cc := b_M_lay) (maxL := 7) (by decide) rfl (Nat.le_of_ble_eq_true rfl) ?_
  intro p e s m args below meth c A Q hx hb hml hown hg hK hN hA hnm hret
  have hown : s.vm.findClass R_M = some m.cls := hown
  have b36 : ∀ (k3 : (Nat → Int32) → (Nat → Int32) → (Nat → Int32) → (Nat → Int32) → (Nat → Int32) → (Nat → Int32) → (Nat → Int32) → (Nat → Int32) → Int32 → Int32 → Int32 → Int32 → Int32 → Prop), (∀ (H : Heap) (locs : List Loc) (ls : Array Slot) (I_p0 : Nat → Int32) (f_p0_data : Nat → Int32) (f_p0_file : Nat → Int32) (f_p0_many : Nat → Int32) (f_p0_nibs : Nat → Int32) (f_p0_places : Nat → Int32) (f_p0_sizes : Nat → Int32) (f_p0_start : Nat → Int32) (x1 : Int32) (x2 : Int32) (x3 : Int32) (x4 : Int32) (x5 : Int32), va_P (dC, dI) vwCl [oM a_p0 A_p0 I_p0, gz cI (A_p0 15) 256 f_p0_data, gz cI (A_p0 0) 2000 f_p0_file, gz cI (A_p0 18) 120 f_p0_many, gz cI (A_p0 16) 512 f_p0_nibs, gz cI (A_p0 21) 16 f_p0_places, gz cI (A_p0 6) 256 f_p0_samples, gz cI (A_p0 22) 16 f_p0_sizes, gz cI (A_p0 17) 120 f_p0_start] H → va_D A [oM a_p0 A_p0 I_p0, gz cI (A_p0 15) 256 f_p0_data, gz cI (A_p0 0) 2000 f_p0_file, gz cI (A_p0 18) 120 f_p0_many, gz cI (A_p0 16) 512 f_p0_nibs, gz cI (A_p0 21) 16 f_p0_places, gz cI (A_p0 6) 256 f_p0_samples, gz cI (A_p0 22) 16 f_p0_sizes, gz cI (A_p0 17) 120 f_p0_start] → va_S A s.heap H locs → lv_has ls 7 [(0, .ref a_p0), (1, .int x1), (2, .int x2), (3, .int x3), (4, .int x4), (5, .int x5)] → k3 I_p0 f_p0_data f_p0_file f_p0_many f_p0_nibs f_p0_places f_p0_sizes f_p0_start x1 x2 x3 x4 x5 → W p l e ({ frames := 4, cells := 0, slots := 0, locals := 99 } : Room) s m args below meth c H locs 0 0 Q (F0 m 3 ls [])) → ∀ (H : Heap) (locs : List Loc) (ls : Array Slot) (I_p0 : Nat → Int32) (f_p0_data : Nat → Int32) (f_p0_file : Nat → Int32) (f_p0_many : Nat → Int32) (f_p0_nibs : Nat → Int32) (f_p0_places : Nat → Int32) (f_p0_sizes : Nat → Int32) (f_p0_start : Nat → Int32) (x1 : Int32) (x2 : Int32) (x3 : Int32) (x4 : Int32) (x5 : Int32) (s0 : Int32), va_P (dC, dI) vwCl [oM a_p0 A_p0 I_p0, gz cI (A_p0 15) 256 f_p0_data, gz cI (A_p0 0) 2000 f_p0_file, gz cI (A_p0 18) 120 f_p0_many, gz cI (A_p0 16) 512 f_p0_nibs, gz cI (A_p0 21) 16 f_p0_places, gz cI (A_p0 6) 256 f_p0_samples, gz cI (A_p0 22) 16 f_p0_sizes, gz cI (A_p0 17) 120 f_p0_start] H → va_D A [oM a_p0 A_p0 I_p0, gz cI (A_p0 15) 256 f_p0_data, gz cI (A_p0 0) 2000 f_p0_file, gz cI (A_p0 18) 120 f_p0_many, gz cI (A_p0 16) 512 f_p0_nibs, gz cI (A_p0 21) 16 f_p0_places, gz cI (A_p0 6) 256 f_p0_samples, gz cI (A_p0 22) 16 f_p0_sizes, gz cI (A_p0 17) 120 f_p0_start] → va_S A s.heap H locs → lv_has ls 7 [(0, .ref a_p0), (1, .int x1), (2, .int x2), (3, .int x3), (4, .int x4), (5, .int x5)] → wp_M_lay_b36 post k3 f_p0_samples I_p0 f_p0_data f_p0_file f_p0_many f_p0_nibs f_p0_places f_p0_sizes f_p0_start x1 x2 x3 x4 x5 s0 → W p l e ({ frames := 4, cells := 0, slots := 0, locals := 99 } : Room) s m args below meth c H locs 0 0 Q (F0 m 36 ls [.int s0]) := by
    intro k3 hk3 H locs ls I_p0 f_p0_data f_p0_file f_p0_many f_p0_nibs f_p0_places f_p0_sizes f_p0_start x1 x2 x3 x4 x5 s0 hP hD hS hl hw
    unfold wp_M_lay_b36 at hw
    refine lv_istore (lv' := [(6, .int s0), (0, .ref a_p0), (1, .int x1), (2, .int x2), (3, .int x3), (4, .int x4), (5, .int x5)]) hx hb d_M_lay_36 hl (by decide) rfl (fun ls hl => ?_)
    refine lv_aload_n hx hb d_M_lay_38 rfl (lv_at hl 1 rfl) ?_
    refine gc_v (wn := fun u => [oM a_p0 A_p0 u.1, gz cI (A_p0 15) 256 f_p0_data, gz cI (A_p0 0) 2000 u.2, gz cI (A_p0 18) 120 f_p0_many, gz cI (A_p0 16) 512 f_p0_nibs, gz cI (A_p0 21) 16 f_p0_places, gz cI (A_p0 6) 256 f_p0_samples, gz cI (A_p0 22) 16 f_p0_sizes, gz cI (A_p0 17) 120 f_p0_start]) (wr := [gz cI (A_p0 15) 256 f_p0_data, gz cI (A_p0 18) 120 f_p0_many, gz cI (A_p0 16) 512 f_p0_nibs, gz cI (A_p0 21) 16 f_p0_places, gz cI (A_p0 6) 256 f_p0_samples, gz cI (A_p0 22) 16 f_p0_sizes, gz cI (A_p0 17) 120 f_p0_start]) (gr_V (As := []) (rest := []) ⟨hx, hb, hml, hown, hg⟩ (c_M_even l dC dI cI a_p0 A_p0 I_p0 f_p0_file hw _) (cwV 0 hg (gg_V t_950 t_952 t_34 t_71 t_953) rfl rfl rfl (by decide +kernel) ⟨Nat.le_of_ble_eq_true rfl, Nat.le_of_ble_eq_true rfl⟩) hK hN hP hD [0, 2] (by decide) rfl 0 10 rfl rfl rfl rfl hl.1 rfl (Nat.le_of_ble_eq_true rfl) d_M_lay_39 ⟨Nat.le_of_ble_eq_true rfl, Nat.le_of_ble_eq_true rfl⟩) rfl rfl hP hD hS hA [0, 2] [1, 3, 4, 5, 6, 7, 8] [7, 0, 8, 1, 2, 3, 4, 5, 6] rfl rfl (by decide) (by decide) (by decide) (fun _ => rfl) ?_
    intro u9 H locs hw hP hD hS
    obtain ⟨I_p0_39, f_p0_file_39⟩ := u9
    try dsimp only at hw
    have hP : va_P (dC, dI) vwCl [oM a_p0 A_p0 I_p0_39, gz cI (A_p0 15) 256 f_p0_data, gz cI (A_p0 0) 2000 f_p0_file_39, gz cI (A_p0 18) 120 f_p0_many, gz cI (A_p0 16) 512 f_p0_nibs, gz cI (A_p0 21) 16 f_p0_places, gz cI (A_p0 6) 256 f_p0_samples, gz cI (A_p0 22) 16 f_p0_sizes, gz cI (A_p0 17) 120 f_p0_start] H := hP
    have hD : va_D A [oM a_p0 A_p0 I_p0_39, gz cI (A_p0 15) 256 f_p0_data, gz cI (A_p0 0) 2000 f_p0_file_39, gz cI (A_p0 18) 120 f_p0_many, gz cI (A_p0 16) 512 f_p0_nibs, gz cI (A_p0 21) 16 f_p0_places, gz cI (A_p0 6) 256 f_p0_samples, gz cI (A_p0 22) 16 f_p0_sizes, gz cI (A_p0 17) 120 f_p0_start] := hD
    refine lv_aload_n hx hb d_M_lay_42 rfl (lv_at hl 1 rfl) ?_
    refine va_get (D := (dC, dI)) (ci := 10) (v := .ref (A_p0 21)) (C := R_M) (T := T_M) (N := 30) hx hb hg in_M hown hK hP 0 rfl rfl 21 (by decide) (hg _ t_779) (fun _ h9 => h9) rfl d_M_lay_43 ?_
    refine lv_iload hx hb d_M_lay_46 (lv_at hl 6 rfl) ?_
    refine lv_aload_n hx hb d_M_lay_48 rfl (lv_at hl 1 rfl) ?_
    refine va_get (D := (dC, dI)) (ci := 10) (v := .int (I_p0_39 2)) (C := R_M) (T := T_M) (N := 30) hx hb hg in_M hown hK hP 0 rfl rfl 2 (by decide) (hg _ t_760) (fun _ h9 => h9) rfl d_M_lay_49 ?_
    obtain ⟨hin, hw⟩ := hw
    refine va_iast hx hb hK hP hD hS 5 0 rfl rfl hin d_M_lay_52 (fun H locs hP hD hS => ?_)
    have hP : va_P (dC, dI) vwCl [oM a_p0 A_p0 I_p0_39, gz cI (A_p0 15) 256 f_p0_data, gz cI (A_p0 0) 2000 f_p0_file_39, gz cI (A_p0 18) 120 f_p0_many, gz cI (A_p0 16) 512 f_p0_nibs, gz cI (A_p0 21) 16 (upd f_p0_places (x5).toNatClampNeg (I_p0_39 2)), gz cI (A_p0 6) 256 f_p0_samples, gz cI (A_p0 22) 16 f_p0_sizes, gz cI (A_p0 17) 120 f_p0_start] H := hP
    have hD : va_D A [oM a_p0 A_p0 I_p0_39, gz cI (A_p0 15) 256 f_p0_data, gz cI (A_p0 0) 2000 f_p0_file_39, gz cI (A_p0 18) 120 f_p0_many, gz cI (A_p0 16) 512 f_p0_nibs, gz cI (A_p0 21) 16 (upd f_p0_places (x5).toNatClampNeg (I_p0_39 2)), gz cI (A_p0 6) 256 f_p0_samples, gz cI (A_p0 22) 16 f_p0_sizes, gz cI (A_p0 17) 120 f_p0_start] := hD
    refine lv_aload_n hx hb d_M_lay_53 rfl (lv_at hl 1 rfl) ?_
    refine lv_iload hx hb d_M_lay_54 (lv_at hl 6 rfl) ?_
    refine lv_iload_n hx hb d_M_lay_56 rfl (lv_at hl 3 rfl) ?_
    refine lv_imul hx hb d_M_lay_57 ?_
    refine lv_iload hx hb d_M_lay_58 (lv_at hl 0 rfl) ?_
    refine lv_iload_n hx hb d_M_lay_60 rfl (lv_at hl 4 rfl) ?_
    refine gc_v (wn := fun u => [oM a_p0 A_p0 I_p0_39, gz cI (A_p0 15) 256 u, gz cI (A_p0 0) 2000 f_p0_file_39, gz cI (A_p0 18) 120 f_p0_many, gz cI (A_p0 16) 512 f_p0_nibs, gz cI (A_p0 21) 16 (upd f_p0_places (x5).toNatClampNeg (I_p0_39 2)), gz cI (A_p0 6) 256 f_p0_samples, gz cI (A_p0 22) 16 f_p0_sizes, gz cI (A_p0 17) 120 f_p0_start]) (wr := [gz cI (A_p0 0) 2000 f_p0_file_39, gz cI (A_p0 18) 120 f_p0_many, gz cI (A_p0 16) 512 f_p0_nibs, gz cI (A_p0 21) 16 (upd f_p0_places (x5).toNatClampNeg (I_p0_39 2)), gz cI (A_p0 22) 16 f_p0_sizes, gz cI (A_p0 17) 120 f_p0_start]) (gr_V (As := [.int (x5 * x2), .int s0, .int x3]) (rest := []) ⟨hx, hb, hml, hown, hg⟩ (c_M_gather l dC dI cI a_p0 A_p0 I_p0_39 f_p0_samples f_p0_data (x5 * x2) s0 x3 hw _) (cwV 3 hg (gg_V t_958 t_960 t_36 t_71 t_961) rfl rfl rfl (by decide +kernel) ⟨Nat.le_of_ble_eq_true rfl, Nat.le_of_ble_eq_true rfl⟩) hK hN hP hD [0, 1, 6] (by decide) rfl 0 10 rfl rfl rfl rfl hl.1 rfl (Nat.le_of_ble_eq_true rfl) d_M_lay_61 ⟨Nat.le_of_ble_eq_true rfl, Nat.le_of_ble_eq_true rfl⟩) rfl rfl hP hD hS hA [0, 1, 6] [2, 3, 4, 5, 7, 8] [6, 7, 0, 1, 2, 3, 8, 4, 5] rfl rfl (by decide) (by decide) (by decide) (fun _ => rfl) ?_
    intro f_p0_data_61 H locs hw hP hD hS
    try dsimp only at hw
    have hP : va_P (dC, dI) vwCl [oM a_p0 A_p0 I_p0_39, gz cI (A_p0 15) 256 f_p0_data_61, gz cI (A_p0 0) 2000 f_p0_file_39, gz cI (A_p0 18) 120 f_p0_many, gz cI (A_p0 16) 512 f_p0_nibs, gz cI (A_p0 21) 16 (upd f_p0_places (x5).toNatClampNeg (I_p0_39 2)), gz cI (A_p0 6) 256 f_p0_samples, gz cI (A_p0 22) 16 f_p0_sizes, gz cI (A_p0 17) 120 f_p0_start] H := hP
    have hD : va_D A [oM a_p0 A_p0 I_p0_39, gz cI (A_p0 15) 256 f_p0_data_61, gz cI (A_p0 0) 2000 f_p0_file_39, gz cI (A_p0 18) 120 f_p0_many, gz cI (A_p0 16) 512 f_p0_nibs, gz cI (A_p0 21) 16 (upd f_p0_places (x5).toNatClampNeg (I_p0_39 2)), gz cI (A_p0 6) 256 f_p0_samples, gz cI (A_p0 22) 16 f_p0_sizes, gz cI (A_p0 17) 120 f_p0_start] := hD
    refine lv_aload_n hx hb d_M_lay_64 rfl (lv_at hl 1 rfl) ?_
    refine lv_iload_n hx hb d_M_lay_65 rfl (lv_at hl 2 rfl) ?_
    refine lv_iload hx hb d_M_lay_66 (lv_at hl 0 rfl) ?_
    refine lv_iload hx hb d_M_lay_68 (lv_at hl 6 rfl) ?_
    refine lv_iload_n hx hb d_M_lay_70 rfl (lv_at hl 3 rfl) ?_
    refine lv_imul hx hb d_M_lay_71 ?_
    refine lv_isub hx hb d_M_lay_72 ?_
    refine gc_v (wn := fun u => [oM a_p0 A_p0 u.1, gz cI (A_p0 15) 256 f_p0_data_61, gz cI (A_p0 0) 2000 u.2.1, gz cI (A_p0 18) 120 u.2.2.1, gz cI (A_p0 16) 512 u.2.2.2.1, gz cI (A_p0 21) 16 (upd f_p0_places (x5).toNatClampNeg (I_p0_39 2)), gz cI (A_p0 6) 256 f_p0_samples, gz cI (A_p0 22) 16 f_p0_sizes, gz cI (A_p0 17) 120 u.2.2.2.2]) (wr := [gz cI (A_p0 21) 16 (upd f_p0_places (x5).toNatClampNeg (I_p0_39 2)), gz cI (A_p0 6) 256 f_p0_samples, gz cI (A_p0 22) 16 f_p0_sizes]) (gr_V (As := [.int x1, .int (s0 - (x5 * x2))]) (rest := []) ⟨hx, hb, hml, hown, hg⟩ (c_M_pack l dC dI cI a_p0 A_p0 f_p0_data_61 I_p0_39 f_p0_file_39 f_p0_many f_p0_nibs f_p0_start x1 (s0 - (x5 * x2)) hw _) (cwV 2 hg (gg_V t_965 t_967 t_37 t_71 t_968) rfl rfl rfl (by decide +kernel) ⟨Nat.le_of_ble_eq_true rfl, Nat.le_of_ble_eq_true rfl⟩) hK hN hP hD [0, 1, 2, 3, 4, 8] (by decide) rfl 0 10 rfl rfl rfl rfl hl.1 rfl (Nat.le_of_ble_eq_true rfl) d_M_lay_73 ⟨Nat.le_of_ble_eq_true rfl, Nat.le_of_ble_eq_true rfl⟩) rfl rfl hP hD hS hA [0, 1, 2, 3, 4, 8] [5, 6, 7] [3, 4, 5, 6, 7, 0, 1, 2, 8] rfl rfl (by decide) (by decide) (by decide) (fun _ => rfl) ?_
    intro u9 H locs hw hP hD hS
    obtain ⟨I_p0_73, f_p0_file_73, f_p0_many_73, f_p0_nibs_73, f_p0_start_73⟩ := u9
    try dsimp only at hw
    have hP : va_P (dC, dI) vwCl [oM a_p0 A_p0 I_p0_73, gz cI (A_p0 15) 256 f_p0_data_61, gz cI (A_p0 0) 2000 f_p0_file_73, gz cI (A_p0 18) 120 f_p0_many_73, gz cI (A_p0 16) 512 f_p0_nibs_73, gz cI (A_p0 21) 16 (upd f_p0_places (x5).toNatClampNeg (I_p0_39 2)), gz cI (A_p0 6) 256 f_p0_samples, gz cI (A_p0 22) 16 f_p0_sizes, gz cI (A_p0 17) 120 f_p0_start_73] H := hP
    have hD : va_D A [oM a_p0 A_p0 I_p0_73, gz cI (A_p0 15) 256 f_p0_data_61, gz cI (A_p0 0) 2000 f_p0_file_73, gz cI (A_p0 18) 120 f_p0_many_73, gz cI (A_p0 16) 512 f_p0_nibs_73, gz cI (A_p0 21) 16 (upd f_p0_places (x5).toNatClampNeg (I_p0_39 2)), gz cI (A_p0 6) 256 f_p0_samples, gz cI (A_p0 22) 16 f_p0_sizes, gz cI (A_p0 17) 120 f_p0_start_73] := hD
    refine lv_aload_n hx hb d_M_lay_76 rfl (lv_at hl 1 rfl) ?_
    refine va_get (D := (dC, dI)) (ci := 10) (v := .ref (A_p0 22)) (C := R_M) (T := T_M) (N := 30) hx hb hg in_M hown hK hP 0 rfl rfl 22 (by decide) (hg _ t_780) (fun _ h9 => h9) rfl d_M_lay_77 ?_
    refine lv_iload hx hb d_M_lay_80 (lv_at hl 6 rfl) ?_
    refine lv_aload_n hx hb d_M_lay_82 rfl (lv_at hl 1 rfl) ?_
    refine va_get (D := (dC, dI)) (ci := 10) (v := .int (I_p0_73 2)) (C := R_M) (T := T_M) (N := 30) hx hb hg in_M hown hK hP 0 rfl rfl 2 (by decide) (hg _ t_760) (fun _ h9 => h9) rfl d_M_lay_83 ?_
    refine lv_aload_n hx hb d_M_lay_86 rfl (lv_at hl 1 rfl) ?_
    refine va_get (D := (dC, dI)) (ci := 10) (v := .ref (A_p0 21)) (C := R_M) (T := T_M) (N := 30) hx hb hg in_M hown hK hP 0 rfl rfl 21 (by decide) (hg _ t_779) (fun _ h9 => h9) rfl d_M_lay_87 ?_
    refine lv_iload hx hb d_M_lay_90 (lv_at hl 6 rfl) ?_
    obtain ⟨hin, hw⟩ := hw
    refine va_iald hx hb hK hP 5 0 rfl rfl hin d_M_lay_92 ?_
    refine lv_isub hx hb d_M_lay_93 ?_
    obtain ⟨hin, hw⟩ := hw
    refine va_iast hx hb hK hP hD hS 7 0 rfl rfl hin d_M_lay_94 (fun H locs hP hD hS => ?_)
    have hP : va_P (dC, dI) vwCl [oM a_p0 A_p0 I_p0_73, gz cI (A_p0 15) 256 f_p0_data_61, gz cI (A_p0 0) 2000 f_p0_file_73, gz cI (A_p0 18) 120 f_p0_many_73, gz cI (A_p0 16) 512 f_p0_nibs_73, gz cI (A_p0 21) 16 (upd f_p0_places (x5).toNatClampNeg (I_p0_39 2)), gz cI (A_p0 6) 256 f_p0_samples, gz cI (A_p0 22) 16 (upd f_p0_sizes (x5).toNatClampNeg ((I_p0_73 2) - ((upd f_p0_places (x5).toNatClampNeg (I_p0_39 2)) (x5).toNatClampNeg))), gz cI (A_p0 17) 120 f_p0_start_73] H := hP
    have hD : va_D A [oM a_p0 A_p0 I_p0_73, gz cI (A_p0 15) 256 f_p0_data_61, gz cI (A_p0 0) 2000 f_p0_file_73, gz cI (A_p0 18) 120 f_p0_many_73, gz cI (A_p0 16) 512 f_p0_nibs_73, gz cI (A_p0 21) 16 (upd f_p0_places (x5).toNatClampNeg (I_p0_39 2)), gz cI (A_p0 6) 256 f_p0_samples, gz cI (A_p0 22) 16 (upd f_p0_sizes (x5).toNatClampNeg ((I_p0_73 2) - ((upd f_p0_places (x5).toNatClampNeg (I_p0_39 2)) (x5).toNatClampNeg))), gz cI (A_p0 17) 120 f_p0_start_73] := hD
    refine lv_iinc (k := 6) (v := (x5 + 1)) (lv' := [(5, .int (x5 + 1)), (6, .int s0), (0, .ref a_p0), (1, .int x1), (2, .int x2), (3, .int x3), (4, .int x4)]) hx hb d_M_lay_95 hl rfl (congrArg (fun z => x5 + z) (by decide : Int32.ofInt 1 = 1)) (by decide) rfl (fun ls hl => ?_)
    refine lv_goto hx hb d_M_lay_98 rfl ?_
    exact hk3 _ _ _ I_p0_73 f_p0_data_61 f_p0_file_73 f_p0_many_73 f_p0_nibs_73 (upd f_p0_places (x5).toNatClampNeg (I_p0_39 2)) (upd f_p0_sizes (x5).toNatClampNeg ((I_p0_73 2) - ((upd f_p0_places (x5).toNatClampNeg (I_p0_39 2)) (x5).toNatClampNeg))) f_p0_start_73 x1 x2 x3 x4 (x5 + 1) hP hD hS (lv_sub hl [2, 3, 4, 5, 6, 0] rfl) hw
  have l3 : ∀ n : Nat, ∀ (H : Heap) (locs : List Loc) (ls : Array Slot) (I_p0 : Nat → Int32) (f_p0_data : Nat → Int32) (f_p0_file : Nat → Int32) (f_p0_many : Nat → Int32) (f_p0_nibs : Nat → Int32) (f_p0_places : Nat → Int32) (f_p0_sizes : Nat → Int32) (f_p0_start : Nat → Int32) (x1 : Int32) (x2 : Int32) (x3 : Int32) (x4 : Int32) (x5 : Int32), va_P (dC, dI) vwCl [oM a_p0 A_p0 I_p0, gz cI (A_p0 15) 256 f_p0_data, gz cI (A_p0 0) 2000 f_p0_file, gz cI (A_p0 18) 120 f_p0_many, gz cI (A_p0 16) 512 f_p0_nibs, gz cI (A_p0 21) 16 f_p0_places, gz cI (A_p0 6) 256 f_p0_samples, gz cI (A_p0 22) 16 f_p0_sizes, gz cI (A_p0 17) 120 f_p0_start] H → va_D A [oM a_p0 A_p0 I_p0, gz cI (A_p0 15) 256 f_p0_data, gz cI (A_p0 0) 2000 f_p0_file, gz cI (A_p0 18) 120 f_p0_many, gz cI (A_p0 16) 512 f_p0_nibs, gz cI (A_p0 21) 16 f_p0_places, gz cI (A_p0 6) 256 f_p0_samples, gz cI (A_p0 22) 16 f_p0_sizes, gz cI (A_p0 17) 120 f_p0_start] → va_S A s.heap H locs → lv_has ls 7 [(0, .ref a_p0), (1, .int x1), (2, .int x2), (3, .int x3), (4, .int x4), (5, .int x5)] → wp_M_lay_l3 post f_p0_samples n I_p0 f_p0_data f_p0_file f_p0_many f_p0_nibs f_p0_places f_p0_sizes f_p0_start x1 x2 x3 x4 x5 → W p l e ({ frames := 4, cells := 0, slots := 0, locals := 99 } : Room) s m args below meth c H locs 0 0 Q (F0 m 3 ls []) := by
    intro n
    induction n with
    | zero => intro H locs ls I_p0 f_p0_data f_p0_file f_p0_many f_p0_nibs f_p0_places f_p0_sizes f_p0_start x1 x2 x3 x4 x5 hP hD hS hl hw; exact hw.elim
    | succ n ih =>
      intro H locs ls I_p0 f_p0_data f_p0_file f_p0_many f_p0_nibs f_p0_places f_p0_sizes f_p0_start x1 x2 x3 x4 x5 hP hD hS hl hw
      unfold wp_M_lay_l3 at hw
      refine lv_iload hx hb d_M_lay_3 (lv_at hl 5 rfl) ?_
      refine lv_iload hx hb d_M_lay_5 (lv_at hl 4 rfl) ?_
      refine lv_icmp_ge hx hb d_M_lay_7 rfl (fun hc => ?_) (fun hc => ?_)
      · have hw := hw.1 hc
        exact hret _ _ _ _ (I_p0, f_p0_data, f_p0_file, f_p0_many, f_p0_nibs, f_p0_places, f_p0_sizes, f_p0_start) d_M_lay_101 hP hD hS hw
      · have hw := hw.2 hc
        refine lv_aload_n hx hb d_M_lay_10 rfl (lv_at hl 0 rfl) ?_
        refine va_get (D := (dC, dI)) (ci := 10) (v := .int (I_p0 4)) (C := R_M) (T := T_M) (N := 30) hx hb hg in_M hown hK hP 0 rfl rfl 4 (by decide) (hg _ t_762) (fun _ h9 => h9) rfl d_M_lay_11 ?_
        refine lv_iload hx hb d_M_lay_14 (lv_at hl 5 rfl) ?_
        refine lv_iload_n hx hb d_M_lay_16 rfl (lv_at hl 2 rfl) ?_
        refine lv_imul hx hb d_M_lay_17 ?_
        refine lv_iload_n hx hb d_M_lay_18 rfl (lv_at hl 2 rfl) ?_
        refine lv_iadd hx hb d_M_lay_19 ?_
        refine lv_icmp_ge hx hb d_M_lay_20 rfl (fun hc => ?_) (fun hc => ?_)
        · have hw := hw.1 hc
          refine lv_iload hx hb d_M_lay_30 (lv_at hl 5 rfl) ?_
          refine lv_iload_n hx hb d_M_lay_32 rfl (lv_at hl 2 rfl) ?_
          refine lv_imul hx hb d_M_lay_33 ?_
          refine lv_iload_n hx hb d_M_lay_34 rfl (lv_at hl 2 rfl) ?_
          refine lv_iadd hx hb d_M_lay_35 ?_
          exact b36 _ ih _ _ _ I_p0 f_p0_data f_p0_file f_p0_many f_p0_nibs f_p0_places f_p0_sizes f_p0_start x1 x2 x3 x4 x5 ((x5 * x2) + x2) hP hD hS (lv_sub hl [0, 1, 2, 3, 4, 5] rfl) hw
        · have hw := hw.2 hc
          refine lv_aload_n hx hb d_M_lay_23 rfl (lv_at hl 0 rfl) ?_
          refine va_get (D := (dC, dI)) (ci := 10) (v := .int (I_p0 4)) (C := R_M) (T := T_M) (N := 30) hx hb hg in_M hown hK hP 0 rfl rfl 4 (by decide) (hg _ t_762) (fun _ h9 => h9) rfl d_M_lay_24 ?_
          refine lv_goto hx hb d_M_lay_27 rfl ?_
          exact b36 _ ih _ _ _ I_p0 f_p0_data f_p0_file f_p0_many f_p0_nibs f_p0_places f_p0_sizes f_p0_start x1 x2 x3 x4 x5 (I_p0 4) hP hD hS (lv_sub hl [0, 1, 2, 3, 4, 5] rfl) hw
  intro ls hl hP hD hS
  have hl : lv_has ls 7 [(0, .ref a_p0), (1, .int x1), (2, .int x2), (3, .int x3), (4, .int x4)] := hl
  unfold wp_M_lay at hw
  refine lv_iconst (v := 0) hx hb d_M_lay_0 (by decide) ?_
  refine lv_istore (lv' := [(5, .int 0), (0, .ref a_p0), (1, .int x1), (2, .int x2), (3, .int x3), (4, .int x4)]) hx hb d_M_lay_1 hl (by decide) rfl (fun ls hl => ?_)
  obtain ⟨n1, hw⟩ := hw
  exact l3 n1 _ _ _ I_p0 f_p0_data f_p0_file f_p0_many f_p0_nibs f_p0_places f_p0_sizes f_p0_start x1 x2 x3 x4 0 hP hD hS (lv_sub hl [1, 2, 3, 4, 5, 0] rfl) hw
theorem d_M_length_0 : decode b_M_length 0 = .ok (.aload_n 0, 1) := by decide +kernel
theorem d_M_length_1 : decode b_M_length 1 = .ok (.getfield 63, 3) := by decide +kernel
theorem d_M_length_4 : decode b_M_length 4 = .ok (.ireturn, 1) := by decide +kernel
def wp_M_length (post : Int32 → Prop) (I_p0 : Nat → Int32) : Prop :=
  post (I_p0 1)
set_option maxRecDepth 100000 in
set_option maxHeartbeats 4000000 in
theorem c_M_length (l : Launch) (dC : Nat → ClassId) (dI : Nat → Nat → Nat) (cI : ClassId) (a_p0 : Nat) (A_p0 : Nat → Nat) (I_p0 : Nat → Int32) {post : Int32 → Prop} (hw : wp_M_length post I_p0) : gm_i l y_M_length ws_M_length ({ frames := 0, cells := 0, slots := 0, locals := 0 } : Room) (dC, dI) vwCl [(cI, .int)] [.ref a_p0] [oM a_p0 A_p0 I_p0] (fun (_ : Unit) => [oM a_p0 A_p0 I_p0]) (fun (r : Int32) (_ : Unit) => post r) := by
  refine gm_iof (cc := b_M_length) (maxL := 1) (ty := .int) (by decide) rfl (Nat.le_of_ble_eq_true rfl) ?_
  intro p e s m args below meth c A Q hx hb hml hown hg hK hN hA hret
  have hown : s.vm.findClass R_M = some m.cls := hown
  intro ls hl hP hD hS
  have hl : lv_has ls 1 [(0, .ref a_p0)] := hl
  unfold wp_M_length at hw
  refine lv_aload_n hx hb d_M_length_0 rfl (lv_at hl 0 rfl) ?_
  refine va_get (D := (dC, dI)) (ci := 10) (v := .int (I_p0 1)) (C := R_M) (T := T_M) (N := 30) hx hb hg in_M hown hK hP 0 rfl rfl 1 (by decide) (hg _ t_759) (fun _ h9 => h9) rfl d_M_length_1 ?_
  exact hret _ _ _ _ _ () d_M_length_4 rfl hP hD hS hw
