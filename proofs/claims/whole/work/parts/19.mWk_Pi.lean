theorem d_Wk_follow_0 : decode b_Wk_follow 0 = .ok (.aload_n 0, 1) := by decide +kernel
theorem d_Wk_follow_1 : decode b_Wk_follow 1 = .ok (.iconst 0, 1) := by decide +kernel
theorem d_Wk_follow_2 : decode b_Wk_follow 2 = .ok (.putfield 15, 3) := by decide +kernel
theorem d_Wk_follow_5 : decode b_Wk_follow 5 = .ok (.aload_n 0, 1) := by decide +kernel
theorem d_Wk_follow_6 : decode b_Wk_follow 6 = .ok (.iconst 0, 1) := by decide +kernel
theorem d_Wk_follow_7 : decode b_Wk_follow 7 = .ok (.putfield 19, 3) := by decide +kernel
theorem d_Wk_follow_10 : decode b_Wk_follow 10 = .ok (.aload_n 0, 1) := by decide +kernel
theorem d_Wk_follow_11 : decode b_Wk_follow 11 = .ok (.iconst 4, 1) := by decide +kernel
theorem d_Wk_follow_12 : decode b_Wk_follow 12 = .ok (.putfield 23, 3) := by decide +kernel
theorem d_Wk_follow_15 : decode b_Wk_follow 15 = .ok (.aload_n 1, 1) := by decide +kernel
theorem d_Wk_follow_16 : decode b_Wk_follow 16 = .ok (.invokevirtual 26, 3) := by decide +kernel
theorem d_Wk_follow_19 : decode b_Wk_follow 19 = .ok (.ifCond .ne 4, 3) := by decide +kernel
theorem d_Wk_follow_22 : decode b_Wk_follow 22 = .ok (.return_, 1) := by decide +kernel
theorem d_Wk_follow_23 : decode b_Wk_follow 23 = .ok (.iconst 0, 1) := by decide +kernel
theorem d_Wk_follow_24 : decode b_Wk_follow 24 = .ok (.istore_n 2, 1) := by decide +kernel
theorem d_Wk_follow_25 : decode b_Wk_follow 25 = .ok (.iload_n 2, 1) := by decide +kernel
theorem d_Wk_follow_26 : decode b_Wk_follow 26 = .ok (.bipush 8, 2) := by decide +kernel
theorem d_Wk_follow_28 : decode b_Wk_follow 28 = .ok (.if_icmp .gt 95, 3) := by decide +kernel
theorem d_Wk_follow_31 : decode b_Wk_follow 31 = .ok (.aload_n 1, 1) := by decide +kernel
theorem d_Wk_follow_32 : decode b_Wk_follow 32 = .ok (.aload_n 0, 1) := by decide +kernel
theorem d_Wk_follow_33 : decode b_Wk_follow 33 = .ok (.getfield 23, 3) := by decide +kernel
theorem d_Wk_follow_36 : decode b_Wk_follow 36 = .ok (.invokevirtual 32, 3) := by decide +kernel
theorem d_Wk_follow_39 : decode b_Wk_follow 39 = .ok (.lstore_n 3, 1) := by decide +kernel
theorem d_Wk_follow_40 : decode b_Wk_follow 40 = .ok (.lload_n 3, 1) := by decide +kernel
theorem d_Wk_follow_41 : decode b_Wk_follow 41 = .ok (.lconst 0, 1) := by decide +kernel
theorem d_Wk_follow_42 : decode b_Wk_follow 42 = .ok (.lcmp, 1) := by decide +kernel
theorem d_Wk_follow_43 : decode b_Wk_follow 43 = .ok (.ifCond .ne 9, 3) := by decide +kernel
theorem d_Wk_follow_46 : decode b_Wk_follow 46 = .ok (.aload_n 0, 1) := by decide +kernel
theorem d_Wk_follow_47 : decode b_Wk_follow 47 = .ok (.iconst 1, 1) := by decide +kernel
theorem d_Wk_follow_48 : decode b_Wk_follow 48 = .ok (.putfield 19, 3) := by decide +kernel
theorem d_Wk_follow_51 : decode b_Wk_follow 51 = .ok (.return_, 1) := by decide +kernel
theorem d_Wk_follow_52 : decode b_Wk_follow 52 = .ok (.aload_n 0, 1) := by decide +kernel
theorem d_Wk_follow_53 : decode b_Wk_follow 53 = .ok (.getfield 15, 3) := by decide +kernel
theorem d_Wk_follow_56 : decode b_Wk_follow 56 = .ok (.bipush 8, 2) := by decide +kernel
theorem d_Wk_follow_58 : decode b_Wk_follow 58 = .ok (.if_icmp .eq 19, 3) := by decide +kernel
theorem d_Wk_follow_61 : decode b_Wk_follow 61 = .ok (.aload_n 1, 1) := by decide +kernel
theorem d_Wk_follow_62 : decode b_Wk_follow 62 = .ok (.lload_n 3, 1) := by decide +kernel
theorem d_Wk_follow_63 : decode b_Wk_follow 63 = .ok (.invokestatic 36, 3) := by decide +kernel
theorem d_Wk_follow_66 : decode b_Wk_follow 66 = .ok (.ifCond .eq 11, 3) := by decide +kernel
theorem d_Wk_follow_69 : decode b_Wk_follow 69 = .ok (.aload_n 0, 1) := by decide +kernel
theorem d_Wk_follow_70 : decode b_Wk_follow 70 = .ok (.lload_n 3, 1) := by decide +kernel
theorem d_Wk_follow_71 : decode b_Wk_follow 71 = .ok (.invokevirtual 40, 3) := by decide +kernel
theorem d_Wk_follow_74 : decode b_Wk_follow 74 = .ok (.ifCond .eq 4, 3) := by decide +kernel
theorem d_Wk_follow_77 : decode b_Wk_follow 77 = .ok (.return_, 1) := by decide +kernel
theorem d_Wk_follow_78 : decode b_Wk_follow 78 = .ok (.aload_n 0, 1) := by decide +kernel
theorem d_Wk_follow_79 : decode b_Wk_follow 79 = .ok (.getfield 9, 3) := by decide +kernel
theorem d_Wk_follow_82 : decode b_Wk_follow 82 = .ok (.aload_n 0, 1) := by decide +kernel
theorem d_Wk_follow_83 : decode b_Wk_follow 83 = .ok (.getfield 15, 3) := by decide +kernel
theorem d_Wk_follow_86 : decode b_Wk_follow 86 = .ok (.lload_n 3, 1) := by decide +kernel
theorem d_Wk_follow_87 : decode b_Wk_follow 87 = .ok (.l2i, 1) := by decide +kernel
theorem d_Wk_follow_88 : decode b_Wk_follow 88 = .ok (.iastore, 1) := by decide +kernel
theorem d_Wk_follow_89 : decode b_Wk_follow 89 = .ok (.aload_n 0, 1) := by decide +kernel
theorem d_Wk_follow_90 : decode b_Wk_follow 90 = .ok (.lload_n 3, 1) := by decide +kernel
theorem d_Wk_follow_91 : decode b_Wk_follow 91 = .ok (.l2i, 1) := by decide +kernel
theorem d_Wk_follow_92 : decode b_Wk_follow 92 = .ok (.iconst 2, 1) := by decide +kernel
theorem d_Wk_follow_93 : decode b_Wk_follow 93 = .ok (.iadd, 1) := by decide +kernel
theorem d_Wk_follow_94 : decode b_Wk_follow 94 = .ok (.bipush 12, 2) := by decide +kernel
theorem d_Wk_follow_96 : decode b_Wk_follow 96 = .ok (.aload_n 1, 1) := by decide +kernel
theorem d_Wk_follow_97 : decode b_Wk_follow 97 = .ok (.lload_n 3, 1) := by decide +kernel
theorem d_Wk_follow_98 : decode b_Wk_follow 98 = .ok (.l2i, 1) := by decide +kernel
theorem d_Wk_follow_99 : decode b_Wk_follow 99 = .ok (.invokevirtual 44, 3) := by decide +kernel
theorem d_Wk_follow_102 : decode b_Wk_follow 102 = .ok (.imul, 1) := by decide +kernel
theorem d_Wk_follow_103 : decode b_Wk_follow 103 = .ok (.iadd, 1) := by decide +kernel
theorem d_Wk_follow_104 : decode b_Wk_follow 104 = .ok (.putfield 23, 3) := by decide +kernel
theorem d_Wk_follow_107 : decode b_Wk_follow 107 = .ok (.aload_n 0, 1) := by decide +kernel
theorem d_Wk_follow_108 : decode b_Wk_follow 108 = .ok (.dup, 1) := by decide +kernel
theorem d_Wk_follow_109 : decode b_Wk_follow 109 = .ok (.getfield 15, 3) := by decide +kernel
theorem d_Wk_follow_112 : decode b_Wk_follow 112 = .ok (.iconst 1, 1) := by decide +kernel
theorem d_Wk_follow_113 : decode b_Wk_follow 113 = .ok (.iadd, 1) := by decide +kernel
theorem d_Wk_follow_114 : decode b_Wk_follow 114 = .ok (.putfield 15, 3) := by decide +kernel
theorem d_Wk_follow_117 : decode b_Wk_follow 117 = .ok (.iinc 2 1, 3) := by decide +kernel
theorem d_Wk_follow_120 : decode b_Wk_follow 120 = .ok (.goto (-95), 3) := by decide +kernel
theorem d_Wk_follow_123 : decode b_Wk_follow 123 = .ok (.return_, 1) := by decide +kernel
def wp_Wk_follow_l25 (post : (Nat → Int32) → (Nat → Int32) → Prop) (I_p1 : Nat → Int32) (f_p1_bytes : Nat → Int32) : Nat → (Nat → Int32) → (Nat → Int32) → Int32 → Prop
  | 0, _, _, _ => False
  | n + 1, I_p0, f_p0_places, x2 =>
    ((8 < x2 →
      post I_p0 f_p0_places) ∧
     (¬ 8 < x2 →
      wp_St_longAt (fun (r36 : Int64) =>
        ((r36 = 0 →
          post (upd I_p0 2 1) f_p0_places) ∧
         (¬ r36 = 0 →
          (((I_p0 1) = 8 →
            post I_p0 f_p0_places) ∧
           (¬ (I_p0 1) = 8 →
            wp_Wk_stands (fun (r63 : Int32) =>
              ((r63 = 0 →
                post I_p0 f_p0_places) ∧
               (¬ r63 = 0 →
                wp_Wk_wasMet (fun (r71 : Int32) =>
                  ((r71 = 0 →
                    vp_in (I_p0 1) 8 ∧
                    wp_St_shortAt (fun (r99 : Int32) =>
                      wp_Wk_follow_l25 post I_p1 f_p1_bytes n (upd (upd I_p0 3 ((r36.toInt32 + 2) + (12 * r99))) 1 ((I_p0 1) + 1)) (upd f_p0_places (I_p0 1).toNatClampNeg r36.toInt32) (x2 + 1)) I_p1 f_p1_bytes r36.toInt32) ∧
                   (¬ r71 = 0 →
                    post I_p0 f_p0_places))) I_p0 f_p0_places r36))) I_p1 f_p1_bytes r36))))) I_p1 f_p1_bytes (I_p0 3)))
def wp_Wk_follow (post : (Nat → Int32) → (Nat → Int32) → Prop) (I_p1 : Nat → Int32) (f_p1_bytes : Nat → Int32) (I_p0 : Nat → Int32) (f_p0_places : Nat → Int32) : Prop :=
  wp_St_hasHeader (fun (r16 : Int32) =>
    ((r16 = 0 →
      post (upd (upd (upd I_p0 1 0) 2 0) 3 4) f_p0_places) ∧
     (¬ r16 = 0 →
      (∃ n1 : Nat, wp_Wk_follow_l25 post I_p1 f_p1_bytes n1 (upd (upd (upd I_p0 1 0) 2 0) 3 4) f_p0_places 0)))) I_p1 f_p1_bytes
set_option maxRecDepth 100000 in
set_option maxHeartbeats 4000000 in
theorem c_Wk_follow (l : Launch) (dC : Nat → ClassId) (dI : Nat → Nat → Nat) (cI : ClassId) (a_p0 : Nat) (a_p1 : Nat) (A_p0 : Nat → Nat) (A_p1 : Nat → Nat) (I_p1 : Nat → Int32) (f_p1_bytes : Nat → Int32) (I_p0 : Nat → Int32) (f_p0_places : Nat → Int32) {post : (Nat → Int32) → (Nat → Int32) → Prop} (hw : wp_Wk_follow post I_p1 f_p1_bytes I_p0 f_p0_places) : gm_v l y_Wk_follow ws_Wk_follow ({ frames := 2, cells := 0, slots := 0, locals := 47 } : Room) (dC, dI) vwCl [(cI, .int)] [.ref a_p0, .ref a_p1] [oWk a_p0 A_p0 I_p0, gz cI (A_p0 0) 8 f_p0_places, oSt a_p1 A_p1 I_p1, gz cI (A_p1 0) 900 f_p1_bytes] (fun (u : (Nat → Int32) × (Nat → Int32)) => [oWk a_p0 A_p0 u.1, gz cI (A_p0 0) 8 u.2, oSt a_p1 A_p1 I_p1, gz cI (A_p1 0) 900 f_p1_bytes]) (fun (u : (Nat → Int32) × (Nat → Int32)) => post  u.1 u.2) := by
  refine gm_vof (cc := b_Wk_follow) (maxL := 5) (by decide) rfl (Nat.le_of_ble_eq_true rfl) ?_
  intro p e s m args below meth c A Q hx hb hml hown hg hK hN hA hnm hret
  have hown : s.vm.findClass R_Wk = some m.cls := hown
  have l25 : ∀ n : Nat, ∀ (H : Heap) (locs : List Loc) (ls : Array Slot) (I_p0 : Nat → Int32) (f_p0_places : Nat → Int32) (x2 : Int32), va_P (dC, dI) vwCl [oWk a_p0 A_p0 I_p0, gz cI (A_p0 0) 8 f_p0_places, oSt a_p1 A_p1 I_p1, gz cI (A_p1 0) 900 f_p1_bytes] H → va_D A [oWk a_p0 A_p0 I_p0, gz cI (A_p0 0) 8 f_p0_places, oSt a_p1 A_p1 I_p1, gz cI (A_p1 0) 900 f_p1_bytes] → va_S A s.heap H locs → lv_has ls 5 [(0, .ref a_p0), (1, .ref a_p1), (2, .int x2)] → wp_Wk_follow_l25 post I_p1 f_p1_bytes n I_p0 f_p0_places x2 → W p l e ({ frames := 2, cells := 0, slots := 0, locals := 47 } : Room) s m args below meth c H locs 0 0 Q (F0 m 25 ls []) := by
    intro n
    induction n with
    | zero => intro H locs ls I_p0 f_p0_places x2 hP hD hS hl hw; exact hw.elim
    | succ n ih =>
      intro H locs ls I_p0 f_p0_places x2 hP hD hS hl hw
      unfold wp_Wk_follow_l25 at hw
      refine lv_iload_n hx hb d_Wk_follow_25 rfl (lv_at hl 2 rfl) ?_
      refine lv_bipush (v := 8) hx hb d_Wk_follow_26 (by decide) ?_
      refine lv_icmp_gt hx hb d_Wk_follow_28 rfl (fun hc => ?_) (fun hc => ?_)
      · have hw := hw.1 hc
        exact hret _ _ _ _ (I_p0, f_p0_places) d_Wk_follow_123 hP hD hS hw
      · have hw := hw.2 hc
        refine lv_aload_n hx hb d_Wk_follow_31 rfl (lv_at hl 1 rfl) ?_
        refine lv_aload_n hx hb d_Wk_follow_32 rfl (lv_at hl 0 rfl) ?_
        refine va_get (D := (dC, dI)) (ci := 8) (v := .int (I_p0 3)) (C := R_Wk) (T := T_Wk) (N := 4) hx hb hg in_Wk hown hK hP 0 rfl rfl 3 (by decide) (hg _ t_118) (fun _ h9 => h9) rfl d_Wk_follow_33 ?_
        refine gc_l (wn := fun (_ : Unit) => [oWk a_p0 A_p0 I_p0, gz cI (A_p0 0) 8 f_p0_places, oSt a_p1 A_p1 I_p1, gz cI (A_p1 0) 900 f_p1_bytes]) (wr := [oWk a_p0 A_p0 I_p0, gz cI (A_p0 0) 8 f_p0_places]) (gr_V (As := [.int (I_p0 3)]) (rest := []) ⟨hx, hb, hml, hown, hg⟩ (c_St_longAt l dC dI cI a_p1 A_p1 I_p1 f_p1_bytes (I_p0 3) hw _) (cwV 1 hg (gg_V t_461 t_462 t_463 t_61 t_464) rfl rfl rfl (by decide +kernel) ⟨Nat.le_of_ble_eq_true rfl, Nat.le_of_ble_eq_true rfl⟩) hK hN hP hD [2, 3] (by decide) rfl 2 7 rfl rfl rfl rfl hl.1 rfl (Nat.le_of_ble_eq_true rfl) d_Wk_follow_36 ⟨Nat.le_of_ble_eq_true rfl, Nat.le_of_ble_eq_true rfl⟩) rfl rfl hP hD hS hA [2, 3] [0, 1] [0, 1, 2, 3] rfl rfl (by decide) (by decide) (by decide) (fun _ => rfl) ?_
        intro r36 _ H locs hw hP hD hS
        try dsimp only at hw
        have hP : va_P (dC, dI) vwCl [oWk a_p0 A_p0 I_p0, gz cI (A_p0 0) 8 f_p0_places, oSt a_p1 A_p1 I_p1, gz cI (A_p1 0) 900 f_p1_bytes] H := hP
        have hD : va_D A [oWk a_p0 A_p0 I_p0, gz cI (A_p0 0) 8 f_p0_places, oSt a_p1 A_p1 I_p1, gz cI (A_p1 0) 900 f_p1_bytes] := hD
        refine lv_lstore_n (lv' := [(3, .long r36), (0, .ref a_p0), (1, .ref a_p1), (2, .int x2)]) hx hb d_Wk_follow_39 rfl hl (by decide) rfl (fun ls hl => ?_)
        refine lv_lload_n hx hb d_Wk_follow_40 rfl (lv_at hl 0 rfl) ?_
        refine lv_lconst (v := 0) hx hb d_Wk_follow_41 (by decide) ?_
        refine W.lcmp hx hb d_Wk_follow_42 ?_
        refine lv_if_ne hx hb d_Wk_follow_43 rfl (fun hc => ?_) (fun hc => ?_)
        · have hw := hw.2 (fun h9 => hc ((lg_cmp_eq _ _).mpr h9))
          refine lv_aload_n hx hb d_Wk_follow_52 rfl (lv_at hl 1 rfl) ?_
          refine va_get (D := (dC, dI)) (ci := 8) (v := .int (I_p0 1)) (C := R_Wk) (T := T_Wk) (N := 4) hx hb hg in_Wk hown hK hP 0 rfl rfl 1 (by decide) (hg _ t_114) (fun _ h9 => h9) rfl d_Wk_follow_53 ?_
          refine lv_bipush (v := 8) hx hb d_Wk_follow_56 (by decide) ?_
          refine lv_icmp_eq hx hb d_Wk_follow_58 rfl (fun hc => ?_) (fun hc => ?_)
          · have hw := hw.1 hc
            exact hret _ _ _ _ (I_p0, f_p0_places) d_Wk_follow_77 hP hD hS hw
          · have hw := hw.2 hc
            refine lv_aload_n hx hb d_Wk_follow_61 rfl (lv_at hl 2 rfl) ?_
            refine lv_lload_n hx hb d_Wk_follow_62 rfl (lv_at hl 0 rfl) ?_
            refine gc_i (wn := fun (_ : Unit) => [oWk a_p0 A_p0 I_p0, gz cI (A_p0 0) 8 f_p0_places, oSt a_p1 A_p1 I_p1, gz cI (A_p1 0) 900 f_p1_bytes]) (wr := [oWk a_p0 A_p0 I_p0, gz cI (A_p0 0) 8 f_p0_places]) (gr_S (As := [.ref a_p1, .long r36]) (rest := []) ⟨hx, hb, hml, hown, hg⟩ (c_Wk_stands l dC dI cI a_p1 A_p1 I_p1 f_p1_bytes r36 hw _) (va_cwS 2 hg (gg_S t_466 t_467 t_62 t_468) rfl rfl rfl (by decide +kernel) ⟨Nat.le_of_ble_eq_true rfl, Nat.le_of_ble_eq_true rfl⟩) hK hN hP hD [2, 3] (by decide) rfl rfl hl.1 rfl (Nat.le_of_ble_eq_true rfl) d_Wk_follow_63 ⟨Nat.le_of_ble_eq_true rfl, Nat.le_of_ble_eq_true rfl⟩) rfl rfl hP hD hS hA [2, 3] [0, 1] [0, 1, 2, 3] rfl rfl (by decide) (by decide) (by decide) (fun _ => rfl) ?_
            intro r63 _ H locs hw hP hD hS
            try dsimp only at hw
            have hP : va_P (dC, dI) vwCl [oWk a_p0 A_p0 I_p0, gz cI (A_p0 0) 8 f_p0_places, oSt a_p1 A_p1 I_p1, gz cI (A_p1 0) 900 f_p1_bytes] H := hP
            have hD : va_D A [oWk a_p0 A_p0 I_p0, gz cI (A_p0 0) 8 f_p0_places, oSt a_p1 A_p1 I_p1, gz cI (A_p1 0) 900 f_p1_bytes] := hD
            refine lv_if_eq hx hb d_Wk_follow_66 rfl (fun hc => ?_) (fun hc => ?_)
            · have hw := hw.1 hc
              exact hret _ _ _ _ (I_p0, f_p0_places) d_Wk_follow_77 hP hD hS hw
            · have hw := hw.2 hc
              refine lv_aload_n hx hb d_Wk_follow_69 rfl (lv_at hl 1 rfl) ?_
              refine lv_lload_n hx hb d_Wk_follow_70 rfl (lv_at hl 0 rfl) ?_
              refine gc_i (wn := fun (_ : Unit) => [oWk a_p0 A_p0 I_p0, gz cI (A_p0 0) 8 f_p0_places, oSt a_p1 A_p1 I_p1, gz cI (A_p1 0) 900 f_p1_bytes]) (wr := [oSt a_p1 A_p1 I_p1, gz cI (A_p1 0) 900 f_p1_bytes]) (gr_V (As := [.long r36]) (rest := []) ⟨hx, hb, hml, hown, hg⟩ (c_Wk_wasMet l dC dI cI a_p0 A_p0 I_p0 f_p0_places r36 hw _) (cwV 1 hg (gg_V t_473 t_475 t_2 t_62 t_476) rfl rfl rfl (by decide +kernel) ⟨Nat.le_of_ble_eq_true rfl, Nat.le_of_ble_eq_true rfl⟩) hK hN hP hD [0, 1] (by decide) rfl 0 8 rfl rfl rfl rfl hl.1 rfl (Nat.le_of_ble_eq_true rfl) d_Wk_follow_71 ⟨Nat.le_of_ble_eq_true rfl, Nat.le_of_ble_eq_true rfl⟩) rfl rfl hP hD hS hA [0, 1] [2, 3] [2, 3, 0, 1] rfl rfl (by decide) (by decide) (by decide) (fun _ => rfl) ?_
              intro r71 _ H locs hw hP hD hS
              try dsimp only at hw
              have hP : va_P (dC, dI) vwCl [oWk a_p0 A_p0 I_p0, gz cI (A_p0 0) 8 f_p0_places, oSt a_p1 A_p1 I_p1, gz cI (A_p1 0) 900 f_p1_bytes] H := hP
              have hD : va_D A [oWk a_p0 A_p0 I_p0, gz cI (A_p0 0) 8 f_p0_places, oSt a_p1 A_p1 I_p1, gz cI (A_p1 0) 900 f_p1_bytes] := hD
              refine lv_if_eq hx hb d_Wk_follow_74 rfl (fun hc => ?_) (fun hc => ?_)
              · have hw := hw.1 hc
                refine lv_aload_n hx hb d_Wk_follow_78 rfl (lv_at hl 1 rfl) ?_
                refine va_get (D := (dC, dI)) (ci := 8) (v := .ref (A_p0 0)) (C := R_Wk) (T := T_Wk) (N := 4) hx hb hg in_Wk hown hK hP 0 rfl rfl 0 (by decide) (hg _ t_112) (fun _ h9 => h9) rfl d_Wk_follow_79 ?_
                refine lv_aload_n hx hb d_Wk_follow_82 rfl (lv_at hl 1 rfl) ?_
                refine va_get (D := (dC, dI)) (ci := 8) (v := .int (I_p0 1)) (C := R_Wk) (T := T_Wk) (N := 4) hx hb hg in_Wk hown hK hP 0 rfl rfl 1 (by decide) (hg _ t_114) (fun _ h9 => h9) rfl d_Wk_follow_83 ?_
                refine lv_lload_n hx hb d_Wk_follow_86 rfl (lv_at hl 0 rfl) ?_
                refine lv_l2i hx hb d_Wk_follow_87 rfl ?_
                obtain ⟨hin, hw⟩ := hw
                refine va_iast hx hb hK hP hD hS 1 0 rfl rfl hin d_Wk_follow_88 (fun H locs hP hD hS => ?_)
                have hP : va_P (dC, dI) vwCl [oWk a_p0 A_p0 I_p0, gz cI (A_p0 0) 8 (upd f_p0_places (I_p0 1).toNatClampNeg r36.toInt32), oSt a_p1 A_p1 I_p1, gz cI (A_p1 0) 900 f_p1_bytes] H := hP
                have hD : va_D A [oWk a_p0 A_p0 I_p0, gz cI (A_p0 0) 8 (upd f_p0_places (I_p0 1).toNatClampNeg r36.toInt32), oSt a_p1 A_p1 I_p1, gz cI (A_p1 0) 900 f_p1_bytes] := hD
                refine lv_aload_n hx hb d_Wk_follow_89 rfl (lv_at hl 1 rfl) ?_
                refine lv_lload_n hx hb d_Wk_follow_90 rfl (lv_at hl 0 rfl) ?_
                refine lv_l2i hx hb d_Wk_follow_91 rfl ?_
                refine lv_iconst (v := 2) hx hb d_Wk_follow_92 (by decide) ?_
                refine lv_iadd hx hb d_Wk_follow_93 ?_
                refine lv_bipush (v := 12) hx hb d_Wk_follow_94 (by decide) ?_
                refine lv_aload_n hx hb d_Wk_follow_96 rfl (lv_at hl 2 rfl) ?_
                refine lv_lload_n hx hb d_Wk_follow_97 rfl (lv_at hl 0 rfl) ?_
                refine lv_l2i hx hb d_Wk_follow_98 rfl ?_
                refine gc_i (wn := fun (_ : Unit) => [oWk a_p0 A_p0 I_p0, gz cI (A_p0 0) 8 (upd f_p0_places (I_p0 1).toNatClampNeg r36.toInt32), oSt a_p1 A_p1 I_p1, gz cI (A_p1 0) 900 f_p1_bytes]) (wr := [oWk a_p0 A_p0 I_p0, gz cI (A_p0 0) 8 (upd f_p0_places (I_p0 1).toNatClampNeg r36.toInt32)]) (gr_V (As := [.int r36.toInt32]) (rest := [.int 12, .int (r36.toInt32 + 2), .ref a_p0]) ⟨hx, hb, hml, hown, hg⟩ (c_St_shortAt l dC dI cI a_p1 A_p1 I_p1 f_p1_bytes r36.toInt32 hw _) (cwV 1 hg (gg_V t_472 t_458 t_459 t_61 t_460) rfl rfl rfl (by decide +kernel) ⟨Nat.le_of_ble_eq_true rfl, Nat.le_of_ble_eq_true rfl⟩) hK hN hP hD [2, 3] (by decide) rfl 2 7 rfl rfl rfl rfl hl.1 rfl (Nat.le_of_ble_eq_true rfl) d_Wk_follow_99 ⟨Nat.le_of_ble_eq_true rfl, Nat.le_of_ble_eq_true rfl⟩) rfl rfl hP hD hS hA [2, 3] [0, 1] [0, 1, 2, 3] rfl rfl (by decide) (by decide) (by decide) (fun _ => rfl) ?_
                intro r99 _ H locs hw hP hD hS
                try dsimp only at hw
                have hP : va_P (dC, dI) vwCl [oWk a_p0 A_p0 I_p0, gz cI (A_p0 0) 8 (upd f_p0_places (I_p0 1).toNatClampNeg r36.toInt32), oSt a_p1 A_p1 I_p1, gz cI (A_p1 0) 900 f_p1_bytes] H := hP
                have hD : va_D A [oWk a_p0 A_p0 I_p0, gz cI (A_p0 0) 8 (upd f_p0_places (I_p0 1).toNatClampNeg r36.toInt32), oSt a_p1 A_p1 I_p1, gz cI (A_p1 0) 900 f_p1_bytes] := hD
                refine lv_imul hx hb d_Wk_follow_102 ?_
                refine lv_iadd hx hb d_Wk_follow_103 ?_
                refine va_put (D := (dC, dI)) (ci := 8) (v := .int ((r36.toInt32 + 2) + (12 * r99))) (ty := .int) (C := R_Wk) (T := T_Wk) (N := 4) hx hb hg in_Wk t_Wk tok_Wk nok_Wk hown hK hP hD hS 0 rfl rfl 3 (by decide) (hg _ t_118) (fun _ h9 => h9) rfl (by decide +kernel) rfl rfl (Nat.le_of_ble_eq_true rfl) d_Wk_follow_104 (fun H locs hP hD hS => ?_)
                have hP : va_P (dC, dI) vwCl [oWk a_p0 A_p0 (upd I_p0 3 ((r36.toInt32 + 2) + (12 * r99))), gz cI (A_p0 0) 8 (upd f_p0_places (I_p0 1).toNatClampNeg r36.toInt32), oSt a_p1 A_p1 I_p1, gz cI (A_p1 0) 900 f_p1_bytes] H := hP
                have hD : va_D A [oWk a_p0 A_p0 (upd I_p0 3 ((r36.toInt32 + 2) + (12 * r99))), gz cI (A_p0 0) 8 (upd f_p0_places (I_p0 1).toNatClampNeg r36.toInt32), oSt a_p1 A_p1 I_p1, gz cI (A_p1 0) 900 f_p1_bytes] := hD
                refine lv_aload_n hx hb d_Wk_follow_107 rfl (lv_at hl 1 rfl) ?_
                refine lv_dup hx hb d_Wk_follow_108 rfl ?_
                refine va_get (D := (dC, dI)) (ci := 8) (v := .int (I_p0 1)) (C := R_Wk) (T := T_Wk) (N := 4) hx hb hg in_Wk hown hK hP 0 rfl rfl 1 (by decide) (hg _ t_114) (fun _ h9 => h9) rfl d_Wk_follow_109 ?_
                refine lv_iconst (v := 1) hx hb d_Wk_follow_112 (by decide) ?_
                refine lv_iadd hx hb d_Wk_follow_113 ?_
                refine va_put (D := (dC, dI)) (ci := 8) (v := .int ((I_p0 1) + 1)) (ty := .int) (C := R_Wk) (T := T_Wk) (N := 4) hx hb hg in_Wk t_Wk tok_Wk nok_Wk hown hK hP hD hS 0 rfl rfl 1 (by decide) (hg _ t_114) (fun _ h9 => h9) rfl (by decide +kernel) rfl rfl (Nat.le_of_ble_eq_true rfl) d_Wk_follow_114 (fun H locs hP hD hS => ?_)
                have hP : va_P (dC, dI) vwCl [oWk a_p0 A_p0 (upd (upd I_p0 3 ((r36.toInt32 + 2) + (12 * r99))) 1 ((I_p0 1) + 1)), gz cI (A_p0 0) 8 (upd f_p0_places (I_p0 1).toNatClampNeg r36.toInt32), oSt a_p1 A_p1 I_p1, gz cI (A_p1 0) 900 f_p1_bytes] H := hP
                have hD : va_D A [oWk a_p0 A_p0 (upd (upd I_p0 3 ((r36.toInt32 + 2) + (12 * r99))) 1 ((I_p0 1) + 1)), gz cI (A_p0 0) 8 (upd f_p0_places (I_p0 1).toNatClampNeg r36.toInt32), oSt a_p1 A_p1 I_p1, gz cI (A_p1 0) 900 f_p1_bytes] := hD
                refine lv_iinc (k := 3) (v := (x2 + 1)) (lv' := [(2, .int (x2 + 1)), (3, .long r36), (0, .ref a_p0), (1, .ref a_p1)]) hx hb d_Wk_follow_117 hl rfl (congrArg (fun z => x2 + z) (by decide : Int32.ofInt 1 = 1)) (by decide) rfl (fun ls hl => ?_)
                refine lv_goto hx hb d_Wk_follow_120 rfl ?_
                exact ih _ _ _ (upd (upd I_p0 3 ((r36.toInt32 + 2) + (12 * r99))) 1 ((I_p0 1) + 1)) (upd f_p0_places (I_p0 1).toNatClampNeg r36.toInt32) (x2 + 1) hP hD hS (lv_sub hl [2, 3, 0] rfl) hw
              · have hw := hw.2 hc
                exact hret _ _ _ _ (I_p0, f_p0_places) d_Wk_follow_77 hP hD hS hw
        · have hw := hw.1 ((lg_cmp_eq _ _).mp hc)
          refine lv_aload_n hx hb d_Wk_follow_46 rfl (lv_at hl 1 rfl) ?_
          refine lv_iconst (v := 1) hx hb d_Wk_follow_47 (by decide) ?_
          refine va_put (D := (dC, dI)) (ci := 8) (v := .int 1) (ty := .boolean) (C := R_Wk) (T := T_Wk) (N := 4) hx hb hg in_Wk t_Wk tok_Wk nok_Wk hown hK hP hD hS 0 rfl rfl 2 (by decide) (hg _ t_116) (fun _ h9 => h9) rfl (by decide +kernel) rfl rfl (Nat.le_of_ble_eq_true rfl) d_Wk_follow_48 (fun H locs hP hD hS => ?_)
          have hP : va_P (dC, dI) vwCl [oWk a_p0 A_p0 (upd I_p0 2 1), gz cI (A_p0 0) 8 f_p0_places, oSt a_p1 A_p1 I_p1, gz cI (A_p1 0) 900 f_p1_bytes] H := hP
          have hD : va_D A [oWk a_p0 A_p0 (upd I_p0 2 1), gz cI (A_p0 0) 8 f_p0_places, oSt a_p1 A_p1 I_p1, gz cI (A_p1 0) 900 f_p1_bytes] := hD
          exact hret _ _ _ _ ((upd I_p0 2 1), f_p0_places) d_Wk_follow_51 hP hD hS hw
  intro ls hl hP hD hS
  have hl : lv_has ls 5 [(0, .ref a_p0), (1, .ref a_p1)] := hl
  unfold wp_Wk_follow at hw
  refine lv_aload_n hx hb d_Wk_follow_0 rfl (lv_at hl 0 rfl) ?_
  refine lv_iconst (v := 0) hx hb d_Wk_follow_1 (by decide) ?_
  refine va_put (D := (dC, dI)) (ci := 8) (v := .int 0) (ty := .int) (C := R_Wk) (T := T_Wk) (N := 4) hx hb hg in_Wk t_Wk tok_Wk nok_Wk hown hK hP hD hS 0 rfl rfl 1 (by decide) (hg _ t_114) (fun _ h9 => h9) rfl (by decide +kernel) rfl rfl (Nat.le_of_ble_eq_true rfl) d_Wk_follow_2 (fun H locs hP hD hS => ?_)
  have hP : va_P (dC, dI) vwCl [oWk a_p0 A_p0 (upd I_p0 1 0), gz cI (A_p0 0) 8 f_p0_places, oSt a_p1 A_p1 I_p1, gz cI (A_p1 0) 900 f_p1_bytes] H := hP
  have hD : va_D A [oWk a_p0 A_p0 (upd I_p0 1 0), gz cI (A_p0 0) 8 f_p0_places, oSt a_p1 A_p1 I_p1, gz cI (A_p1 0) 900 f_p1_bytes] := hD
  refine lv_aload_n hx hb d_Wk_follow_5 rfl (lv_at hl 0 rfl) ?_
  refine lv_iconst (v := 0) hx hb d_Wk_follow_6 (by decide) ?_
  refine va_put (D := (dC, dI)) (ci := 8) (v := .int 0) (ty := .boolean) (C := R_Wk) (T := T_Wk) (N := 4) hx hb hg in_Wk t_Wk tok_Wk nok_Wk hown hK hP hD hS 0 rfl rfl 2 (by decide) (hg _ t_116) (fun _ h9 => h9) rfl (by decide +kernel) rfl rfl (Nat.le_of_ble_eq_true rfl) d_Wk_follow_7 (fun H locs hP hD hS => ?_)
  have hP : va_P (dC, dI) vwCl [oWk a_p0 A_p0 (upd (upd I_p0 1 0) 2 0), gz cI (A_p0 0) 8 f_p0_places, oSt a_p1 A_p1 I_p1, gz cI (A_p1 0) 900 f_p1_bytes] H := hP
  have hD : va_D A [oWk a_p0 A_p0 (upd (upd I_p0 1 0) 2 0), gz cI (A_p0 0) 8 f_p0_places, oSt a_p1 A_p1 I_p1, gz cI (A_p1 0) 900 f_p1_bytes] := hD
  refine lv_aload_n hx hb d_Wk_follow_10 rfl (lv_at hl 0 rfl) ?_
  refine lv_iconst (v := 4) hx hb d_Wk_follow_11 (by decide) ?_
  refine va_put (D := (dC, dI)) (ci := 8) (v := .int 4) (ty := .int) (C := R_Wk) (T := T_Wk) (N := 4) hx hb hg in_Wk t_Wk tok_Wk nok_Wk hown hK hP hD hS 0 rfl rfl 3 (by decide) (hg _ t_118) (fun _ h9 => h9) rfl (by decide +kernel) rfl rfl (Nat.le_of_ble_eq_true rfl) d_Wk_follow_12 (fun H locs hP hD hS => ?_)
  have hP : va_P (dC, dI) vwCl [oWk a_p0 A_p0 (upd (upd (upd I_p0 1 0) 2 0) 3 4), gz cI (A_p0 0) 8 f_p0_places, oSt a_p1 A_p1 I_p1, gz cI (A_p1 0) 900 f_p1_bytes] H := hP
  have hD : va_D A [oWk a_p0 A_p0 (upd (upd (upd I_p0 1 0) 2 0) 3 4), gz cI (A_p0 0) 8 f_p0_places, oSt a_p1 A_p1 I_p1, gz cI (A_p1 0) 900 f_p1_bytes] := hD
  refine lv_aload_n hx hb d_Wk_follow_15 rfl (lv_at hl 1 rfl) ?_
  refine gc_i (wn := fun (_ : Unit) => [oWk a_p0 A_p0 (upd (upd (upd I_p0 1 0) 2 0) 3 4), gz cI (A_p0 0) 8 f_p0_places, oSt a_p1 A_p1 I_p1, gz cI (A_p1 0) 900 f_p1_bytes]) (wr := [oWk a_p0 A_p0 (upd (upd (upd I_p0 1 0) 2 0) 3 4), gz cI (A_p0 0) 8 f_p0_places]) (gr_V (As := []) (rest := []) ⟨hx, hb, hml, hown, hg⟩ (c_St_hasHeader l dC dI cI a_p1 A_p1 I_p1 f_p1_bytes hw _) (cwV 0 hg (gg_V t_453 t_454 t_455 t_61 t_456) rfl rfl rfl (by decide +kernel) ⟨Nat.le_of_ble_eq_true rfl, Nat.le_of_ble_eq_true rfl⟩) hK hN hP hD [2, 3] (by decide) rfl 2 7 rfl rfl rfl rfl hl.1 rfl (Nat.le_of_ble_eq_true rfl) d_Wk_follow_16 ⟨Nat.le_of_ble_eq_true rfl, Nat.le_of_ble_eq_true rfl⟩) rfl rfl hP hD hS hA [2, 3] [0, 1] [0, 1, 2, 3] rfl rfl (by decide) (by decide) (by decide) (fun _ => rfl) ?_
  intro r16 _ H locs hw hP hD hS
  try dsimp only at hw
  have hP : va_P (dC, dI) vwCl [oWk a_p0 A_p0 (upd (upd (upd I_p0 1 0) 2 0) 3 4), gz cI (A_p0 0) 8 f_p0_places, oSt a_p1 A_p1 I_p1, gz cI (A_p1 0) 900 f_p1_bytes] H := hP
  have hD : va_D A [oWk a_p0 A_p0 (upd (upd (upd I_p0 1 0) 2 0) 3 4), gz cI (A_p0 0) 8 f_p0_places, oSt a_p1 A_p1 I_p1, gz cI (A_p1 0) 900 f_p1_bytes] := hD
  refine lv_if_ne hx hb d_Wk_follow_19 rfl (fun hc => ?_) (fun hc => ?_)
  · have hw := hw.2 hc
    refine lv_iconst (v := 0) hx hb d_Wk_follow_23 (by decide) ?_
    refine lv_istore_n (lv' := [(2, .int 0), (0, .ref a_p0), (1, .ref a_p1)]) hx hb d_Wk_follow_24 rfl hl (by decide) rfl (fun ls hl => ?_)
    obtain ⟨n1, hw⟩ := hw
    exact l25 n1 _ _ _ (upd (upd (upd I_p0 1 0) 2 0) 3 4) f_p0_places 0 hP hD hS (lv_sub hl [1, 2, 0] rfl) hw
  · have hw := hw.1 hc
    exact hret _ _ _ _ ((upd (upd (upd I_p0 1 0) 2 0) 3 4), f_p0_places) d_Wk_follow_22 hP hD hS hw
theorem d_Wk_hasPage_0 : decode b_Wk_hasPage 0 = .ok (.iload_n 1, 1) := by decide +kernel
theorem d_Wk_hasPage_1 : decode b_Wk_hasPage 1 = .ok (.ifCond .lt 15, 3) := by decide +kernel
theorem d_Wk_hasPage_4 : decode b_Wk_hasPage 4 = .ok (.iload_n 1, 1) := by decide +kernel
theorem d_Wk_hasPage_5 : decode b_Wk_hasPage 5 = .ok (.aload_n 0, 1) := by decide +kernel
theorem d_Wk_hasPage_6 : decode b_Wk_hasPage 6 = .ok (.getfield 15, 3) := by decide +kernel
theorem d_Wk_hasPage_9 : decode b_Wk_hasPage 9 = .ok (.if_icmp .ge 7, 3) := by decide +kernel
theorem d_Wk_hasPage_12 : decode b_Wk_hasPage 12 = .ok (.iconst 1, 1) := by decide +kernel
theorem d_Wk_hasPage_13 : decode b_Wk_hasPage 13 = .ok (.goto 4, 3) := by decide +kernel
theorem d_Wk_hasPage_16 : decode b_Wk_hasPage 16 = .ok (.iconst 0, 1) := by decide +kernel
theorem d_Wk_hasPage_17 : decode b_Wk_hasPage 17 = .ok (.ireturn, 1) := by decide +kernel
def wp_Wk_hasPage_b16 (post : Int32 → Prop) (I_p0 : Nat → Int32) : Prop :=
  post 0
def wp_Wk_hasPage (post : Int32 → Prop) (I_p0 : Nat → Int32) (x1 : Int32) : Prop :=
  ((x1 < 0 →
    wp_Wk_hasPage_b16 post I_p0) ∧
   (¬ x1 < 0 →
    (((I_p0 1) ≤ x1 →
      wp_Wk_hasPage_b16 post I_p0) ∧
     (¬ (I_p0 1) ≤ x1 →
      post 1))))
set_option maxRecDepth 100000 in
set_option maxHeartbeats 4000000 in
theorem c_Wk_hasPage (l : Launch) (dC : Nat → ClassId) (dI : Nat → Nat → Nat) (cI : ClassId) (a_p0 : Nat) (A_p0 : Nat → Nat) (I_p0 : Nat → Int32) (x1 : Int32) {post : Int32 → Prop} (hw : wp_Wk_hasPage post I_p0 x1) : gm_i l y_Wk_hasPage ws_Wk_hasPage ({ frames := 0, cells := 0, slots := 0, locals := 0 } : Room) (dC, dI) vwCl [(cI, .int)] [.ref a_p0, .int x1] [oWk a_p0 A_p0 I_p0] (fun (_ : Unit) => [oWk a_p0 A_p0 I_p0]) (fun (r : Int32) (_ : Unit) => post r) := by
  refine gm_iof (cc := b_Wk_hasPage) (maxL := 2) (ty := .boolean) (by decide) rfl (Nat.le_of_ble_eq_true rfl) ?_
  intro p e s m args below meth c A Q hx hb hml hown hg hK hN hA hret
  have hown : s.vm.findClass R_Wk = some m.cls := hown
  have b16 : ∀ (H : Heap) (locs : List Loc) (ls : Array Slot), va_P (dC, dI) vwCl [oWk a_p0 A_p0 I_p0] H → va_D A [oWk a_p0 A_p0 I_p0] → va_S A s.heap H locs → lv_has ls 2 [] → wp_Wk_hasPage_b16 post I_p0 → W p l e ({ frames := 0, cells := 0, slots := 0, locals := 0 } : Room) s m args below meth c H locs 0 0 Q (F0 m 16 ls []) := by
    intro H locs ls hP hD hS hl hw
    unfold wp_Wk_hasPage_b16 at hw
    refine lv_iconst (v := 0) hx hb d_Wk_hasPage_16 (by decide) ?_
    exact hret _ _ _ _ _ () d_Wk_hasPage_17 rfl hP hD hS hw
  intro ls hl hP hD hS
  have hl : lv_has ls 2 [(0, .ref a_p0), (1, .int x1)] := hl
  unfold wp_Wk_hasPage at hw
  refine lv_iload_n hx hb d_Wk_hasPage_0 rfl (lv_at hl 1 rfl) ?_
  refine lv_if_lt hx hb d_Wk_hasPage_1 rfl (fun hc => ?_) (fun hc => ?_)
  · have hw := hw.1 hc
    exact b16 _ _ _ hP hD hS (lv_sub hl [] rfl) hw
  · have hw := hw.2 hc
    refine lv_iload_n hx hb d_Wk_hasPage_4 rfl (lv_at hl 1 rfl) ?_
    refine lv_aload_n hx hb d_Wk_hasPage_5 rfl (lv_at hl 0 rfl) ?_
    refine va_get (D := (dC, dI)) (ci := 8) (v := .int (I_p0 1)) (C := R_Wk) (T := T_Wk) (N := 4) hx hb hg in_Wk hown hK hP 0 rfl rfl 1 (by decide) (hg _ t_114) (fun _ h9 => h9) rfl d_Wk_hasPage_6 ?_
    refine lv_icmp_ge hx hb d_Wk_hasPage_9 rfl (fun hc => ?_) (fun hc => ?_)
    · have hw := hw.1 hc
      exact b16 _ _ _ hP hD hS (lv_sub hl [] rfl) hw
    · have hw := hw.2 hc
      refine lv_iconst (v := 1) hx hb d_Wk_hasPage_12 (by decide) ?_
      refine lv_goto hx hb d_Wk_hasPage_13 rfl ?_
      exact hret _ _ _ _ _ () d_Wk_hasPage_17 rfl hP hD hS hw
theorem d_En_read_0 : decode b_En_read 0 = .ok (.aload_n 0, 1) := by decide +kernel
theorem d_En_read_1 : decode b_En_read 1 = .ok (.aload_n 1, 1) := by decide +kernel
theorem d_En_read_2 : decode b_En_read 2 = .ok (.iload_n 2, 1) := by decide +kernel
theorem d_En_read_3 : decode b_En_read 3 = .ok (.iconst 2, 1) := by decide +kernel
theorem d_En_read_4 : decode b_En_read 4 = .ok (.iadd, 1) := by decide +kernel
theorem d_En_read_5 : decode b_En_read 5 = .ok (.invokevirtual 9, 3) := by decide +kernel
theorem d_En_read_8 : decode b_En_read 8 = .ok (.putfield 21, 3) := by decide +kernel
theorem d_En_read_11 : decode b_En_read 11 = .ok (.aload_n 0, 1) := by decide +kernel
theorem d_En_read_12 : decode b_En_read 12 = .ok (.aload_n 1, 1) := by decide +kernel
theorem d_En_read_13 : decode b_En_read 13 = .ok (.iload_n 2, 1) := by decide +kernel
theorem d_En_read_14 : decode b_En_read 14 = .ok (.iconst 4, 1) := by decide +kernel
theorem d_En_read_15 : decode b_En_read 15 = .ok (.iadd, 1) := by decide +kernel
theorem d_En_read_16 : decode b_En_read 16 = .ok (.invokevirtual 25, 3) := by decide +kernel
theorem d_En_read_19 : decode b_En_read 19 = .ok (.putfield 29, 3) := by decide +kernel
theorem d_En_read_22 : decode b_En_read 22 = .ok (.aload_n 0, 1) := by decide +kernel
theorem d_En_read_23 : decode b_En_read 23 = .ok (.getfield 29, 3) := by decide +kernel
theorem d_En_read_26 : decode b_En_read 26 = .ok (.aload_n 0, 1) := by decide +kernel
theorem d_En_read_27 : decode b_En_read 27 = .ok (.invokevirtual 33, 3) := by decide +kernel
theorem d_En_read_30 : decode b_En_read 30 = .ok (.i2l, 1) := by decide +kernel
theorem d_En_read_31 : decode b_En_read 31 = .ok (.lmul, 1) := by decide +kernel
theorem d_En_read_32 : decode b_En_read 32 = .ok (.lstore_n 3, 1) := by decide +kernel
theorem d_En_read_33 : decode b_En_read 33 = .ok (.aload_n 0, 1) := by decide +kernel
theorem d_En_read_34 : decode b_En_read 34 = .ok (.lload_n 3, 1) := by decide +kernel
theorem d_En_read_35 : decode b_En_read 35 = .ok (.ldc2_w 37, 3) := by decide +kernel
theorem d_En_read_38 : decode b_En_read 38 = .ok (.lcmp, 1) := by decide +kernel
theorem d_En_read_39 : decode b_En_read 39 = .ok (.ifCond .gt 11, 3) := by decide +kernel
theorem d_En_read_42 : decode b_En_read 42 = .ok (.iload_n 2, 1) := by decide +kernel
theorem d_En_read_43 : decode b_En_read 43 = .ok (.bipush 8, 2) := by decide +kernel
theorem d_En_read_45 : decode b_En_read 45 = .ok (.iadd, 1) := by decide +kernel
theorem d_En_read_46 : decode b_En_read 46 = .ok (.i2l, 1) := by decide +kernel
theorem d_En_read_47 : decode b_En_read 47 = .ok (.goto 11, 3) := by decide +kernel
theorem d_En_read_50 : decode b_En_read 50 = .ok (.aload_n 1, 1) := by decide +kernel
theorem d_En_read_51 : decode b_En_read 51 = .ok (.iload_n 2, 1) := by decide +kernel
theorem d_En_read_52 : decode b_En_read 52 = .ok (.bipush 8, 2) := by decide +kernel
theorem d_En_read_54 : decode b_En_read 54 = .ok (.iadd, 1) := by decide +kernel
theorem d_En_read_55 : decode b_En_read 55 = .ok (.invokevirtual 25, 3) := by decide +kernel
theorem d_En_read_58 : decode b_En_read 58 = .ok (.putfield 39, 3) := by decide +kernel
theorem d_En_read_61 : decode b_En_read 61 = .ok (.aload_n 0, 1) := by decide +kernel
theorem d_En_read_62 : decode b_En_read 62 = .ok (.lload_n 3, 1) := by decide +kernel
theorem d_En_read_63 : decode b_En_read 63 = .ok (.lconst 0, 1) := by decide +kernel
theorem d_En_read_64 : decode b_En_read 64 = .ok (.lcmp, 1) := by decide +kernel
theorem d_En_read_65 : decode b_En_read 65 = .ok (.ifCond .eq 15, 3) := by decide +kernel
theorem d_En_read_68 : decode b_En_read 68 = .ok (.aload_n 1, 1) := by decide +kernel
theorem d_En_read_69 : decode b_En_read 69 = .ok (.aload_n 0, 1) := by decide +kernel
theorem d_En_read_70 : decode b_En_read 70 = .ok (.getfield 39, 3) := by decide +kernel
theorem d_En_read_73 : decode b_En_read 73 = .ok (.lload_n 3, 1) := by decide +kernel
theorem d_En_read_74 : decode b_En_read 74 = .ok (.invokevirtual 42, 3) := by decide +kernel
theorem d_En_read_77 : decode b_En_read 77 = .ok (.ifCond .ne 7, 3) := by decide +kernel
theorem d_En_read_80 : decode b_En_read 80 = .ok (.iconst 1, 1) := by decide +kernel
theorem d_En_read_81 : decode b_En_read 81 = .ok (.goto 4, 3) := by decide +kernel
theorem d_En_read_84 : decode b_En_read 84 = .ok (.iconst 0, 1) := by decide +kernel
theorem d_En_read_85 : decode b_En_read 85 = .ok (.putfield 46, 3) := by decide +kernel
theorem d_En_read_88 : decode b_En_read 88 = .ok (.return_, 1) := by decide +kernel
def wp_En_read_b80 (post : (Nat → Int32) → (Nat → Int64) → Prop) (I_p1 : Nat → Int32) (f_p1_bytes : Nat → Int32) (I_p0 : Nat → Int32) (L_p0 : Nat → Int64) : Prop :=
  post (upd I_p0 3 1) L_p0
def wp_En_read_b58 (post : (Nat → Int32) → (Nat → Int64) → Prop) (I_p1 : Nat → Int32) (f_p1_bytes : Nat → Int32) (I_p0 : Nat → Int32) (L_p0 : Nat → Int64) (x3 : Int64) (s0 : Int64) : Prop :=
  ((x3 = 0 →
    wp_En_read_b80 post I_p1 f_p1_bytes I_p0 (vp_updL L_p0 2 s0)) ∧
   (¬ x3 = 0 →
    wp_St_holds (fun (r74 : Int32) =>
      ((r74 = 0 →
        wp_En_read_b80 post I_p1 f_p1_bytes I_p0 (vp_updL L_p0 2 s0)) ∧
       (¬ r74 = 0 →
        post (upd I_p0 3 0) (vp_updL L_p0 2 s0)))) I_p1 s0 x3))
def wp_En_read (post : (Nat → Int32) → (Nat → Int64) → Prop) (I_p1 : Nat → Int32) (f_p1_bytes : Nat → Int32) (I_p0 : Nat → Int32) (L_p0 : Nat → Int64) (x2 : Int32) : Prop :=
  wp_St_shortAt (fun (r5 : Int32) =>
    wp_St_longAt (fun (r16 : Int64) =>
      wp_En_valueBytes (fun (r27 : Int32) =>
        ((4 < (r16 * r27.toInt64) →
          wp_St_longAt (fun (r55 : Int64) =>
            wp_En_read_b58 post I_p1 f_p1_bytes (upd I_p0 0 r5) (vp_updL L_p0 1 r16) (r16 * r27.toInt64) r55) I_p1 f_p1_bytes (x2 + 8)) ∧
         (¬ 4 < (r16 * r27.toInt64) →
          wp_En_read_b58 post I_p1 f_p1_bytes (upd I_p0 0 r5) (vp_updL L_p0 1 r16) (r16 * r27.toInt64) ((x2 + 8).toInt64)))) (upd I_p0 0 r5) (vp_updL L_p0 1 r16)) I_p1 f_p1_bytes (x2 + 4)) I_p1 f_p1_bytes (x2 + 2)
set_option maxRecDepth 100000 in
set_option maxHeartbeats 4000000 in
theorem c_En_read (l : Launch) (dC : Nat → ClassId) (dI : Nat → Nat → Nat) (cI : ClassId) (a_p0 : Nat) (a_p1 : Nat) (A_p1 : Nat → Nat) (I_p1 : Nat → Int32) (f_p1_bytes : Nat → Int32) (I_p0 : Nat → Int32) (L_p0 : Nat → Int64) (x2 : Int32) {post : (Nat → Int32) → (Nat → Int64) → Prop} (hw : wp_En_read post I_p1 f_p1_bytes I_p0 L_p0 x2) : gm_v l y_En_read ws_En_read ({ frames := 2, cells := 0, slots := 0, locals := 44 } : Room) (dC, dI) vwCl [(cI, .int)] [.ref a_p0, .ref a_p1, .int x2] [oEn a_p0 I_p0 L_p0, oSt a_p1 A_p1 I_p1, gz cI (A_p1 0) 900 f_p1_bytes] (fun (u : (Nat → Int32) × (Nat → Int64)) => [oEn a_p0 u.1 u.2, oSt a_p1 A_p1 I_p1, gz cI (A_p1 0) 900 f_p1_bytes]) (fun (u : (Nat → Int32) × (Nat → Int64)) => post  u.1 u.2) := by
  refine gm_vof (cc := b_En_read) (maxL := 5) (by decide) rfl (Nat.le_of_ble_eq_true rfl) ?_
  intro p e s m args below meth c A Q hx hb hml hown hg hK hN hA hnm hret
  have hown : s.vm.findClass R_En = some m.cls := hown
  have b80 : ∀ (H : Heap) (locs : List Loc) (ls : Array Slot) (I_p0 : Nat → Int32) (L_p0 : Nat → Int64), va_P (dC, dI) vwCl [oEn a_p0 I_p0 L_p0, oSt a_p1 A_p1 I_p1, gz cI (A_p1 0) 900 f_p1_bytes] H → va_D A [oEn a_p0 I_p0 L_p0, oSt a_p1 A_p1 I_p1, gz cI (A_p1 0) 900 f_p1_bytes] → va_S A s.heap H locs → lv_has ls 5 [] → wp_En_read_b80 post I_p1 f_p1_bytes I_p0 L_p0 → W p l e ({ frames := 2, cells := 0, slots := 0, locals := 44 } : Room) s m args below meth c H locs 0 0 Q (F0 m 80 ls [.ref a_p0]) := by
    intro H locs ls I_p0 L_p0 hP hD hS hl hw
    unfold wp_En_read_b80 at hw
    refine lv_iconst (v := 1) hx hb d_En_read_80 (by decide) ?_
    refine lv_goto hx hb d_En_read_81 rfl ?_
    refine va_put (D := (dC, dI)) (ci := 1) (v := .int 1) (ty := .boolean) (C := R_En) (T := T_En) (N := 4) hx hb hg in_En t_En tok_En nok_En hown hK hP hD hS 0 rfl rfl 3 (by decide) (hg _ t_269) (fun _ h9 => h9) rfl (by decide +kernel) rfl rfl (Nat.le_of_ble_eq_true rfl) d_En_read_85 (fun H locs hP hD hS => ?_)
    have hP : va_P (dC, dI) vwCl [oEn a_p0 (upd I_p0 3 1) L_p0, oSt a_p1 A_p1 I_p1, gz cI (A_p1 0) 900 f_p1_bytes] H := hP
    have hD : va_D A [oEn a_p0 (upd I_p0 3 1) L_p0, oSt a_p1 A_p1 I_p1, gz cI (A_p1 0) 900 f_p1_bytes] := hD
    exact hret _ _ _ _ ((upd I_p0 3 1), L_p0) d_En_read_88 hP hD hS hw
  have b58 : ∀ (H : Heap) (locs : List Loc) (ls : Array Slot) (I_p0 : Nat → Int32) (L_p0 : Nat → Int64) (x3 : Int64) (s0 : Int64), va_P (dC, dI) vwCl [oEn a_p0 I_p0 L_p0, oSt a_p1 A_p1 I_p1, gz cI (A_p1 0) 900 f_p1_bytes] H → va_D A [oEn a_p0 I_p0 L_p0, oSt a_p1 A_p1 I_p1, gz cI (A_p1 0) 900 f_p1_bytes] → va_S A s.heap H locs → lv_has ls 5 [(0, .ref a_p0), (1, .ref a_p1), (3, .long x3)] → wp_En_read_b58 post I_p1 f_p1_bytes I_p0 L_p0 x3 s0 → W p l e ({ frames := 2, cells := 0, slots := 0, locals := 44 } : Room) s m args below meth c H locs 0 0 Q (F0 m 58 ls [.long s0, .ref a_p0]) := by
    intro H locs ls I_p0 L_p0 x3 s0 hP hD hS hl hw
    unfold wp_En_read_b58 at hw
    refine va_put (D := (dC, dI)) (ci := 1) (v := .long s0) (ty := .long) (C := R_En) (T := T_En) (N := 4) hx hb hg in_En t_En tok_En nok_En hown hK hP hD hS 0 rfl rfl 2 (by decide) (hg _ t_268) (fun _ h9 => h9) rfl (by decide +kernel) rfl rfl (Nat.le_of_ble_eq_true rfl) d_En_read_58 (fun H locs hP hD hS => ?_)
    have hP : va_P (dC, dI) vwCl [oEn a_p0 I_p0 (vp_updL L_p0 2 s0), oSt a_p1 A_p1 I_p1, gz cI (A_p1 0) 900 f_p1_bytes] H := hP
    have hD : va_D A [oEn a_p0 I_p0 (vp_updL L_p0 2 s0), oSt a_p1 A_p1 I_p1, gz cI (A_p1 0) 900 f_p1_bytes] := hD
    refine lv_aload_n hx hb d_En_read_61 rfl (lv_at hl 0 rfl) ?_
    refine lv_lload_n hx hb d_En_read_62 rfl (lv_at hl 2 rfl) ?_
    refine lv_lconst (v := 0) hx hb d_En_read_63 (by decide) ?_
    refine W.lcmp hx hb d_En_read_64 ?_
    refine lv_if_eq hx hb d_En_read_65 rfl (fun hc => ?_) (fun hc => ?_)
    · have hw := hw.1 ((lg_cmp_eq _ _).mp hc)
      exact b80 _ _ _ I_p0 (vp_updL L_p0 2 s0) hP hD hS (lv_sub hl [] rfl) hw
    · have hw := hw.2 (fun h9 => hc ((lg_cmp_eq _ _).mpr h9))
      refine lv_aload_n hx hb d_En_read_68 rfl (lv_at hl 1 rfl) ?_
      refine lv_aload_n hx hb d_En_read_69 rfl (lv_at hl 0 rfl) ?_
      refine va_get (D := (dC, dI)) (ci := 1) (v := .long s0) (C := R_En) (T := T_En) (N := 4) hx hb hg in_En hown hK hP 0 rfl rfl 2 (by decide) (hg _ t_268) (fun _ h9 => h9) rfl d_En_read_70 ?_
      refine lv_lload_n hx hb d_En_read_73 rfl (lv_at hl 2 rfl) ?_
      refine gc_i (wn := fun (_ : Unit) => [oEn a_p0 I_p0 (vp_updL L_p0 2 s0), oSt a_p1 A_p1 I_p1, gz cI (A_p1 0) 900 f_p1_bytes]) (wr := [oEn a_p0 I_p0 (vp_updL L_p0 2 s0), gz cI (A_p1 0) 900 f_p1_bytes]) (gr_V (As := [.long s0, .long x3]) (rest := [.ref a_p0]) ⟨hx, hb, hml, hown, hg⟩ (c_St_holds l dC dI cI a_p1 A_p1 I_p1 s0 x3 hw _) (cwV 2 hg (gg_V t_677 t_363 t_364 t_61 t_365) rfl rfl rfl (by decide +kernel) ⟨Nat.le_of_ble_eq_true rfl, Nat.le_of_ble_eq_true rfl⟩) hK hN hP hD [1] (by decide) rfl 1 7 rfl rfl rfl rfl hl.1 rfl (Nat.le_of_ble_eq_true rfl) d_En_read_74 ⟨Nat.le_of_ble_eq_true rfl, Nat.le_of_ble_eq_true rfl⟩) rfl rfl hP hD hS hA [1] [0, 2] [0, 2, 1] rfl rfl (by decide) (by decide) (by decide) (fun _ => rfl) ?_
      intro r74 _ H locs hw hP hD hS
      try dsimp only at hw
      have hP : va_P (dC, dI) vwCl [oEn a_p0 I_p0 (vp_updL L_p0 2 s0), oSt a_p1 A_p1 I_p1, gz cI (A_p1 0) 900 f_p1_bytes] H := hP
      have hD : va_D A [oEn a_p0 I_p0 (vp_updL L_p0 2 s0), oSt a_p1 A_p1 I_p1, gz cI (A_p1 0) 900 f_p1_bytes] := hD
      refine lv_if_ne hx hb d_En_read_77 rfl (fun hc => ?_) (fun hc => ?_)
      · have hw := hw.2 hc
        refine lv_iconst (v := 0) hx hb d_En_read_84 (by decide) ?_
        refine va_put (D := (dC, dI)) (ci := 1) (v := .int 0) (ty := .boolean) (C := R_En) (T := T_En) (N := 4) hx hb hg in_En t_En tok_En nok_En hown hK hP hD hS 0 rfl rfl 3 (by decide) (hg _ t_269) (fun _ h9 => h9) rfl (by decide +kernel) rfl rfl (Nat.le_of_ble_eq_true rfl) d_En_read_85 (fun H locs hP hD hS => ?_)
        have hP : va_P (dC, dI) vwCl [oEn a_p0 (upd I_p0 3 0) (vp_updL L_p0 2 s0), oSt a_p1 A_p1 I_p1, gz cI (A_p1 0) 900 f_p1_bytes] H := hP
        have hD : va_D A [oEn a_p0 (upd I_p0 3 0) (vp_updL L_p0 2 s0), oSt a_p1 A_p1 I_p1, gz cI (A_p1 0) 900 f_p1_bytes] := hD
        exact hret _ _ _ _ ((upd I_p0 3 0), (vp_updL L_p0 2 s0)) d_En_read_88 hP hD hS hw
      · have hw := hw.1 hc
        exact b80 _ _ _ I_p0 (vp_updL L_p0 2 s0) hP hD hS (lv_sub hl [] rfl) hw
  intro ls hl hP hD hS
  have hl : lv_has ls 5 [(0, .ref a_p0), (1, .ref a_p1), (2, .int x2)] := hl
  unfold wp_En_read at hw
  refine lv_aload_n hx hb d_En_read_0 rfl (lv_at hl 0 rfl) ?_
  refine lv_aload_n hx hb d_En_read_1 rfl (lv_at hl 1 rfl) ?_
  refine lv_iload_n hx hb d_En_read_2 rfl (lv_at hl 2 rfl) ?_
  refine lv_iconst (v := 2) hx hb d_En_read_3 (by decide) ?_
  refine lv_iadd hx hb d_En_read_4 ?_
  refine gc_i (wn := fun (_ : Unit) => [oEn a_p0 I_p0 L_p0, oSt a_p1 A_p1 I_p1, gz cI (A_p1 0) 900 f_p1_bytes]) (wr := [oEn a_p0 I_p0 L_p0]) (gr_V (As := [.int (x2 + 2)]) (rest := [.ref a_p0]) ⟨hx, hb, hml, hown, hg⟩ (c_St_shortAt l dC dI cI a_p1 A_p1 I_p1 f_p1_bytes (x2 + 2) hw _) (cwV 1 hg (gg_V t_666 t_458 t_459 t_61 t_460) rfl rfl rfl (by decide +kernel) ⟨Nat.le_of_ble_eq_true rfl, Nat.le_of_ble_eq_true rfl⟩) hK hN hP hD [1, 2] (by decide) rfl 1 7 rfl rfl rfl rfl hl.1 rfl (Nat.le_of_ble_eq_true rfl) d_En_read_5 ⟨Nat.le_of_ble_eq_true rfl, Nat.le_of_ble_eq_true rfl⟩) rfl rfl hP hD hS hA [1, 2] [0] [0, 1, 2] rfl rfl (by decide) (by decide) (by decide) (fun _ => rfl) ?_
  intro r5 _ H locs hw hP hD hS
  try dsimp only at hw
  have hP : va_P (dC, dI) vwCl [oEn a_p0 I_p0 L_p0, oSt a_p1 A_p1 I_p1, gz cI (A_p1 0) 900 f_p1_bytes] H := hP
  have hD : va_D A [oEn a_p0 I_p0 L_p0, oSt a_p1 A_p1 I_p1, gz cI (A_p1 0) 900 f_p1_bytes] := hD
  refine va_put (D := (dC, dI)) (ci := 1) (v := .int r5) (ty := .int) (C := R_En) (T := T_En) (N := 4) hx hb hg in_En t_En tok_En nok_En hown hK hP hD hS 0 rfl rfl 0 (by decide) (hg _ t_265) (fun _ h9 => h9) rfl (by decide +kernel) rfl rfl (Nat.le_of_ble_eq_true rfl) d_En_read_8 (fun H locs hP hD hS => ?_)
  have hP : va_P (dC, dI) vwCl [oEn a_p0 (upd I_p0 0 r5) L_p0, oSt a_p1 A_p1 I_p1, gz cI (A_p1 0) 900 f_p1_bytes] H := hP
  have hD : va_D A [oEn a_p0 (upd I_p0 0 r5) L_p0, oSt a_p1 A_p1 I_p1, gz cI (A_p1 0) 900 f_p1_bytes] := hD
  refine lv_aload_n hx hb d_En_read_11 rfl (lv_at hl 0 rfl) ?_
  refine lv_aload_n hx hb d_En_read_12 rfl (lv_at hl 1 rfl) ?_
  refine lv_iload_n hx hb d_En_read_13 rfl (lv_at hl 2 rfl) ?_
  refine lv_iconst (v := 4) hx hb d_En_read_14 (by decide) ?_
  refine lv_iadd hx hb d_En_read_15 ?_
  refine gc_l (wn := fun (_ : Unit) => [oEn a_p0 (upd I_p0 0 r5) L_p0, oSt a_p1 A_p1 I_p1, gz cI (A_p1 0) 900 f_p1_bytes]) (wr := [oEn a_p0 (upd I_p0 0 r5) L_p0]) (gr_V (As := [.int (x2 + 4)]) (rest := [.ref a_p0]) ⟨hx, hb, hml, hown, hg⟩ (c_St_longAt l dC dI cI a_p1 A_p1 I_p1 f_p1_bytes (x2 + 4) hw _) (cwV 1 hg (gg_V t_671 t_462 t_463 t_61 t_464) rfl rfl rfl (by decide +kernel) ⟨Nat.le_of_ble_eq_true rfl, Nat.le_of_ble_eq_true rfl⟩) hK hN hP hD [1, 2] (by decide) rfl 1 7 rfl rfl rfl rfl hl.1 rfl (Nat.le_of_ble_eq_true rfl) d_En_read_16 ⟨Nat.le_of_ble_eq_true rfl, Nat.le_of_ble_eq_true rfl⟩) rfl rfl hP hD hS hA [1, 2] [0] [0, 1, 2] rfl rfl (by decide) (by decide) (by decide) (fun _ => rfl) ?_
  intro r16 _ H locs hw hP hD hS
  try dsimp only at hw
  have hP : va_P (dC, dI) vwCl [oEn a_p0 (upd I_p0 0 r5) L_p0, oSt a_p1 A_p1 I_p1, gz cI (A_p1 0) 900 f_p1_bytes] H := hP
  have hD : va_D A [oEn a_p0 (upd I_p0 0 r5) L_p0, oSt a_p1 A_p1 I_p1, gz cI (A_p1 0) 900 f_p1_bytes] := hD
  refine va_put (D := (dC, dI)) (ci := 1) (v := .long r16) (ty := .long) (C := R_En) (T := T_En) (N := 4) hx hb hg in_En t_En tok_En nok_En hown hK hP hD hS 0 rfl rfl 1 (by decide) (hg _ t_266) (fun _ h9 => h9) rfl (by decide +kernel) rfl rfl (Nat.le_of_ble_eq_true rfl) d_En_read_19 (fun H locs hP hD hS => ?_)
  have hP : va_P (dC, dI) vwCl [oEn a_p0 (upd I_p0 0 r5) (vp_updL L_p0 1 r16), oSt a_p1 A_p1 I_p1, gz cI (A_p1 0) 900 f_p1_bytes] H := hP
  have hD : va_D A [oEn a_p0 (upd I_p0 0 r5) (vp_updL L_p0 1 r16), oSt a_p1 A_p1 I_p1, gz cI (A_p1 0) 900 f_p1_bytes] := hD
  refine lv_aload_n hx hb d_En_read_22 rfl (lv_at hl 0 rfl) ?_
  refine va_get (D := (dC, dI)) (ci := 1) (v := .long r16) (C := R_En) (T := T_En) (N := 4) hx hb hg in_En hown hK hP 0 rfl rfl 1 (by decide) (hg _ t_266) (fun _ h9 => h9) rfl d_En_read_23 ?_
  refine lv_aload_n hx hb d_En_read_26 rfl (lv_at hl 0 rfl) ?_
  refine gc_i (wn := fun (_ : Unit) => [oEn a_p0 (upd I_p0 0 r5) (vp_updL L_p0 1 r16), oSt a_p1 A_p1 I_p1, gz cI (A_p1 0) 900 f_p1_bytes]) (wr := [oSt a_p1 A_p1 I_p1, gz cI (A_p1 0) 900 f_p1_bytes]) (gr_V (As := []) (rest := [.long r16]) ⟨hx, hb, hml, hown, hg⟩ (c_En_valueBytes l dC dI cI a_p0 (upd I_p0 0 r5) (vp_updL L_p0 1 r16) hw _) (cwV 0 hg (gg_V t_672 t_674 t_20 t_69 t_675) rfl rfl rfl (by decide +kernel) ⟨Nat.le_of_ble_eq_true rfl, Nat.le_of_ble_eq_true rfl⟩) hK hN hP hD [0] (by decide) rfl 0 1 rfl rfl rfl rfl hl.1 rfl (Nat.le_of_ble_eq_true rfl) d_En_read_27 ⟨Nat.le_of_ble_eq_true rfl, Nat.le_of_ble_eq_true rfl⟩) rfl rfl hP hD hS hA [0] [1, 2] [2, 0, 1] rfl rfl (by decide) (by decide) (by decide) (fun _ => rfl) ?_
  intro r27 _ H locs hw hP hD hS
  try dsimp only at hw
  have hP : va_P (dC, dI) vwCl [oEn a_p0 (upd I_p0 0 r5) (vp_updL L_p0 1 r16), oSt a_p1 A_p1 I_p1, gz cI (A_p1 0) 900 f_p1_bytes] H := hP
  have hD : va_D A [oEn a_p0 (upd I_p0 0 r5) (vp_updL L_p0 1 r16), oSt a_p1 A_p1 I_p1, gz cI (A_p1 0) 900 f_p1_bytes] := hD
  refine lv_i2l hx hb d_En_read_30 rfl ?_
  refine lv_lmul hx hb d_En_read_31 ?_
  refine lv_lstore_n (lv' := [(3, .long (r16 * r27.toInt64)), (0, .ref a_p0), (1, .ref a_p1), (2, .int x2)]) hx hb d_En_read_32 rfl hl (by decide) rfl (fun ls hl => ?_)
  refine lv_aload_n hx hb d_En_read_33 rfl (lv_at hl 1 rfl) ?_
  refine lv_lload_n hx hb d_En_read_34 rfl (lv_at hl 0 rfl) ?_
  refine lv_ldc2 (v := 4) hx hb hown (hg _ t_676) d_En_read_35 ?_
  refine W.lcmp hx hb d_En_read_38 ?_
  refine lv_if_gt hx hb d_En_read_39 rfl (fun hc => ?_) (fun hc => ?_)
  · have hw := hw.1 ((lg_cmp_gt _ _).mp hc)
    refine lv_aload_n hx hb d_En_read_50 rfl (lv_at hl 2 rfl) ?_
    refine lv_iload_n hx hb d_En_read_51 rfl (lv_at hl 3 rfl) ?_
    refine lv_bipush (v := 8) hx hb d_En_read_52 (by decide) ?_
    refine lv_iadd hx hb d_En_read_54 ?_
    refine gc_l (wn := fun (_ : Unit) => [oEn a_p0 (upd I_p0 0 r5) (vp_updL L_p0 1 r16), oSt a_p1 A_p1 I_p1, gz cI (A_p1 0) 900 f_p1_bytes]) (wr := [oEn a_p0 (upd I_p0 0 r5) (vp_updL L_p0 1 r16)]) (gr_V (As := [.int (x2 + 8)]) (rest := [.ref a_p0]) ⟨hx, hb, hml, hown, hg⟩ (c_St_longAt l dC dI cI a_p1 A_p1 I_p1 f_p1_bytes (x2 + 8) hw _) (cwV 1 hg (gg_V t_671 t_462 t_463 t_61 t_464) rfl rfl rfl (by decide +kernel) ⟨Nat.le_of_ble_eq_true rfl, Nat.le_of_ble_eq_true rfl⟩) hK hN hP hD [1, 2] (by decide) rfl 1 7 rfl rfl rfl rfl hl.1 rfl (Nat.le_of_ble_eq_true rfl) d_En_read_55 ⟨Nat.le_of_ble_eq_true rfl, Nat.le_of_ble_eq_true rfl⟩) rfl rfl hP hD hS hA [1, 2] [0] [0, 1, 2] rfl rfl (by decide) (by decide) (by decide) (fun _ => rfl) ?_
    intro r55 _ H locs hw hP hD hS
    try dsimp only at hw
    have hP : va_P (dC, dI) vwCl [oEn a_p0 (upd I_p0 0 r5) (vp_updL L_p0 1 r16), oSt a_p1 A_p1 I_p1, gz cI (A_p1 0) 900 f_p1_bytes] H := hP
    have hD : va_D A [oEn a_p0 (upd I_p0 0 r5) (vp_updL L_p0 1 r16), oSt a_p1 A_p1 I_p1, gz cI (A_p1 0) 900 f_p1_bytes] := hD
    exact b58 _ _ _ (upd I_p0 0 r5) (vp_updL L_p0 1 r16) (r16 * r27.toInt64) r55 hP hD hS (lv_sub hl [1, 2, 0] rfl) hw
  · have hw := hw.2 (fun h9 => hc ((lg_cmp_gt _ _).mpr h9))
    refine lv_iload_n hx hb d_En_read_42 rfl (lv_at hl 3 rfl) ?_
    refine lv_bipush (v := 8) hx hb d_En_read_43 (by decide) ?_
    refine lv_iadd hx hb d_En_read_45 ?_
    refine lv_i2l hx hb d_En_read_46 rfl ?_
    refine lv_goto hx hb d_En_read_47 rfl ?_
    exact b58 _ _ _ (upd I_p0 0 r5) (vp_updL L_p0 1 r16) (r16 * r27.toInt64) ((x2 + 8).toInt64) hP hD hS (lv_sub hl [1, 2, 0] rfl) hw
theorem d_En_find_0 : decode b_En_find 0 = .ok (.aload_n 1, 1) := by decide +kernel
theorem d_En_find_1 : decode b_En_find 1 = .ok (.iload_n 2, 1) := by decide +kernel
theorem d_En_find_2 : decode b_En_find 2 = .ok (.invokevirtual 9, 3) := by decide +kernel
theorem d_En_find_5 : decode b_En_find 5 = .ok (.istore 4, 2) := by decide +kernel
theorem d_En_find_7 : decode b_En_find 7 = .ok (.iconst 0, 1) := by decide +kernel
theorem d_En_find_8 : decode b_En_find 8 = .ok (.istore 5, 2) := by decide +kernel
theorem d_En_find_10 : decode b_En_find 10 = .ok (.iload 5, 2) := by decide +kernel
theorem d_En_find_12 : decode b_En_find 12 = .ok (.iload 4, 2) := by decide +kernel
theorem d_En_find_14 : decode b_En_find 14 = .ok (.if_icmp .ge 39, 3) := by decide +kernel
theorem d_En_find_17 : decode b_En_find 17 = .ok (.iload_n 2, 1) := by decide +kernel
theorem d_En_find_18 : decode b_En_find 18 = .ok (.iconst 2, 1) := by decide +kernel
theorem d_En_find_19 : decode b_En_find 19 = .ok (.iadd, 1) := by decide +kernel
theorem d_En_find_20 : decode b_En_find 20 = .ok (.bipush 12, 2) := by decide +kernel
theorem d_En_find_22 : decode b_En_find 22 = .ok (.iload 5, 2) := by decide +kernel
theorem d_En_find_24 : decode b_En_find 24 = .ok (.imul, 1) := by decide +kernel
theorem d_En_find_25 : decode b_En_find 25 = .ok (.iadd, 1) := by decide +kernel
theorem d_En_find_26 : decode b_En_find 26 = .ok (.istore 6, 2) := by decide +kernel
theorem d_En_find_28 : decode b_En_find 28 = .ok (.aload_n 1, 1) := by decide +kernel
theorem d_En_find_29 : decode b_En_find 29 = .ok (.iload 6, 2) := by decide +kernel
theorem d_En_find_31 : decode b_En_find 31 = .ok (.invokevirtual 9, 3) := by decide +kernel
theorem d_En_find_34 : decode b_En_find 34 = .ok (.iload_n 3, 1) := by decide +kernel
theorem d_En_find_35 : decode b_En_find 35 = .ok (.if_icmp .ne 12, 3) := by decide +kernel
theorem d_En_find_38 : decode b_En_find 38 = .ok (.aload_n 0, 1) := by decide +kernel
theorem d_En_find_39 : decode b_En_find 39 = .ok (.aload_n 1, 1) := by decide +kernel
theorem d_En_find_40 : decode b_En_find 40 = .ok (.iload 6, 2) := by decide +kernel
theorem d_En_find_42 : decode b_En_find 42 = .ok (.invokevirtual 15, 3) := by decide +kernel
theorem d_En_find_45 : decode b_En_find 45 = .ok (.iconst 1, 1) := by decide +kernel
theorem d_En_find_46 : decode b_En_find 46 = .ok (.ireturn, 1) := by decide +kernel
theorem d_En_find_47 : decode b_En_find 47 = .ok (.iinc 5 1, 3) := by decide +kernel
theorem d_En_find_50 : decode b_En_find 50 = .ok (.goto (-40), 3) := by decide +kernel
theorem d_En_find_53 : decode b_En_find 53 = .ok (.iconst 0, 1) := by decide +kernel
theorem d_En_find_54 : decode b_En_find 54 = .ok (.ireturn, 1) := by decide +kernel
def wp_En_find_l10 (post : Int32 → (Nat → Int32) → (Nat → Int64) → Prop) (I_p1 : Nat → Int32) (f_p1_bytes : Nat → Int32) : Nat → (Nat → Int32) → (Nat → Int64) → Int32 → Int32 → Int32 → Int32 → Prop
  | 0, _, _, _, _, _, _ => False
  | n + 1, I_p0, L_p0, x2, x3, x4, x5 =>
    ((x4 ≤ x5 →
      post 0 I_p0 L_p0) ∧
     (¬ x4 ≤ x5 →
      wp_St_shortAt (fun (r31 : Int32) =>
        ((r31 = x3 →
          wp_En_read (fun (I_p0_42 : Nat → Int32) (L_p0_42 : Nat → Int64) =>
            post 1 I_p0_42 L_p0_42) I_p1 f_p1_bytes I_p0 L_p0 ((x2 + 2) + (12 * x5))) ∧
         (¬ r31 = x3 →
          wp_En_find_l10 post I_p1 f_p1_bytes n I_p0 L_p0 x2 x3 x4 (x5 + 1)))) I_p1 f_p1_bytes ((x2 + 2) + (12 * x5))))
def wp_En_find (post : Int32 → (Nat → Int32) → (Nat → Int64) → Prop) (I_p1 : Nat → Int32) (f_p1_bytes : Nat → Int32) (I_p0 : Nat → Int32) (L_p0 : Nat → Int64) (x2 : Int32) (x3 : Int32) : Prop :=
  wp_St_shortAt (fun (r2 : Int32) =>
    (∃ n1 : Nat, wp_En_find_l10 post I_p1 f_p1_bytes n1 I_p0 L_p0 x2 x3 r2 0)) I_p1 f_p1_bytes x2
set_option maxRecDepth 100000 in
set_option maxHeartbeats 4000000 in
theorem c_En_find (l : Launch) (dC : Nat → ClassId) (dI : Nat → Nat → Nat) (cI : ClassId) (a_p0 : Nat) (a_p1 : Nat) (A_p1 : Nat → Nat) (I_p1 : Nat → Int32) (f_p1_bytes : Nat → Int32) (I_p0 : Nat → Int32) (L_p0 : Nat → Int64) (x2 : Int32) (x3 : Int32) {post : Int32 → (Nat → Int32) → (Nat → Int64) → Prop} (hw : wp_En_find post I_p1 f_p1_bytes I_p0 L_p0 x2 x3) : gm_i l y_En_find ws_En_find ({ frames := 3, cells := 0, slots := 0, locals := 68 } : Room) (dC, dI) vwCl [(cI, .int)] [.ref a_p0, .ref a_p1, .int x2, .int x3] [oEn a_p0 I_p0 L_p0, oSt a_p1 A_p1 I_p1, gz cI (A_p1 0) 900 f_p1_bytes] (fun (u : (Nat → Int32) × (Nat → Int64)) => [oEn a_p0 u.1 u.2, oSt a_p1 A_p1 I_p1, gz cI (A_p1 0) 900 f_p1_bytes]) (fun (r : Int32) (u : (Nat → Int32) × (Nat → Int64)) => post r u.1 u.2) := by
  refine gm_iof (cc := b_En_find) (maxL := 7) (ty := .boolean) (by decide) rfl (Nat.le_of_ble_eq_true rfl) ?_
  intro p e s m args below meth c A Q hx hb hml hown hg hK hN hA hret
  have hown : s.vm.findClass R_En = some m.cls := hown
  have l10 : ∀ n : Nat, ∀ (H : Heap) (locs : List Loc) (ls : Array Slot) (I_p0 : Nat → Int32) (L_p0 : Nat → Int64) (x2 : Int32) (x3 : Int32) (x4 : Int32) (x5 : Int32), va_P (dC, dI) vwCl [oEn a_p0 I_p0 L_p0, oSt a_p1 A_p1 I_p1, gz cI (A_p1 0) 900 f_p1_bytes] H → va_D A [oEn a_p0 I_p0 L_p0, oSt a_p1 A_p1 I_p1, gz cI (A_p1 0) 900 f_p1_bytes] → va_S A s.heap H locs → lv_has ls 7 [(0, .ref a_p0), (1, .ref a_p1), (2, .int x2), (3, .int x3), (4, .int x4), (5, .int x5)] → wp_En_find_l10 post I_p1 f_p1_bytes n I_p0 L_p0 x2 x3 x4 x5 → W p l e ({ frames := 3, cells := 0, slots := 0, locals := 68 } : Room) s m args below meth c H locs 0 0 Q (F0 m 10 ls []) := by
    intro n
    induction n with
    | zero => intro H locs ls I_p0 L_p0 x2 x3 x4 x5 hP hD hS hl hw; exact hw.elim
    | succ n ih =>
      intro H locs ls I_p0 L_p0 x2 x3 x4 x5 hP hD hS hl hw
      unfold wp_En_find_l10 at hw
      refine lv_iload hx hb d_En_find_10 (lv_at hl 5 rfl) ?_
      refine lv_iload hx hb d_En_find_12 (lv_at hl 4 rfl) ?_
      refine lv_icmp_ge hx hb d_En_find_14 rfl (fun hc => ?_) (fun hc => ?_)
      · have hw := hw.1 hc
        refine lv_iconst (v := 0) hx hb d_En_find_53 (by decide) ?_
        exact hret _ _ _ _ _ (I_p0, L_p0) d_En_find_54 rfl hP hD hS hw
      · have hw := hw.2 hc
        refine lv_iload_n hx hb d_En_find_17 rfl (lv_at hl 2 rfl) ?_
        refine lv_iconst (v := 2) hx hb d_En_find_18 (by decide) ?_
        refine lv_iadd hx hb d_En_find_19 ?_
        refine lv_bipush (v := 12) hx hb d_En_find_20 (by decide) ?_
        refine lv_iload hx hb d_En_find_22 (lv_at hl 5 rfl) ?_
        refine lv_imul hx hb d_En_find_24 ?_
        refine lv_iadd hx hb d_En_find_25 ?_
        refine lv_istore (lv' := [(6, .int ((x2 + 2) + (12 * x5))), (0, .ref a_p0), (1, .ref a_p1), (2, .int x2), (3, .int x3), (4, .int x4), (5, .int x5)]) hx hb d_En_find_26 hl (by decide) rfl (fun ls hl => ?_)
        refine lv_aload_n hx hb d_En_find_28 rfl (lv_at hl 2 rfl) ?_
        refine lv_iload hx hb d_En_find_29 (lv_at hl 0 rfl) ?_
        refine gc_i (wn := fun (_ : Unit) => [oEn a_p0 I_p0 L_p0, oSt a_p1 A_p1 I_p1, gz cI (A_p1 0) 900 f_p1_bytes]) (wr := [oEn a_p0 I_p0 L_p0]) (gr_V (As := [.int ((x2 + 2) + (12 * x5))]) (rest := []) ⟨hx, hb, hml, hown, hg⟩ (c_St_shortAt l dC dI cI a_p1 A_p1 I_p1 f_p1_bytes ((x2 + 2) + (12 * x5)) hw _) (cwV 1 hg (gg_V t_666 t_458 t_459 t_61 t_460) rfl rfl rfl (by decide +kernel) ⟨Nat.le_of_ble_eq_true rfl, Nat.le_of_ble_eq_true rfl⟩) hK hN hP hD [1, 2] (by decide) rfl 1 7 rfl rfl rfl rfl hl.1 rfl (Nat.le_of_ble_eq_true rfl) d_En_find_31 ⟨Nat.le_of_ble_eq_true rfl, Nat.le_of_ble_eq_true rfl⟩) rfl rfl hP hD hS hA [1, 2] [0] [0, 1, 2] rfl rfl (by decide) (by decide) (by decide) (fun _ => rfl) ?_
        intro r31 _ H locs hw hP hD hS
        try dsimp only at hw
        have hP : va_P (dC, dI) vwCl [oEn a_p0 I_p0 L_p0, oSt a_p1 A_p1 I_p1, gz cI (A_p1 0) 900 f_p1_bytes] H := hP
        have hD : va_D A [oEn a_p0 I_p0 L_p0, oSt a_p1 A_p1 I_p1, gz cI (A_p1 0) 900 f_p1_bytes] := hD
        refine lv_iload_n hx hb d_En_find_34 rfl (lv_at hl 4 rfl) ?_
        refine lv_icmp_ne hx hb d_En_find_35 rfl (fun hc => ?_) (fun hc => ?_)
        · have hw := hw.2 hc
          refine lv_iinc (k := 6) (v := (x5 + 1)) (lv' := [(5, .int (x5 + 1)), (6, .int ((x2 + 2) + (12 * x5))), (0, .ref a_p0), (1, .ref a_p1), (2, .int x2), (3, .int x3), (4, .int x4)]) hx hb d_En_find_47 hl rfl (congrArg (fun z => x5 + z) (by decide : Int32.ofInt 1 = 1)) (by decide) rfl (fun ls hl => ?_)
          refine lv_goto hx hb d_En_find_50 rfl ?_
          exact ih _ _ _ I_p0 L_p0 x2 x3 x4 (x5 + 1) hP hD hS (lv_sub hl [2, 3, 4, 5, 6, 0] rfl) hw
        · have hw := hw.1 hc
          refine lv_aload_n hx hb d_En_find_38 rfl (lv_at hl 1 rfl) ?_
          refine lv_aload_n hx hb d_En_find_39 rfl (lv_at hl 2 rfl) ?_
          refine lv_iload hx hb d_En_find_40 (lv_at hl 0 rfl) ?_
          refine gc_v (wn := fun u => [oEn a_p0 u.1 u.2, oSt a_p1 A_p1 I_p1, gz cI (A_p1 0) 900 f_p1_bytes]) (wr := []) (gr_V (As := [.ref a_p1, .int ((x2 + 2) + (12 * x5))]) (rest := []) ⟨hx, hb, hml, hown, hg⟩ (c_En_read l dC dI cI a_p0 a_p1 A_p1 I_p1 f_p1_bytes I_p0 L_p0 ((x2 + 2) + (12 * x5)) hw _) (cwV 2 hg (gg_V t_667 t_669 t_19 t_69 t_670) rfl rfl rfl (by decide +kernel) ⟨Nat.le_of_ble_eq_true rfl, Nat.le_of_ble_eq_true rfl⟩) hK hN hP hD [0, 1, 2] (by decide) rfl 0 1 rfl rfl rfl rfl hl.1 rfl (Nat.le_of_ble_eq_true rfl) d_En_find_42 ⟨Nat.le_of_ble_eq_true rfl, Nat.le_of_ble_eq_true rfl⟩) rfl rfl hP hD hS hA [0, 1, 2] [] [0, 1, 2] rfl rfl (by decide) (by decide) (by decide) (fun _ => rfl) ?_
          intro u9 H locs hw hP hD hS
          obtain ⟨I_p0_42, L_p0_42⟩ := u9
          try dsimp only at hw
          have hP : va_P (dC, dI) vwCl [oEn a_p0 I_p0_42 L_p0_42, oSt a_p1 A_p1 I_p1, gz cI (A_p1 0) 900 f_p1_bytes] H := hP
          have hD : va_D A [oEn a_p0 I_p0_42 L_p0_42, oSt a_p1 A_p1 I_p1, gz cI (A_p1 0) 900 f_p1_bytes] := hD
          refine lv_iconst (v := 1) hx hb d_En_find_45 (by decide) ?_
          exact hret _ _ _ _ _ (I_p0_42, L_p0_42) d_En_find_46 rfl hP hD hS hw
  intro ls hl hP hD hS
  have hl : lv_has ls 7 [(0, .ref a_p0), (1, .ref a_p1), (2, .int x2), (3, .int x3)] := hl
  unfold wp_En_find at hw
  refine lv_aload_n hx hb d_En_find_0 rfl (lv_at hl 1 rfl) ?_
  refine lv_iload_n hx hb d_En_find_1 rfl (lv_at hl 2 rfl) ?_
  refine gc_i (wn := fun (_ : Unit) => [oEn a_p0 I_p0 L_p0, oSt a_p1 A_p1 I_p1, gz cI (A_p1 0) 900 f_p1_bytes]) (wr := [oEn a_p0 I_p0 L_p0]) (gr_V (As := [.int x2]) (rest := []) ⟨hx, hb, hml, hown, hg⟩ (c_St_shortAt l dC dI cI a_p1 A_p1 I_p1 f_p1_bytes x2 hw _) (cwV 1 hg (gg_V t_666 t_458 t_459 t_61 t_460) rfl rfl rfl (by decide +kernel) ⟨Nat.le_of_ble_eq_true rfl, Nat.le_of_ble_eq_true rfl⟩) hK hN hP hD [1, 2] (by decide) rfl 1 7 rfl rfl rfl rfl hl.1 rfl (Nat.le_of_ble_eq_true rfl) d_En_find_2 ⟨Nat.le_of_ble_eq_true rfl, Nat.le_of_ble_eq_true rfl⟩) rfl rfl hP hD hS hA [1, 2] [0] [0, 1, 2] rfl rfl (by decide) (by decide) (by decide) (fun _ => rfl) ?_
  intro r2 _ H locs hw hP hD hS
  try dsimp only at hw
  have hP : va_P (dC, dI) vwCl [oEn a_p0 I_p0 L_p0, oSt a_p1 A_p1 I_p1, gz cI (A_p1 0) 900 f_p1_bytes] H := hP
  have hD : va_D A [oEn a_p0 I_p0 L_p0, oSt a_p1 A_p1 I_p1, gz cI (A_p1 0) 900 f_p1_bytes] := hD
  refine lv_istore (lv' := [(4, .int r2), (0, .ref a_p0), (1, .ref a_p1), (2, .int x2), (3, .int x3)]) hx hb d_En_find_5 hl (by decide) rfl (fun ls hl => ?_)
  refine lv_iconst (v := 0) hx hb d_En_find_7 (by decide) ?_
  refine lv_istore (lv' := [(5, .int 0), (4, .int r2), (0, .ref a_p0), (1, .ref a_p1), (2, .int x2), (3, .int x3)]) hx hb d_En_find_8 hl (by decide) rfl (fun ls hl => ?_)
  obtain ⟨n1, hw⟩ := hw
  exact l10 n1 _ _ _ I_p0 L_p0 x2 x3 r2 0 hP hD hS (lv_sub hl [2, 3, 4, 5, 1, 0] rfl) hw
theorem d_X_findSoundEntry_0 : decode b_X_findSoundEntry 0 = .ok (.aload_n 0, 1) := by decide +kernel
theorem d_X_findSoundEntry_1 : decode b_X_findSoundEntry 1 = .ok (.getfield 19, 3) := by decide +kernel
theorem d_X_findSoundEntry_4 : decode b_X_findSoundEntry 4 = .ok (.aload_n 0, 1) := by decide +kernel
theorem d_X_findSoundEntry_5 : decode b_X_findSoundEntry 5 = .ok (.getfield 10, 3) := by decide +kernel
theorem d_X_findSoundEntry_8 : decode b_X_findSoundEntry 8 = .ok (.invokevirtual 153, 3) := by decide +kernel
theorem d_X_findSoundEntry_11 : decode b_X_findSoundEntry 11 = .ok (.aload_n 0, 1) := by decide +kernel
theorem d_X_findSoundEntry_12 : decode b_X_findSoundEntry 12 = .ok (.getfield 19, 3) := by decide +kernel
theorem d_X_findSoundEntry_15 : decode b_X_findSoundEntry 15 = .ok (.iload_n 1, 1) := by decide +kernel
theorem d_X_findSoundEntry_16 : decode b_X_findSoundEntry 16 = .ok (.invokevirtual 187, 3) := by decide +kernel
theorem d_X_findSoundEntry_19 : decode b_X_findSoundEntry 19 = .ok (.ifCond .eq 41, 3) := by decide +kernel
theorem d_X_findSoundEntry_22 : decode b_X_findSoundEntry 22 = .ok (.aload_n 0, 1) := by decide +kernel
theorem d_X_findSoundEntry_23 : decode b_X_findSoundEntry 23 = .ok (.getfield 68, 3) := by decide +kernel
theorem d_X_findSoundEntry_26 : decode b_X_findSoundEntry 26 = .ok (.aload_n 0, 1) := by decide +kernel
theorem d_X_findSoundEntry_27 : decode b_X_findSoundEntry 27 = .ok (.getfield 10, 3) := by decide +kernel
theorem d_X_findSoundEntry_30 : decode b_X_findSoundEntry 30 = .ok (.aload_n 0, 1) := by decide +kernel
theorem d_X_findSoundEntry_31 : decode b_X_findSoundEntry 31 = .ok (.getfield 19, 3) := by decide +kernel
theorem d_X_findSoundEntry_34 : decode b_X_findSoundEntry 34 = .ok (.getfield 191, 3) := by decide +kernel
theorem d_X_findSoundEntry_37 : decode b_X_findSoundEntry 37 = .ok (.iload_n 1, 1) := by decide +kernel
theorem d_X_findSoundEntry_38 : decode b_X_findSoundEntry 38 = .ok (.iaload, 1) := by decide +kernel
theorem d_X_findSoundEntry_39 : decode b_X_findSoundEntry 39 = .ok (.iload_n 2, 1) := by decide +kernel
theorem d_X_findSoundEntry_40 : decode b_X_findSoundEntry 40 = .ok (.invokevirtual 320, 3) := by decide +kernel
theorem d_X_findSoundEntry_43 : decode b_X_findSoundEntry 43 = .ok (.ifCond .eq 17, 3) := by decide +kernel
theorem d_X_findSoundEntry_46 : decode b_X_findSoundEntry 46 = .ok (.aload_n 0, 1) := by decide +kernel
theorem d_X_findSoundEntry_47 : decode b_X_findSoundEntry 47 = .ok (.getfield 68, 3) := by decide +kernel
theorem d_X_findSoundEntry_50 : decode b_X_findSoundEntry 50 = .ok (.getfield 324, 3) := by decide +kernel
theorem d_X_findSoundEntry_53 : decode b_X_findSoundEntry 53 = .ok (.ifCond .ne 7, 3) := by decide +kernel
theorem d_X_findSoundEntry_56 : decode b_X_findSoundEntry 56 = .ok (.iconst 1, 1) := by decide +kernel
theorem d_X_findSoundEntry_57 : decode b_X_findSoundEntry 57 = .ok (.goto 4, 3) := by decide +kernel
theorem d_X_findSoundEntry_60 : decode b_X_findSoundEntry 60 = .ok (.iconst 0, 1) := by decide +kernel
theorem d_X_findSoundEntry_61 : decode b_X_findSoundEntry 61 = .ok (.ireturn, 1) := by decide +kernel
def wp_X_findSoundEntry_b60 (post : Int32 → (Nat → Int32) → (Nat → Int64) → (Nat → Int32) → (Nat → Int32) → Prop) (I_p0_file : Nat → Int32) (f_p0_file_bytes : Nat → Int32) (I_p0_entry : Nat → Int32) (L_p0_entry : Nat → Int64) (I_p0_walk : Nat → Int32) (f_p0_walk_places : Nat → Int32) : Prop :=
  post 0 I_p0_entry L_p0_entry I_p0_walk f_p0_walk_places
def wp_X_findSoundEntry (post : Int32 → (Nat → Int32) → (Nat → Int64) → (Nat → Int32) → (Nat → Int32) → Prop) (I_p0_file : Nat → Int32) (f_p0_file_bytes : Nat → Int32) (I_p0_entry : Nat → Int32) (L_p0_entry : Nat → Int64) (I_p0_walk : Nat → Int32) (f_p0_walk_places : Nat → Int32) (x1 : Int32) (x2 : Int32) : Prop :=
  wp_Wk_follow (fun (I_p0_walk_8 : Nat → Int32) (f_p0_walk_places_8 : Nat → Int32) =>
    wp_Wk_hasPage (fun (r16 : Int32) =>
      ((r16 = 0 →
        wp_X_findSoundEntry_b60 post I_p0_file f_p0_file_bytes I_p0_entry L_p0_entry I_p0_walk_8 f_p0_walk_places_8) ∧
       (¬ r16 = 0 →
        vp_in x1 8 ∧
        wp_En_find (fun (r40 : Int32) (I_p0_entry_40 : Nat → Int32) (L_p0_entry_40 : Nat → Int64) =>
          ((r40 = 0 →
            wp_X_findSoundEntry_b60 post I_p0_file f_p0_file_bytes I_p0_entry_40 L_p0_entry_40 I_p0_walk_8 f_p0_walk_places_8) ∧
           (¬ r40 = 0 →
            (((I_p0_entry_40 3) = 0 →
              post 1 I_p0_entry_40 L_p0_entry_40 I_p0_walk_8 f_p0_walk_places_8) ∧
             (¬ (I_p0_entry_40 3) = 0 →
              wp_X_findSoundEntry_b60 post I_p0_file f_p0_file_bytes I_p0_entry_40 L_p0_entry_40 I_p0_walk_8 f_p0_walk_places_8))))) I_p0_file f_p0_file_bytes I_p0_entry L_p0_entry (f_p0_walk_places_8 (x1).toNatClampNeg) x2))) I_p0_walk_8 x1) I_p0_file f_p0_file_bytes I_p0_walk f_p0_walk_places
set_option maxRecDepth 100000 in
set_option maxHeartbeats 4000000 in
theorem c_X_findSoundEntry (l : Launch) (dC : Nat → ClassId) (dI : Nat → Nat → Nat) (cI : ClassId) (a_p0 : Nat) (A_p0 : Nat → Nat) (A_p0_file : Nat → Nat) (A_p0_walk : Nat → Nat) (I_p0_file : Nat → Int32) (f_p0_file_bytes : Nat → Int32) (I_p0_entry : Nat → Int32) (L_p0_entry : Nat → Int64) (I_p0_walk : Nat → Int32) (f_p0_walk_places : Nat → Int32) (x1 : Int32) (x2 : Int32) {post : Int32 → (Nat → Int32) → (Nat → Int64) → (Nat → Int32) → (Nat → Int32) → Prop} (hw : wp_X_findSoundEntry post I_p0_file f_p0_file_bytes I_p0_entry L_p0_entry I_p0_walk f_p0_walk_places x1 x2) : gm_i l y_X_findSoundEntry ws_X_findSoundEntry ({ frames := 4, cells := 0, slots := 0, locals := 94 } : Room) (dC, dI) vwCl [(cI, .int)] [.ref a_p0, .int x1, .int x2] [oX a_p0 A_p0, oEn (A_p0 8) I_p0_entry L_p0_entry, oSt (A_p0 0) A_p0_file I_p0_file, gz cI (A_p0_file 0) 900 f_p0_file_bytes, oWk (A_p0 1) A_p0_walk I_p0_walk, gz cI (A_p0_walk 0) 8 f_p0_walk_places] (fun (u : (Nat → Int32) × (Nat → Int64) × (Nat → Int32) × (Nat → Int32)) => [oX a_p0 A_p0, oEn (A_p0 8) u.1 u.2.1, oSt (A_p0 0) A_p0_file I_p0_file, gz cI (A_p0_file 0) 900 f_p0_file_bytes, oWk (A_p0 1) A_p0_walk u.2.2.1, gz cI (A_p0_walk 0) 8 u.2.2.2]) (fun (r : Int32) (u : (Nat → Int32) × (Nat → Int64) × (Nat → Int32) × (Nat → Int32)) => post r u.1 u.2.1 u.2.2.1 u.2.2.2) := by
  refine gm_iof (cc := b_X_findSoundEntry) (maxL := 3) (ty := .boolean) (by decide) rfl (Nat.le_of_ble_eq_true rfl) ?_
  intro p e s m args below meth c A Q hx hb hml hown hg hK hN hA hret
  have hown : s.vm.findClass R_X = some m.cls := hown
  have b60 : ∀ (H : Heap) (locs : List Loc) (ls : Array Slot) (I_p0_entry : Nat → Int32) (L_p0_entry : Nat → Int64) (I_p0_walk : Nat → Int32) (f_p0_walk_places : Nat → Int32), va_P (dC, dI) vwCl [oX a_p0 A_p0, oEn (A_p0 8) I_p0_entry L_p0_entry, oSt (A_p0 0) A_p0_file I_p0_file, gz cI (A_p0_file 0) 900 f_p0_file_bytes, oWk (A_p0 1) A_p0_walk I_p0_walk, gz cI (A_p0_walk 0) 8 f_p0_walk_places] H → va_D A [oX a_p0 A_p0, oEn (A_p0 8) I_p0_entry L_p0_entry, oSt (A_p0 0) A_p0_file I_p0_file, gz cI (A_p0_file 0) 900 f_p0_file_bytes, oWk (A_p0 1) A_p0_walk I_p0_walk, gz cI (A_p0_walk 0) 8 f_p0_walk_places] → va_S A s.heap H locs → lv_has ls 3 [] → wp_X_findSoundEntry_b60 post I_p0_file f_p0_file_bytes I_p0_entry L_p0_entry I_p0_walk f_p0_walk_places → W p l e ({ frames := 4, cells := 0, slots := 0, locals := 94 } : Room) s m args below meth c H locs 0 0 Q (F0 m 60 ls []) := by
    intro H locs ls I_p0_entry L_p0_entry I_p0_walk f_p0_walk_places hP hD hS hl hw
    unfold wp_X_findSoundEntry_b60 at hw
    refine lv_iconst (v := 0) hx hb d_X_findSoundEntry_60 (by decide) ?_
    exact hret _ _ _ _ _ (I_p0_entry, L_p0_entry, I_p0_walk, f_p0_walk_places) d_X_findSoundEntry_61 rfl hP hD hS hw
  intro ls hl hP hD hS
  have hl : lv_has ls 3 [(0, .ref a_p0), (1, .int x1), (2, .int x2)] := hl
  unfold wp_X_findSoundEntry at hw
  refine lv_aload_n hx hb d_X_findSoundEntry_0 rfl (lv_at hl 0 rfl) ?_
  refine va_get (D := (dC, dI)) (ci := 9) (v := .ref (A_p0 1)) (C := R_X) (T := T_X) (N := 14) hx hb hg in_X hown hK hP 0 rfl rfl 1 (by decide) (hg _ t_308) (fun _ h9 => h9) rfl d_X_findSoundEntry_1 ?_
  refine lv_aload_n hx hb d_X_findSoundEntry_4 rfl (lv_at hl 0 rfl) ?_
  refine va_get (D := (dC, dI)) (ci := 9) (v := .ref (A_p0 0)) (C := R_X) (T := T_X) (N := 14) hx hb hg in_X hown hK hP 0 rfl rfl 0 (by decide) (hg _ t_307) (fun _ h9 => h9) rfl d_X_findSoundEntry_5 ?_
  refine gc_v (wn := fun u => [oX a_p0 A_p0, oEn (A_p0 8) I_p0_entry L_p0_entry, oSt (A_p0 0) A_p0_file I_p0_file, gz cI (A_p0_file 0) 900 f_p0_file_bytes, oWk (A_p0 1) A_p0_walk u.1, gz cI (A_p0_walk 0) 8 u.2]) (wr := [oX a_p0 A_p0, oEn (A_p0 8) I_p0_entry L_p0_entry]) (gr_V (As := [.ref (A_p0 0)]) (rest := []) ⟨hx, hb, hml, hown, hg⟩ (c_Wk_follow l dC dI cI (A_p0 1) (A_p0 0) A_p0_walk A_p0_file I_p0_file f_p0_file_bytes I_p0_walk f_p0_walk_places hw _) (cwV 1 hg (gg_V t_449 t_450 t_451 t_62 t_452) rfl rfl rfl (by decide +kernel) ⟨Nat.le_of_ble_eq_true rfl, Nat.le_of_ble_eq_true rfl⟩) hK hN hP hD [4, 5, 2, 3] (by decide) rfl 4 8 rfl rfl rfl rfl hl.1 rfl (Nat.le_of_ble_eq_true rfl) d_X_findSoundEntry_8 ⟨Nat.le_of_ble_eq_true rfl, Nat.le_of_ble_eq_true rfl⟩) rfl rfl hP hD hS hA [4, 5, 2, 3] [0, 1] [0, 1, 4, 5, 2, 3] rfl rfl (by decide) (by decide) (by decide) (fun _ => rfl) ?_
  intro u9 H locs hw hP hD hS
  obtain ⟨I_p0_walk_8, f_p0_walk_places_8⟩ := u9
  try dsimp only at hw
  have hP : va_P (dC, dI) vwCl [oX a_p0 A_p0, oEn (A_p0 8) I_p0_entry L_p0_entry, oSt (A_p0 0) A_p0_file I_p0_file, gz cI (A_p0_file 0) 900 f_p0_file_bytes, oWk (A_p0 1) A_p0_walk I_p0_walk_8, gz cI (A_p0_walk 0) 8 f_p0_walk_places_8] H := hP
  have hD : va_D A [oX a_p0 A_p0, oEn (A_p0 8) I_p0_entry L_p0_entry, oSt (A_p0 0) A_p0_file I_p0_file, gz cI (A_p0_file 0) 900 f_p0_file_bytes, oWk (A_p0 1) A_p0_walk I_p0_walk_8, gz cI (A_p0_walk 0) 8 f_p0_walk_places_8] := hD
  refine lv_aload_n hx hb d_X_findSoundEntry_11 rfl (lv_at hl 0 rfl) ?_
  refine va_get (D := (dC, dI)) (ci := 9) (v := .ref (A_p0 1)) (C := R_X) (T := T_X) (N := 14) hx hb hg in_X hown hK hP 0 rfl rfl 1 (by decide) (hg _ t_308) (fun _ h9 => h9) rfl d_X_findSoundEntry_12 ?_
  refine lv_iload_n hx hb d_X_findSoundEntry_15 rfl (lv_at hl 1 rfl) ?_
  refine gc_i (wn := fun (_ : Unit) => [oX a_p0 A_p0, oEn (A_p0 8) I_p0_entry L_p0_entry, oSt (A_p0 0) A_p0_file I_p0_file, gz cI (A_p0_file 0) 900 f_p0_file_bytes, oWk (A_p0 1) A_p0_walk I_p0_walk_8, gz cI (A_p0_walk 0) 8 f_p0_walk_places_8]) (wr := [oX a_p0 A_p0, oEn (A_p0 8) I_p0_entry L_p0_entry, oSt (A_p0 0) A_p0_file I_p0_file, gz cI (A_p0_file 0) 900 f_p0_file_bytes, gz cI (A_p0_walk 0) 8 f_p0_walk_places_8]) (gr_V (As := [.int x1]) (rest := []) ⟨hx, hb, hml, hown, hg⟩ (c_Wk_hasPage l dC dI cI (A_p0 1) A_p0_walk I_p0_walk_8 x1 hw _) (cwV 1 hg (gg_V t_645 t_646 t_647 t_62 t_648) rfl rfl rfl (by decide +kernel) ⟨Nat.le_of_ble_eq_true rfl, Nat.le_of_ble_eq_true rfl⟩) hK hN hP hD [4] (by decide) rfl 4 8 rfl rfl rfl rfl hl.1 rfl (Nat.le_of_ble_eq_true rfl) d_X_findSoundEntry_16 ⟨Nat.le_of_ble_eq_true rfl, Nat.le_of_ble_eq_true rfl⟩) rfl rfl hP hD hS hA [4] [0, 1, 2, 3, 5] [0, 1, 2, 3, 5, 4] rfl rfl (by decide) (by decide) (by decide) (fun _ => rfl) ?_
  intro r16 _ H locs hw hP hD hS
  try dsimp only at hw
  have hP : va_P (dC, dI) vwCl [oX a_p0 A_p0, oEn (A_p0 8) I_p0_entry L_p0_entry, oSt (A_p0 0) A_p0_file I_p0_file, gz cI (A_p0_file 0) 900 f_p0_file_bytes, oWk (A_p0 1) A_p0_walk I_p0_walk_8, gz cI (A_p0_walk 0) 8 f_p0_walk_places_8] H := hP
  have hD : va_D A [oX a_p0 A_p0, oEn (A_p0 8) I_p0_entry L_p0_entry, oSt (A_p0 0) A_p0_file I_p0_file, gz cI (A_p0_file 0) 900 f_p0_file_bytes, oWk (A_p0 1) A_p0_walk I_p0_walk_8, gz cI (A_p0_walk 0) 8 f_p0_walk_places_8] := hD
  refine lv_if_eq hx hb d_X_findSoundEntry_19 rfl (fun hc => ?_) (fun hc => ?_)
  · have hw := hw.1 hc
    exact b60 _ _ _ I_p0_entry L_p0_entry I_p0_walk_8 f_p0_walk_places_8 hP hD hS (lv_sub hl [] rfl) hw
  · have hw := hw.2 hc
    refine lv_aload_n hx hb d_X_findSoundEntry_22 rfl (lv_at hl 0 rfl) ?_
    refine va_get (D := (dC, dI)) (ci := 9) (v := .ref (A_p0 8)) (C := R_X) (T := T_X) (N := 14) hx hb hg in_X hown hK hP 0 rfl rfl 8 (by decide) (hg _ t_315) (fun _ h9 => h9) rfl d_X_findSoundEntry_23 ?_
    refine lv_aload_n hx hb d_X_findSoundEntry_26 rfl (lv_at hl 0 rfl) ?_
    refine va_get (D := (dC, dI)) (ci := 9) (v := .ref (A_p0 0)) (C := R_X) (T := T_X) (N := 14) hx hb hg in_X hown hK hP 0 rfl rfl 0 (by decide) (hg _ t_307) (fun _ h9 => h9) rfl d_X_findSoundEntry_27 ?_
    refine lv_aload_n hx hb d_X_findSoundEntry_30 rfl (lv_at hl 0 rfl) ?_
    refine va_get (D := (dC, dI)) (ci := 9) (v := .ref (A_p0 1)) (C := R_X) (T := T_X) (N := 14) hx hb hg in_X hown hK hP 0 rfl rfl 1 (by decide) (hg _ t_308) (fun _ h9 => h9) rfl d_X_findSoundEntry_31 ?_
    refine va_get (D := (dC, dI)) (ci := 8) (v := .ref (A_p0_walk 0)) (C := R_Wk) (T := T_Wk) (N := 4) hx hb hg in_Wk hown hK hP 4 rfl rfl 0 (by decide) (hg _ t_113) (fun _ h9 => h9) rfl d_X_findSoundEntry_34 ?_
    refine lv_iload_n hx hb d_X_findSoundEntry_37 rfl (lv_at hl 1 rfl) ?_
    obtain ⟨hin, hw⟩ := hw
    refine va_iald hx hb hK hP 5 0 rfl rfl hin d_X_findSoundEntry_38 ?_
    refine lv_iload_n hx hb d_X_findSoundEntry_39 rfl (lv_at hl 2 rfl) ?_
    refine gc_i (wn := fun u => [oX a_p0 A_p0, oEn (A_p0 8) u.1 u.2, oSt (A_p0 0) A_p0_file I_p0_file, gz cI (A_p0_file 0) 900 f_p0_file_bytes, oWk (A_p0 1) A_p0_walk I_p0_walk_8, gz cI (A_p0_walk 0) 8 f_p0_walk_places_8]) (wr := [oX a_p0 A_p0, oWk (A_p0 1) A_p0_walk I_p0_walk_8, gz cI (A_p0_walk 0) 8 f_p0_walk_places_8]) (gr_V (As := [.ref (A_p0 0), .int (f_p0_walk_places_8 (x1).toNatClampNeg), .int x2]) (rest := []) ⟨hx, hb, hml, hown, hg⟩ (c_En_find l dC dI cI (A_p0 8) (A_p0 0) A_p0_file I_p0_file f_p0_file_bytes I_p0_entry L_p0_entry (f_p0_walk_places_8 (x1).toNatClampNeg) x2 hw _) (cwV 3 hg (gg_V t_662 t_663 t_664 t_69 t_665) rfl rfl rfl (by decide +kernel) ⟨Nat.le_of_ble_eq_true rfl, Nat.le_of_ble_eq_true rfl⟩) hK hN hP hD [1, 2, 3] (by decide) rfl 1 1 rfl rfl rfl rfl hl.1 rfl (Nat.le_of_ble_eq_true rfl) d_X_findSoundEntry_40 ⟨Nat.le_of_ble_eq_true rfl, Nat.le_of_ble_eq_true rfl⟩) rfl rfl hP hD hS hA [1, 2, 3] [0, 4, 5] [0, 3, 4, 5, 1, 2] rfl rfl (by decide) (by decide) (by decide) (fun _ => rfl) ?_
    intro r40 u9 H locs hw hP hD hS
    obtain ⟨I_p0_entry_40, L_p0_entry_40⟩ := u9
    try dsimp only at hw
    have hP : va_P (dC, dI) vwCl [oX a_p0 A_p0, oEn (A_p0 8) I_p0_entry_40 L_p0_entry_40, oSt (A_p0 0) A_p0_file I_p0_file, gz cI (A_p0_file 0) 900 f_p0_file_bytes, oWk (A_p0 1) A_p0_walk I_p0_walk_8, gz cI (A_p0_walk 0) 8 f_p0_walk_places_8] H := hP
    have hD : va_D A [oX a_p0 A_p0, oEn (A_p0 8) I_p0_entry_40 L_p0_entry_40, oSt (A_p0 0) A_p0_file I_p0_file, gz cI (A_p0_file 0) 900 f_p0_file_bytes, oWk (A_p0 1) A_p0_walk I_p0_walk_8, gz cI (A_p0_walk 0) 8 f_p0_walk_places_8] := hD
    refine lv_if_eq hx hb d_X_findSoundEntry_43 rfl (fun hc => ?_) (fun hc => ?_)
    · have hw := hw.1 hc
      exact b60 _ _ _ I_p0_entry_40 L_p0_entry_40 I_p0_walk_8 f_p0_walk_places_8 hP hD hS (lv_sub hl [] rfl) hw
    · have hw := hw.2 hc
      refine lv_aload_n hx hb d_X_findSoundEntry_46 rfl (lv_at hl 0 rfl) ?_
      refine va_get (D := (dC, dI)) (ci := 9) (v := .ref (A_p0 8)) (C := R_X) (T := T_X) (N := 14) hx hb hg in_X hown hK hP 0 rfl rfl 8 (by decide) (hg _ t_315) (fun _ h9 => h9) rfl d_X_findSoundEntry_47 ?_
      refine va_get (D := (dC, dI)) (ci := 1) (v := .int (I_p0_entry_40 3)) (C := R_En) (T := T_En) (N := 4) hx hb hg in_En hown hK hP 1 rfl rfl 3 (by decide) (hg _ t_270) (fun _ h9 => h9) rfl d_X_findSoundEntry_50 ?_
      refine lv_if_ne hx hb d_X_findSoundEntry_53 rfl (fun hc => ?_) (fun hc => ?_)
      · have hw := hw.2 hc
        exact b60 _ _ _ I_p0_entry_40 L_p0_entry_40 I_p0_walk_8 f_p0_walk_places_8 hP hD hS (lv_sub hl [] rfl) hw
      · have hw := hw.1 hc
        refine lv_iconst (v := 1) hx hb d_X_findSoundEntry_56 (by decide) ?_
        refine lv_goto hx hb d_X_findSoundEntry_57 rfl ?_
        exact hret _ _ _ _ _ (I_p0_entry_40, L_p0_entry_40, I_p0_walk_8, f_p0_walk_places_8) d_X_findSoundEntry_61 rfl hP hD hS hw
theorem d_X_field_0 : decode b_X_field 0 = .ok (.aload_n 0, 1) := by decide +kernel
theorem d_X_field_1 : decode b_X_field 1 = .ok (.iload_n 1, 1) := by decide +kernel
theorem d_X_field_2 : decode b_X_field 2 = .ok (.iload_n 2, 1) := by decide +kernel
theorem d_X_field_3 : decode b_X_field 3 = .ok (.invokevirtual 210, 3) := by decide +kernel
theorem d_X_field_6 : decode b_X_field 6 = .ok (.ifCond .eq 20, 3) := by decide +kernel
theorem d_X_field_9 : decode b_X_field 9 = .ok (.iload_n 3, 1) := by decide +kernel
theorem d_X_field_10 : decode b_X_field 10 = .ok (.ifCond .lt 16, 3) := by decide +kernel
theorem d_X_field_13 : decode b_X_field 13 = .ok (.iload_n 3, 1) := by decide +kernel
theorem d_X_field_14 : decode b_X_field 14 = .ok (.i2l, 1) := by decide +kernel
theorem d_X_field_15 : decode b_X_field 15 = .ok (.aload_n 0, 1) := by decide +kernel
theorem d_X_field_16 : decode b_X_field 16 = .ok (.getfield 68, 3) := by decide +kernel
theorem d_X_field_19 : decode b_X_field 19 = .ok (.getfield 213, 3) := by decide +kernel
theorem d_X_field_22 : decode b_X_field 22 = .ok (.lcmp, 1) := by decide +kernel
theorem d_X_field_23 : decode b_X_field 23 = .ok (.ifCond .lt 7, 3) := by decide +kernel
theorem d_X_field_26 : decode b_X_field 26 = .ok (.ldc2_w 216, 3) := by decide +kernel
theorem d_X_field_29 : decode b_X_field 29 = .ok (.lreturn, 1) := by decide +kernel
theorem d_X_field_30 : decode b_X_field 30 = .ok (.aload_n 0, 1) := by decide +kernel
theorem d_X_field_31 : decode b_X_field 31 = .ok (.getfield 68, 3) := by decide +kernel
theorem d_X_field_34 : decode b_X_field 34 = .ok (.aload_n 0, 1) := by decide +kernel
theorem d_X_field_35 : decode b_X_field 35 = .ok (.getfield 10, 3) := by decide +kernel
theorem d_X_field_38 : decode b_X_field 38 = .ok (.iload_n 3, 1) := by decide +kernel
theorem d_X_field_39 : decode b_X_field 39 = .ok (.invokevirtual 218, 3) := by decide +kernel
theorem d_X_field_42 : decode b_X_field 42 = .ok (.lreturn, 1) := by decide +kernel
def wp_X_field (post : Int64 → (Nat → Int32) → (Nat → Int64) → (Nat → Int32) → (Nat → Int32) → Prop) (I_p0_file : Nat → Int32) (f_p0_file_bytes : Nat → Int32) (I_p0_entry : Nat → Int32) (L_p0_entry : Nat → Int64) (I_p0_walk : Nat → Int32) (f_p0_walk_places : Nat → Int32) (x1 : Int32) (x2 : Int32) (x3 : Int32) : Prop :=
  wp_X_findSoundEntry (fun (r3 : Int32) (I_p0_entry_3 : Nat → Int32) (L_p0_entry_3 : Nat → Int64) (I_p0_walk_3 : Nat → Int32) (f_p0_walk_places_3 : Nat → Int32) =>
    ((r3 = 0 →
      post (-1) I_p0_entry_3 L_p0_entry_3 I_p0_walk_3 f_p0_walk_places_3) ∧
     (¬ r3 = 0 →
      ((x3 < 0 →
        post (-1) I_p0_entry_3 L_p0_entry_3 I_p0_walk_3 f_p0_walk_places_3) ∧
       (¬ x3 < 0 →
        ((x3.toInt64 < (L_p0_entry_3 1) →
          wp_En_value (fun (r39 : Int64) =>
            post r39 I_p0_entry_3 L_p0_entry_3 I_p0_walk_3 f_p0_walk_places_3) I_p0_entry_3 L_p0_entry_3 I_p0_file f_p0_file_bytes x3) ∧
         (¬ x3.toInt64 < (L_p0_entry_3 1) →
          post (-1) I_p0_entry_3 L_p0_entry_3 I_p0_walk_3 f_p0_walk_places_3))))))) I_p0_file f_p0_file_bytes I_p0_entry L_p0_entry I_p0_walk f_p0_walk_places x1 x2
set_option maxRecDepth 100000 in
set_option maxHeartbeats 4000000 in
theorem c_X_field (l : Launch) (dC : Nat → ClassId) (dI : Nat → Nat → Nat) (cI : ClassId) (a_p0 : Nat) (A_p0 : Nat → Nat) (A_p0_file : Nat → Nat) (A_p0_walk : Nat → Nat) (I_p0_file : Nat → Int32) (f_p0_file_bytes : Nat → Int32) (I_p0_entry : Nat → Int32) (L_p0_entry : Nat → Int64) (I_p0_walk : Nat → Int32) (f_p0_walk_places : Nat → Int32) (x1 : Int32) (x2 : Int32) (x3 : Int32) {post : Int64 → (Nat → Int32) → (Nat → Int64) → (Nat → Int32) → (Nat → Int32) → Prop} (hw : wp_X_field post I_p0_file f_p0_file_bytes I_p0_entry L_p0_entry I_p0_walk f_p0_walk_places x1 x2 x3) : gm_l l y_X_field ws_X_field ({ frames := 5, cells := 0, slots := 0, locals := 116 } : Room) (dC, dI) vwCl [(cI, .int)] [.ref a_p0, .int x1, .int x2, .int x3] [oX a_p0 A_p0, oEn (A_p0 8) I_p0_entry L_p0_entry, oSt (A_p0 0) A_p0_file I_p0_file, gz cI (A_p0_file 0) 900 f_p0_file_bytes, oWk (A_p0 1) A_p0_walk I_p0_walk, gz cI (A_p0_walk 0) 8 f_p0_walk_places] (fun (u : (Nat → Int32) × (Nat → Int64) × (Nat → Int32) × (Nat → Int32)) => [oX a_p0 A_p0, oEn (A_p0 8) u.1 u.2.1, oSt (A_p0 0) A_p0_file I_p0_file, gz cI (A_p0_file 0) 900 f_p0_file_bytes, oWk (A_p0 1) A_p0_walk u.2.2.1, gz cI (A_p0_walk 0) 8 u.2.2.2]) (fun (r : Int64) (u : (Nat → Int32) × (Nat → Int64) × (Nat → Int32) × (Nat → Int32)) => post r u.1 u.2.1 u.2.2.1 u.2.2.2) := by
  refine gm_lof (cc := b_X_field) (maxL := 4) (by decide) rfl (Nat.le_of_ble_eq_true rfl) ?_
  intro p e s m args below meth c A Q hx hb hml hown hg hK hN hA hret
  have hown : s.vm.findClass R_X = some m.cls := hown
  intro ls hl hP hD hS
  have hl : lv_has ls 4 [(0, .ref a_p0), (1, .int x1), (2, .int x2), (3, .int x3)] := hl
  unfold wp_X_field at hw
  refine lv_aload_n hx hb d_X_field_0 rfl (lv_at hl 0 rfl) ?_
  refine lv_iload_n hx hb d_X_field_1 rfl (lv_at hl 1 rfl) ?_
  refine lv_iload_n hx hb d_X_field_2 rfl (lv_at hl 2 rfl) ?_
  refine gc_i (wn := fun u => [oX a_p0 A_p0, oEn (A_p0 8) u.1 u.2.1, oSt (A_p0 0) A_p0_file I_p0_file, gz cI (A_p0_file 0) 900 f_p0_file_bytes, oWk (A_p0 1) A_p0_walk u.2.2.1, gz cI (A_p0_walk 0) 8 u.2.2.2]) (wr := []) (gr_V (As := [.int x1, .int x2]) (rest := []) ⟨hx, hb, hml, hown, hg⟩ (c_X_findSoundEntry l dC dI cI a_p0 A_p0 A_p0_file A_p0_walk I_p0_file f_p0_file_bytes I_p0_entry L_p0_entry I_p0_walk f_p0_walk_places x1 x2 hw _) (cwV 2 hg (gg_V t_740 t_742 t_26 t_60 t_743) rfl rfl rfl (by decide +kernel) ⟨Nat.le_of_ble_eq_true rfl, Nat.le_of_ble_eq_true rfl⟩) hK hN hP hD [0, 1, 2, 3, 4, 5] (by decide) rfl 0 9 rfl rfl rfl rfl hl.1 rfl (Nat.le_of_ble_eq_true rfl) d_X_field_3 ⟨Nat.le_of_ble_eq_true rfl, Nat.le_of_ble_eq_true rfl⟩) rfl rfl hP hD hS hA [0, 1, 2, 3, 4, 5] [] [0, 1, 2, 3, 4, 5] rfl rfl (by decide) (by decide) (by decide) (fun _ => rfl) ?_
  intro r3 u9 H locs hw hP hD hS
  obtain ⟨I_p0_entry_3, L_p0_entry_3, I_p0_walk_3, f_p0_walk_places_3⟩ := u9
  try dsimp only at hw
  have hP : va_P (dC, dI) vwCl [oX a_p0 A_p0, oEn (A_p0 8) I_p0_entry_3 L_p0_entry_3, oSt (A_p0 0) A_p0_file I_p0_file, gz cI (A_p0_file 0) 900 f_p0_file_bytes, oWk (A_p0 1) A_p0_walk I_p0_walk_3, gz cI (A_p0_walk 0) 8 f_p0_walk_places_3] H := hP
  have hD : va_D A [oX a_p0 A_p0, oEn (A_p0 8) I_p0_entry_3 L_p0_entry_3, oSt (A_p0 0) A_p0_file I_p0_file, gz cI (A_p0_file 0) 900 f_p0_file_bytes, oWk (A_p0 1) A_p0_walk I_p0_walk_3, gz cI (A_p0_walk 0) 8 f_p0_walk_places_3] := hD
  refine lv_if_eq hx hb d_X_field_6 rfl (fun hc => ?_) (fun hc => ?_)
  · have hw := hw.1 hc
    refine lv_ldc2 (v := (-1)) hx hb hown (hg _ t_682) d_X_field_26 ?_
    exact hret _ _ _ _ _ (I_p0_entry_3, L_p0_entry_3, I_p0_walk_3, f_p0_walk_places_3) d_X_field_29 hP hD hS hw
  · have hw := hw.2 hc
    refine lv_iload_n hx hb d_X_field_9 rfl (lv_at hl 3 rfl) ?_
    refine lv_if_lt hx hb d_X_field_10 rfl (fun hc => ?_) (fun hc => ?_)
    · have hw := hw.1 hc
      refine lv_ldc2 (v := (-1)) hx hb hown (hg _ t_682) d_X_field_26 ?_
      exact hret _ _ _ _ _ (I_p0_entry_3, L_p0_entry_3, I_p0_walk_3, f_p0_walk_places_3) d_X_field_29 hP hD hS hw
    · have hw := hw.2 hc
      refine lv_iload_n hx hb d_X_field_13 rfl (lv_at hl 3 rfl) ?_
      refine lv_i2l hx hb d_X_field_14 rfl ?_
      refine lv_aload_n hx hb d_X_field_15 rfl (lv_at hl 0 rfl) ?_
      refine va_get (D := (dC, dI)) (ci := 9) (v := .ref (A_p0 8)) (C := R_X) (T := T_X) (N := 14) hx hb hg in_X hown hK hP 0 rfl rfl 8 (by decide) (hg _ t_315) (fun _ h9 => h9) rfl d_X_field_16 ?_
      refine va_get (D := (dC, dI)) (ci := 1) (v := .long (L_p0_entry_3 1)) (C := R_En) (T := T_En) (N := 4) hx hb hg in_En hown hK hP 1 rfl rfl 1 (by decide) (hg _ t_267) (fun _ h9 => h9) rfl d_X_field_19 ?_
      refine W.lcmp hx hb d_X_field_22 ?_
      refine lv_if_lt hx hb d_X_field_23 rfl (fun hc => ?_) (fun hc => ?_)
      · have hw := hw.1 ((lg_cmp_lt _ _).mp hc)
        refine lv_aload_n hx hb d_X_field_30 rfl (lv_at hl 0 rfl) ?_
        refine va_get (D := (dC, dI)) (ci := 9) (v := .ref (A_p0 8)) (C := R_X) (T := T_X) (N := 14) hx hb hg in_X hown hK hP 0 rfl rfl 8 (by decide) (hg _ t_315) (fun _ h9 => h9) rfl d_X_field_31 ?_
        refine lv_aload_n hx hb d_X_field_34 rfl (lv_at hl 0 rfl) ?_
        refine va_get (D := (dC, dI)) (ci := 9) (v := .ref (A_p0 0)) (C := R_X) (T := T_X) (N := 14) hx hb hg in_X hown hK hP 0 rfl rfl 0 (by decide) (hg _ t_307) (fun _ h9 => h9) rfl d_X_field_35 ?_
        refine lv_iload_n hx hb d_X_field_38 rfl (lv_at hl 3 rfl) ?_
        refine gc_l (wn := fun (_ : Unit) => [oX a_p0 A_p0, oEn (A_p0 8) I_p0_entry_3 L_p0_entry_3, oSt (A_p0 0) A_p0_file I_p0_file, gz cI (A_p0_file 0) 900 f_p0_file_bytes, oWk (A_p0 1) A_p0_walk I_p0_walk_3, gz cI (A_p0_walk 0) 8 f_p0_walk_places_3]) (wr := [oX a_p0 A_p0, oWk (A_p0 1) A_p0_walk I_p0_walk_3, gz cI (A_p0_walk 0) 8 f_p0_walk_places_3]) (gr_V (As := [.ref (A_p0 0), .int x3]) (rest := []) ⟨hx, hb, hml, hown, hg⟩ (c_En_value l dC dI cI (A_p0 8) (A_p0 0) A_p0_file I_p0_entry_3 L_p0_entry_3 I_p0_file f_p0_file_bytes x3 hw _) (cwV 2 hg (gg_V t_683 t_684 t_685 t_69 t_686) rfl rfl rfl (by decide +kernel) ⟨Nat.le_of_ble_eq_true rfl, Nat.le_of_ble_eq_true rfl⟩) hK hN hP hD [1, 2, 3] (by decide) rfl 1 1 rfl rfl rfl rfl hl.1 rfl (Nat.le_of_ble_eq_true rfl) d_X_field_39 ⟨Nat.le_of_ble_eq_true rfl, Nat.le_of_ble_eq_true rfl⟩) rfl rfl hP hD hS hA [1, 2, 3] [0, 4, 5] [0, 3, 4, 5, 1, 2] rfl rfl (by decide) (by decide) (by decide) (fun _ => rfl) ?_
        intro r39 _ H locs hw hP hD hS
        try dsimp only at hw
        have hP : va_P (dC, dI) vwCl [oX a_p0 A_p0, oEn (A_p0 8) I_p0_entry_3 L_p0_entry_3, oSt (A_p0 0) A_p0_file I_p0_file, gz cI (A_p0_file 0) 900 f_p0_file_bytes, oWk (A_p0 1) A_p0_walk I_p0_walk_3, gz cI (A_p0_walk 0) 8 f_p0_walk_places_3] H := hP
        have hD : va_D A [oX a_p0 A_p0, oEn (A_p0 8) I_p0_entry_3 L_p0_entry_3, oSt (A_p0 0) A_p0_file I_p0_file, gz cI (A_p0_file 0) 900 f_p0_file_bytes, oWk (A_p0 1) A_p0_walk I_p0_walk_3, gz cI (A_p0_walk 0) 8 f_p0_walk_places_3] := hD
        exact hret _ _ _ _ _ (I_p0_entry_3, L_p0_entry_3, I_p0_walk_3, f_p0_walk_places_3) d_X_field_42 hP hD hS hw
      · have hw := hw.2 (fun h9 => hc ((lg_cmp_lt _ _).mpr h9))
        refine lv_ldc2 (v := (-1)) hx hb hown (hg _ t_682) d_X_field_26 ?_
        exact hret _ _ _ _ _ (I_p0_entry_3, L_p0_entry_3, I_p0_walk_3, f_p0_walk_places_3) d_X_field_29 hP hD hS hw
theorem d_X_fieldCount_0 : decode b_X_fieldCount 0 = .ok (.aload_n 0, 1) := by decide +kernel
theorem d_X_fieldCount_1 : decode b_X_fieldCount 1 = .ok (.iload_n 1, 1) := by decide +kernel
theorem d_X_fieldCount_2 : decode b_X_fieldCount 2 = .ok (.iload_n 2, 1) := by decide +kernel
theorem d_X_fieldCount_3 : decode b_X_fieldCount 3 = .ok (.invokevirtual 210, 3) := by decide +kernel
theorem d_X_fieldCount_6 : decode b_X_fieldCount 6 = .ok (.ifCond .eq 13, 3) := by decide +kernel
theorem d_X_fieldCount_9 : decode b_X_fieldCount 9 = .ok (.aload_n 0, 1) := by decide +kernel
theorem d_X_fieldCount_10 : decode b_X_fieldCount 10 = .ok (.getfield 68, 3) := by decide +kernel
theorem d_X_fieldCount_13 : decode b_X_fieldCount 13 = .ok (.getfield 213, 3) := by decide +kernel
theorem d_X_fieldCount_16 : decode b_X_fieldCount 16 = .ok (.goto 6, 3) := by decide +kernel
theorem d_X_fieldCount_19 : decode b_X_fieldCount 19 = .ok (.ldc2_w 216, 3) := by decide +kernel
theorem d_X_fieldCount_22 : decode b_X_fieldCount 22 = .ok (.lreturn, 1) := by decide +kernel
def wp_X_fieldCount (post : Int64 → (Nat → Int32) → (Nat → Int64) → (Nat → Int32) → (Nat → Int32) → Prop) (I_p0_file : Nat → Int32) (f_p0_file_bytes : Nat → Int32) (I_p0_entry : Nat → Int32) (L_p0_entry : Nat → Int64) (I_p0_walk : Nat → Int32) (f_p0_walk_places : Nat → Int32) (x1 : Int32) (x2 : Int32) : Prop :=
  wp_X_findSoundEntry (fun (r3 : Int32) (I_p0_entry_3 : Nat → Int32) (L_p0_entry_3 : Nat → Int64) (I_p0_walk_3 : Nat → Int32) (f_p0_walk_places_3 : Nat → Int32) =>
    ((r3 = 0 →
      post (-1) I_p0_entry_3 L_p0_entry_3 I_p0_walk_3 f_p0_walk_places_3) ∧
     (¬ r3 = 0 →
      post (L_p0_entry_3 1) I_p0_entry_3 L_p0_entry_3 I_p0_walk_3 f_p0_walk_places_3))) I_p0_file f_p0_file_bytes I_p0_entry L_p0_entry I_p0_walk f_p0_walk_places x1 x2
set_option maxRecDepth 100000 in
set_option maxHeartbeats 4000000 in
theorem c_X_fieldCount (l : Launch) (dC : Nat → ClassId) (dI : Nat → Nat → Nat) (cI : ClassId) (a_p0 : Nat) (A_p0 : Nat → Nat) (A_p0_file : Nat → Nat) (A_p0_walk : Nat → Nat) (I_p0_file : Nat → Int32) (f_p0_file_bytes : Nat → Int32) (I_p0_entry : Nat → Int32) (L_p0_entry : Nat → Int64) (I_p0_walk : Nat → Int32) (f_p0_walk_places : Nat → Int32) (x1 : Int32) (x2 : Int32) {post : Int64 → (Nat → Int32) → (Nat → Int64) → (Nat → Int32) → (Nat → Int32) → Prop} (hw : wp_X_fieldCount post I_p0_file f_p0_file_bytes I_p0_entry L_p0_entry I_p0_walk f_p0_walk_places x1 x2) : gm_l l y_X_fieldCount ws_X_fieldCount ({ frames := 5, cells := 0, slots := 0, locals := 116 } : Room) (dC, dI) vwCl [(cI, .int)] [.ref a_p0, .int x1, .int x2] [oX a_p0 A_p0, oEn (A_p0 8) I_p0_entry L_p0_entry, oSt (A_p0 0) A_p0_file I_p0_file, gz cI (A_p0_file 0) 900 f_p0_file_bytes, oWk (A_p0 1) A_p0_walk I_p0_walk, gz cI (A_p0_walk 0) 8 f_p0_walk_places] (fun (u : (Nat → Int32) × (Nat → Int64) × (Nat → Int32) × (Nat → Int32)) => [oX a_p0 A_p0, oEn (A_p0 8) u.1 u.2.1, oSt (A_p0 0) A_p0_file I_p0_file, gz cI (A_p0_file 0) 900 f_p0_file_bytes, oWk (A_p0 1) A_p0_walk u.2.2.1, gz cI (A_p0_walk 0) 8 u.2.2.2]) (fun (r : Int64) (u : (Nat → Int32) × (Nat → Int64) × (Nat → Int32) × (Nat → Int32)) => post r u.1 u.2.1 u.2.2.1 u.2.2.2) := by
  refine gm_lof (cc := b_X_fieldCount) (maxL := 3) (by decide) rfl (Nat.le_of_ble_eq_true rfl) ?_
  intro p e s m args below meth c A Q hx hb hml hown hg hK hN hA hret
  have hown : s.vm.findClass R_X = some m.cls := hown
  intro ls hl hP hD hS
  have hl : lv_has ls 3 [(0, .ref a_p0), (1, .int x1), (2, .int x2)] := hl
  unfold wp_X_fieldCount at hw
  refine lv_aload_n hx hb d_X_fieldCount_0 rfl (lv_at hl 0 rfl) ?_
  refine lv_iload_n hx hb d_X_fieldCount_1 rfl (lv_at hl 1 rfl) ?_
  refine lv_iload_n hx hb d_X_fieldCount_2 rfl (lv_at hl 2 rfl) ?_
  refine gc_i (wn := fun u => [oX a_p0 A_p0, oEn (A_p0 8) u.1 u.2.1, oSt (A_p0 0) A_p0_file I_p0_file, gz cI (A_p0_file 0) 900 f_p0_file_bytes, oWk (A_p0 1) A_p0_walk u.2.2.1, gz cI (A_p0_walk 0) 8 u.2.2.2]) (wr := []) (gr_V (As := [.int x1, .int x2]) (rest := []) ⟨hx, hb, hml, hown, hg⟩ (c_X_findSoundEntry l dC dI cI a_p0 A_p0 A_p0_file A_p0_walk I_p0_file f_p0_file_bytes I_p0_entry L_p0_entry I_p0_walk f_p0_walk_places x1 x2 hw _) (cwV 2 hg (gg_V t_740 t_742 t_26 t_60 t_743) rfl rfl rfl (by decide +kernel) ⟨Nat.le_of_ble_eq_true rfl, Nat.le_of_ble_eq_true rfl⟩) hK hN hP hD [0, 1, 2, 3, 4, 5] (by decide) rfl 0 9 rfl rfl rfl rfl hl.1 rfl (Nat.le_of_ble_eq_true rfl) d_X_fieldCount_3 ⟨Nat.le_of_ble_eq_true rfl, Nat.le_of_ble_eq_true rfl⟩) rfl rfl hP hD hS hA [0, 1, 2, 3, 4, 5] [] [0, 1, 2, 3, 4, 5] rfl rfl (by decide) (by decide) (by decide) (fun _ => rfl) ?_
  intro r3 u9 H locs hw hP hD hS
  obtain ⟨I_p0_entry_3, L_p0_entry_3, I_p0_walk_3, f_p0_walk_places_3⟩ := u9
  try dsimp only at hw
  have hP : va_P (dC, dI) vwCl [oX a_p0 A_p0, oEn (A_p0 8) I_p0_entry_3 L_p0_entry_3, oSt (A_p0 0) A_p0_file I_p0_file, gz cI (A_p0_file 0) 900 f_p0_file_bytes, oWk (A_p0 1) A_p0_walk I_p0_walk_3, gz cI (A_p0_walk 0) 8 f_p0_walk_places_3] H := hP
  have hD : va_D A [oX a_p0 A_p0, oEn (A_p0 8) I_p0_entry_3 L_p0_entry_3, oSt (A_p0 0) A_p0_file I_p0_file, gz cI (A_p0_file 0) 900 f_p0_file_bytes, oWk (A_p0 1) A_p0_walk I_p0_walk_3, gz cI (A_p0_walk 0) 8 f_p0_walk_places_3] := hD
  refine lv_if_eq hx hb d_X_fieldCount_6 rfl (fun hc => ?_) (fun hc => ?_)
  · have hw := hw.1 hc
    refine lv_ldc2 (v := (-1)) hx hb hown (hg _ t_682) d_X_fieldCount_19 ?_
    exact hret _ _ _ _ _ (I_p0_entry_3, L_p0_entry_3, I_p0_walk_3, f_p0_walk_places_3) d_X_fieldCount_22 hP hD hS hw
  · have hw := hw.2 hc
    refine lv_aload_n hx hb d_X_fieldCount_9 rfl (lv_at hl 0 rfl) ?_
    refine va_get (D := (dC, dI)) (ci := 9) (v := .ref (A_p0 8)) (C := R_X) (T := T_X) (N := 14) hx hb hg in_X hown hK hP 0 rfl rfl 8 (by decide) (hg _ t_315) (fun _ h9 => h9) rfl d_X_fieldCount_10 ?_
    refine va_get (D := (dC, dI)) (ci := 1) (v := .long (L_p0_entry_3 1)) (C := R_En) (T := T_En) (N := 4) hx hb hg in_En hown hK hP 1 rfl rfl 1 (by decide) (hg _ t_267) (fun _ h9 => h9) rfl d_X_fieldCount_13 ?_
    refine lv_goto hx hb d_X_fieldCount_16 rfl ?_
    exact hret _ _ _ _ _ (I_p0_entry_3, L_p0_entry_3, I_p0_walk_3, f_p0_walk_places_3) d_X_fieldCount_22 hP hD hS hw
theorem d_Pi_put_0 : decode b_Pi_put 0 = .ok (.aload_n 0, 1) := by decide +kernel
theorem d_Pi_put_1 : decode b_Pi_put 1 = .ok (.iload_n 1, 1) := by decide +kernel
theorem d_Pi_put_2 : decode b_Pi_put 2 = .ok (.iload_n 2, 1) := by decide +kernel
theorem d_Pi_put_3 : decode b_Pi_put 3 = .ok (.invokevirtual 31, 3) := by decide +kernel
theorem d_Pi_put_6 : decode b_Pi_put 6 = .ok (.ifCond .eq 20, 3) := by decide +kernel
theorem d_Pi_put_9 : decode b_Pi_put 9 = .ok (.aload_n 0, 1) := by decide +kernel
theorem d_Pi_put_10 : decode b_Pi_put 10 = .ok (.getfield 9, 3) := by decide +kernel
theorem d_Pi_put_13 : decode b_Pi_put 13 = .ok (.iload_n 2, 1) := by decide +kernel
theorem d_Pi_put_14 : decode b_Pi_put 14 = .ok (.bipush 16, 2) := by decide +kernel
theorem d_Pi_put_16 : decode b_Pi_put 16 = .ok (.imul, 1) := by decide +kernel
theorem d_Pi_put_17 : decode b_Pi_put 17 = .ok (.iload_n 1, 1) := by decide +kernel
theorem d_Pi_put_18 : decode b_Pi_put 18 = .ok (.iadd, 1) := by decide +kernel
theorem d_Pi_put_19 : decode b_Pi_put 19 = .ok (.iload_n 3, 1) := by decide +kernel
theorem d_Pi_put_20 : decode b_Pi_put 20 = .ok (.aload_n 0, 1) := by decide +kernel
theorem d_Pi_put_21 : decode b_Pi_put 21 = .ok (.invokevirtual 35, 3) := by decide +kernel
theorem d_Pi_put_24 : decode b_Pi_put 24 = .ok (.iand, 1) := by decide +kernel
theorem d_Pi_put_25 : decode b_Pi_put 25 = .ok (.iastore, 1) := by decide +kernel
theorem d_Pi_put_26 : decode b_Pi_put 26 = .ok (.return_, 1) := by decide +kernel
def wp_Pi_put (post : (Nat → Int32) → Prop) (I_p0 : Nat → Int32) (f_p0_samples : Nat → Int32) (x1 : Int32) (x2 : Int32) (x3 : Int32) : Prop :=
  wp_Pi_has (fun (r3 : Int32) =>
    ((r3 = 0 →
      post f_p0_samples) ∧
     (¬ r3 = 0 →
      wp_Pi_greatest (fun (r21 : Int32) =>
        vp_in ((x2 * 16) + x1) 256 ∧
        post (upd f_p0_samples ((x2 * 16) + x1).toNatClampNeg (x3 &&& r21))) I_p0))) I_p0 x1 x2
set_option maxRecDepth 100000 in
set_option maxHeartbeats 4000000 in
theorem c_Pi_put (l : Launch) (dC : Nat → ClassId) (dI : Nat → Nat → Nat) (cI : ClassId) (a_p0 : Nat) (A_p0 : Nat → Nat) (I_p0 : Nat → Int32) (f_p0_samples : Nat → Int32) (x1 : Int32) (x2 : Int32) (x3 : Int32) {post : (Nat → Int32) → Prop} (hw : wp_Pi_put post I_p0 f_p0_samples x1 x2 x3) : gm_v l y_Pi_put ws_Pi_put ({ frames := 1, cells := 0, slots := 0, locals := 22 } : Room) (dC, dI) vwCl [(cI, .int)] [.ref a_p0, .int x1, .int x2, .int x3] [oPi a_p0 A_p0 I_p0, gz cI (A_p0 0) 256 f_p0_samples] (fun (u : (Nat → Int32)) => [oPi a_p0 A_p0 I_p0, gz cI (A_p0 0) 256 u]) (fun (u : (Nat → Int32)) => post  u) := by
  refine gm_vof (cc := b_Pi_put) (maxL := 4) (by decide) rfl (Nat.le_of_ble_eq_true rfl) ?_
  intro p e s m args below meth c A Q hx hb hml hown hg hK hN hA hnm hret
  have hown : s.vm.findClass R_Pi = some m.cls := hown
  intro ls hl hP hD hS
  have hl : lv_has ls 4 [(0, .ref a_p0), (1, .int x1), (2, .int x2), (3, .int x3)] := hl
  unfold wp_Pi_put at hw
  refine lv_aload_n hx hb d_Pi_put_0 rfl (lv_at hl 0 rfl) ?_
  refine lv_iload_n hx hb d_Pi_put_1 rfl (lv_at hl 1 rfl) ?_
  refine lv_iload_n hx hb d_Pi_put_2 rfl (lv_at hl 2 rfl) ?_
  refine gc_i (wn := fun (_ : Unit) => [oPi a_p0 A_p0 I_p0, gz cI (A_p0 0) 256 f_p0_samples]) (wr := [gz cI (A_p0 0) 256 f_p0_samples]) (gr_V (As := [.int x1, .int x2]) (rest := []) ⟨hx, hb, hml, hown, hg⟩ (c_Pi_has l dC dI cI a_p0 A_p0 I_p0 x1 x2 hw _) (cwV 2 hg (gg_V t_405 t_394 t_395 t_63 t_396) rfl rfl rfl (by decide +kernel) ⟨Nat.le_of_ble_eq_true rfl, Nat.le_of_ble_eq_true rfl⟩) hK hN hP hD [0] (by decide) rfl 0 6 rfl rfl rfl rfl hl.1 rfl (Nat.le_of_ble_eq_true rfl) d_Pi_put_3 ⟨Nat.le_of_ble_eq_true rfl, Nat.le_of_ble_eq_true rfl⟩) rfl rfl hP hD hS hA [0] [1] [1, 0] rfl rfl (by decide) (by decide) (by decide) (fun _ => rfl) ?_
  intro r3 _ H locs hw hP hD hS
  try dsimp only at hw
  have hP : va_P (dC, dI) vwCl [oPi a_p0 A_p0 I_p0, gz cI (A_p0 0) 256 f_p0_samples] H := hP
  have hD : va_D A [oPi a_p0 A_p0 I_p0, gz cI (A_p0 0) 256 f_p0_samples] := hD
  refine lv_if_eq hx hb d_Pi_put_6 rfl (fun hc => ?_) (fun hc => ?_)
  · have hw := hw.1 hc
    exact hret _ _ _ _ f_p0_samples d_Pi_put_26 hP hD hS hw
  · have hw := hw.2 hc
    refine lv_aload_n hx hb d_Pi_put_9 rfl (lv_at hl 0 rfl) ?_
    refine va_get (D := (dC, dI)) (ci := 6) (v := .ref (A_p0 0)) (C := R_Pi) (T := T_Pi) (N := 4) hx hb hg in_Pi hown hK hP 0 rfl rfl 0 (by decide) (hg _ t_135) (fun _ h9 => h9) rfl d_Pi_put_10 ?_
    refine lv_iload_n hx hb d_Pi_put_13 rfl (lv_at hl 2 rfl) ?_
    refine lv_bipush (v := 16) hx hb d_Pi_put_14 (by decide) ?_
    refine lv_imul hx hb d_Pi_put_16 ?_
    refine lv_iload_n hx hb d_Pi_put_17 rfl (lv_at hl 1 rfl) ?_
    refine lv_iadd hx hb d_Pi_put_18 ?_
    refine lv_iload_n hx hb d_Pi_put_19 rfl (lv_at hl 3 rfl) ?_
    refine lv_aload_n hx hb d_Pi_put_20 rfl (lv_at hl 0 rfl) ?_
    refine gc_i (wn := fun (_ : Unit) => [oPi a_p0 A_p0 I_p0, gz cI (A_p0 0) 256 f_p0_samples]) (wr := [gz cI (A_p0 0) 256 f_p0_samples]) (gr_V (As := []) (rest := [.int x3, .int ((x2 * 16) + x1), .ref (A_p0 0)]) ⟨hx, hb, hml, hown, hg⟩ (c_Pi_greatest l dC dI cI a_p0 A_p0 I_p0 hw _) (cwV 0 hg (gg_V t_406 t_398 t_399 t_63 t_400) rfl rfl rfl (by decide +kernel) ⟨Nat.le_of_ble_eq_true rfl, Nat.le_of_ble_eq_true rfl⟩) hK hN hP hD [0] (by decide) rfl 0 6 rfl rfl rfl rfl hl.1 rfl (Nat.le_of_ble_eq_true rfl) d_Pi_put_21 ⟨Nat.le_of_ble_eq_true rfl, Nat.le_of_ble_eq_true rfl⟩) rfl rfl hP hD hS hA [0] [1] [1, 0] rfl rfl (by decide) (by decide) (by decide) (fun _ => rfl) ?_
    intro r21 _ H locs hw hP hD hS
    try dsimp only at hw
    have hP : va_P (dC, dI) vwCl [oPi a_p0 A_p0 I_p0, gz cI (A_p0 0) 256 f_p0_samples] H := hP
    have hD : va_D A [oPi a_p0 A_p0 I_p0, gz cI (A_p0 0) 256 f_p0_samples] := hD
    refine lv_iand hx hb d_Pi_put_24 ?_
    obtain ⟨hin, hw⟩ := hw
    refine va_iast hx hb hK hP hD hS 1 0 rfl rfl hin d_Pi_put_25 (fun H locs hP hD hS => ?_)
    have hP : va_P (dC, dI) vwCl [oPi a_p0 A_p0 I_p0, gz cI (A_p0 0) 256 (upd f_p0_samples ((x2 * 16) + x1).toNatClampNeg (x3 &&& r21))] H := hP
    have hD : va_D A [oPi a_p0 A_p0 I_p0, gz cI (A_p0 0) 256 (upd f_p0_samples ((x2 * 16) + x1).toNatClampNeg (x3 &&& r21))] := hD
    exact hret _ _ _ _ (upd f_p0_samples ((x2 * 16) + x1).toNatClampNeg (x3 &&& r21)) d_Pi_put_26 hP hD hS hw
