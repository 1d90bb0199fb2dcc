theorem d_X_fill_0 : decode b_X_fill 0 = .ok (.aload_n 0, 1) := by decide +kernel
theorem d_X_fill_1 : decode b_X_fill 1 = .ok (.getfield 26, 3) := by decide +kernel
theorem d_X_fill_4 : decode b_X_fill 4 = .ok (.iload_n 1, 1) := by decide +kernel
theorem d_X_fill_5 : decode b_X_fill 5 = .ok (.iload_n 2, 1) := by decide +kernel
theorem d_X_fill_6 : decode b_X_fill 6 = .ok (.invokevirtual 124, 3) := by decide +kernel
theorem d_X_fill_9 : decode b_X_fill 9 = .ok (.ifCond .eq 20, 3) := by decide +kernel
theorem d_X_fill_12 : decode b_X_fill 12 = .ok (.iload 5, 2) := by decide +kernel
theorem d_X_fill_14 : decode b_X_fill 14 = .ok (.ifCond .lt 15, 3) := by decide +kernel
theorem d_X_fill_17 : decode b_X_fill 17 = .ok (.iload 5, 2) := by decide +kernel
theorem d_X_fill_19 : decode b_X_fill 19 = .ok (.aload_n 0, 1) := by decide +kernel
theorem d_X_fill_20 : decode b_X_fill 20 = .ok (.getfield 26, 3) := by decide +kernel
theorem d_X_fill_23 : decode b_X_fill 23 = .ok (.invokevirtual 128, 3) := by decide +kernel
theorem d_X_fill_26 : decode b_X_fill 26 = .ok (.if_icmp .le 5, 3) := by decide +kernel
theorem d_X_fill_29 : decode b_X_fill 29 = .ok (.iconst 0, 1) := by decide +kernel
theorem d_X_fill_30 : decode b_X_fill 30 = .ok (.ireturn, 1) := by decide +kernel
theorem d_X_fill_31 : decode b_X_fill 31 = .ok (.iload_n 3, 1) := by decide +kernel
theorem d_X_fill_32 : decode b_X_fill 32 = .ok (.iconst 1, 1) := by decide +kernel
theorem d_X_fill_33 : decode b_X_fill 33 = .ok (.if_icmp .lt 36, 3) := by decide +kernel
theorem d_X_fill_36 : decode b_X_fill 36 = .ok (.iload 4, 2) := by decide +kernel
theorem d_X_fill_38 : decode b_X_fill 38 = .ok (.iconst 1, 1) := by decide +kernel
theorem d_X_fill_39 : decode b_X_fill 39 = .ok (.if_icmp .lt 30, 3) := by decide +kernel
theorem d_X_fill_42 : decode b_X_fill 42 = .ok (.iload_n 3, 1) := by decide +kernel
theorem d_X_fill_43 : decode b_X_fill 43 = .ok (.aload_n 0, 1) := by decide +kernel
theorem d_X_fill_44 : decode b_X_fill 44 = .ok (.getfield 26, 3) := by decide +kernel
theorem d_X_fill_47 : decode b_X_fill 47 = .ok (.getfield 118, 3) := by decide +kernel
theorem d_X_fill_50 : decode b_X_fill 50 = .ok (.iload_n 1, 1) := by decide +kernel
theorem d_X_fill_51 : decode b_X_fill 51 = .ok (.isub, 1) := by decide +kernel
theorem d_X_fill_52 : decode b_X_fill 52 = .ok (.if_icmp .gt 17, 3) := by decide +kernel
theorem d_X_fill_55 : decode b_X_fill 55 = .ok (.iload 4, 2) := by decide +kernel
theorem d_X_fill_57 : decode b_X_fill 57 = .ok (.aload_n 0, 1) := by decide +kernel
theorem d_X_fill_58 : decode b_X_fill 58 = .ok (.getfield 26, 3) := by decide +kernel
theorem d_X_fill_61 : decode b_X_fill 61 = .ok (.getfield 121, 3) := by decide +kernel
theorem d_X_fill_64 : decode b_X_fill 64 = .ok (.iload_n 2, 1) := by decide +kernel
theorem d_X_fill_65 : decode b_X_fill 65 = .ok (.isub, 1) := by decide +kernel
theorem d_X_fill_66 : decode b_X_fill 66 = .ok (.if_icmp .le 5, 3) := by decide +kernel
theorem d_X_fill_69 : decode b_X_fill 69 = .ok (.iconst 0, 1) := by decide +kernel
theorem d_X_fill_70 : decode b_X_fill 70 = .ok (.ireturn, 1) := by decide +kernel
theorem d_X_fill_71 : decode b_X_fill 71 = .ok (.iload_n 2, 1) := by decide +kernel
theorem d_X_fill_72 : decode b_X_fill 72 = .ok (.istore 6, 2) := by decide +kernel
theorem d_X_fill_74 : decode b_X_fill 74 = .ok (.iload 6, 2) := by decide +kernel
theorem d_X_fill_76 : decode b_X_fill 76 = .ok (.iload_n 2, 1) := by decide +kernel
theorem d_X_fill_77 : decode b_X_fill 77 = .ok (.iload 4, 2) := by decide +kernel
theorem d_X_fill_79 : decode b_X_fill 79 = .ok (.iadd, 1) := by decide +kernel
theorem d_X_fill_80 : decode b_X_fill 80 = .ok (.if_icmp .ge 39, 3) := by decide +kernel
theorem d_X_fill_83 : decode b_X_fill 83 = .ok (.iload_n 1, 1) := by decide +kernel
theorem d_X_fill_84 : decode b_X_fill 84 = .ok (.istore 7, 2) := by decide +kernel
theorem d_X_fill_86 : decode b_X_fill 86 = .ok (.iload 7, 2) := by decide +kernel
theorem d_X_fill_88 : decode b_X_fill 88 = .ok (.iload_n 1, 1) := by decide +kernel
theorem d_X_fill_89 : decode b_X_fill 89 = .ok (.iload_n 3, 1) := by decide +kernel
theorem d_X_fill_90 : decode b_X_fill 90 = .ok (.iadd, 1) := by decide +kernel
theorem d_X_fill_91 : decode b_X_fill 91 = .ok (.if_icmp .ge 22, 3) := by decide +kernel
theorem d_X_fill_94 : decode b_X_fill 94 = .ok (.aload_n 0, 1) := by decide +kernel
theorem d_X_fill_95 : decode b_X_fill 95 = .ok (.getfield 26, 3) := by decide +kernel
theorem d_X_fill_98 : decode b_X_fill 98 = .ok (.iload 7, 2) := by decide +kernel
theorem d_X_fill_100 : decode b_X_fill 100 = .ok (.iload 6, 2) := by decide +kernel
theorem d_X_fill_102 : decode b_X_fill 102 = .ok (.iload 5, 2) := by decide +kernel
theorem d_X_fill_104 : decode b_X_fill 104 = .ok (.invokevirtual 132, 3) := by decide +kernel
theorem d_X_fill_107 : decode b_X_fill 107 = .ok (.iinc 7 1, 3) := by decide +kernel
theorem d_X_fill_110 : decode b_X_fill 110 = .ok (.goto (-24), 3) := by decide +kernel
theorem d_X_fill_113 : decode b_X_fill 113 = .ok (.iinc 6 1, 3) := by decide +kernel
theorem d_X_fill_116 : decode b_X_fill 116 = .ok (.goto (-42), 3) := by decide +kernel
theorem d_X_fill_119 : decode b_X_fill 119 = .ok (.iconst 1, 1) := by decide +kernel
theorem d_X_fill_120 : decode b_X_fill 120 = .ok (.ireturn, 1) := by decide +kernel
def wp_X_fill_l86 (post : Int32 → (Nat → Int32) → Prop) (k74 : (Nat → Int32) → Int32 → Int32 → Int32 → Int32 → Int32 → Int32 → Prop) (I_p0_picture : Nat → Int32) : Nat → (Nat → Int32) → Int32 → Int32 → Int32 → Int32 → Int32 → Int32 → Int32 → Prop
  | 0, _, _, _, _, _, _, _, _ => False
  | n + 1, f_p0_picture_samples, x1, x2, x3, x4, x5, x6, x7 =>
    (((x1 + x3) ≤ x7 →
      k74 f_p0_picture_samples x1 x2 x3 x4 x5 (x6 + 1)) ∧
     (¬ (x1 + x3) ≤ x7 →
      wp_Pi_put (fun (f_p0_picture_samples_104 : Nat → Int32) =>
        wp_X_fill_l86 post k74 I_p0_picture n f_p0_picture_samples_104 x1 x2 x3 x4 x5 x6 (x7 + 1)) I_p0_picture f_p0_picture_samples x7 x6 x5))
def wp_X_fill_l74 (post : Int32 → (Nat → Int32) → Prop) (I_p0_picture : Nat → Int32) : Nat → (Nat → Int32) → Int32 → Int32 → Int32 → Int32 → Int32 → Int32 → Prop
  | 0, _, _, _, _, _, _, _ => False
  | n + 1, f_p0_picture_samples, x1, x2, x3, x4, x5, x6 =>
    (((x2 + x4) ≤ x6 →
      post 1 f_p0_picture_samples) ∧
     (¬ (x2 + x4) ≤ x6 →
      (∃ n1 : Nat, wp_X_fill_l86 post (wp_X_fill_l74 post I_p0_picture n) I_p0_picture n1 f_p0_picture_samples x1 x2 x3 x4 x5 x6 x1)))
def wp_X_fill (post : Int32 → (Nat → Int32) → Prop) (I_p0_picture : Nat → Int32) (f_p0_picture_samples : Nat → Int32) (x1 : Int32) (x2 : Int32) (x3 : Int32) (x4 : Int32) (x5 : Int32) : Prop :=
  wp_Pi_has (fun (r6 : Int32) =>
    ((r6 = 0 →
      post 0 f_p0_picture_samples) ∧
     (¬ r6 = 0 →
      ((x5 < 0 →
        post 0 f_p0_picture_samples) ∧
       (¬ x5 < 0 →
        wp_Pi_greatest (fun (r23 : Int32) =>
          ((x5 ≤ r23 →
            ((x3 < 1 →
              post 0 f_p0_picture_samples) ∧
             (¬ x3 < 1 →
              ((x4 < 1 →
                post 0 f_p0_picture_samples) ∧
               (¬ x4 < 1 →
                ((((I_p0_picture 1) - x1) < x3 →
                  post 0 f_p0_picture_samples) ∧
                 (¬ ((I_p0_picture 1) - x1) < x3 →
                  ((x4 ≤ ((I_p0_picture 2) - x2) →
                    (∃ n1 : Nat, wp_X_fill_l74 post I_p0_picture n1 f_p0_picture_samples x1 x2 x3 x4 x5 x2)) ∧
                   (¬ x4 ≤ ((I_p0_picture 2) - x2) →
                    post 0 f_p0_picture_samples))))))))) ∧
           (¬ x5 ≤ r23 →
            post 0 f_p0_picture_samples))) I_p0_picture))))) I_p0_picture x1 x2
set_option maxRecDepth 100000 in
set_option maxHeartbeats 4000000 in
theorem c_X_fill (l : Launch) (dC : Nat → ClassId) (dI : Nat → Nat → Nat) (cI : ClassId) (a_p0 : Nat) (A_p0 : Nat → Nat) (A_p0_picture : Nat → Nat) (I_p0_picture : Nat → Int32) (f_p0_picture_samples : Nat → Int32) (x1 : Int32) (x2 : Int32) (x3 : Int32) (x4 : Int32) (x5 : Int32) {post : Int32 → (Nat → Int32) → Prop} (hw : wp_X_fill post I_p0_picture f_p0_picture_samples x1 x2 x3 x4 x5) : gm_i l y_X_fill ws_X_fill ({ frames := 2, cells := 0, slots := 0, locals := 45 } : Room) (dC, dI) vwCl [(cI, .int)] [.ref a_p0, .int x1, .int x2, .int x3, .int x4, .int x5] [oX a_p0 A_p0, oPi (A_p0 2) A_p0_picture I_p0_picture, gz cI (A_p0_picture 0) 256 f_p0_picture_samples] (fun (u : (Nat → Int32)) => [oX a_p0 A_p0, oPi (A_p0 2) A_p0_picture I_p0_picture, gz cI (A_p0_picture 0) 256 u]) (fun (r : Int32) (u : (Nat → Int32)) => post r u) := by
  refine gm_iof (cc := b_X_fill) (maxL := 8) (ty := .boolean) (by decide) rfl (Nat.le_of_ble_eq_true rfl) ?_
  intro p e s m args below meth c A Q hx hb hml hown hg hK hN hA hret
  have hown : s.vm.findClass R_X = some m.cls := hown
  have l86 : ∀ (k74 : (Nat → Int32) → Int32 → Int32 → Int32 → Int32 → Int32 → Int32 → Prop), (∀ (H : Heap) (locs : List Loc) (ls : Array Slot) (f_p0_picture_samples : Nat → Int32) (x1 : Int32) (x2 : Int32) (x3 : Int32) (x4 : Int32) (x5 : Int32) (x6 : Int32), va_P (dC, dI) vwCl [oX a_p0 A_p0, oPi (A_p0 2) A_p0_picture I_p0_picture, gz cI (A_p0_picture 0) 256 f_p0_picture_samples] H → va_D A [oX a_p0 A_p0, oPi (A_p0 2) A_p0_picture I_p0_picture, gz cI (A_p0_picture 0) 256 f_p0_picture_samples] → va_S A s.heap H locs → lv_has ls 8 [(0, .ref a_p0), (1, .int x1), (2, .int x2), (3, .int x3), (4, .int x4), (5, .int x5), (6, .int x6)] → k74 f_p0_picture_samples x1 x2 x3 x4 x5 x6 → W p l e ({ frames := 2, cells := 0, slots := 0, locals := 45 } : Room) s m args below meth c H locs 0 0 Q (F0 m 74 ls [])) → ∀ n : Nat, ∀ (H : Heap) (locs : List Loc) (ls : Array Slot) (f_p0_picture_samples : Nat → Int32) (x1 : Int32) (x2 : Int32) (x3 : Int32) (x4 : Int32) (x5 : Int32) (x6 : Int32) (x7 : Int32), va_P (dC, dI) vwCl [oX a_p0 A_p0, oPi (A_p0 2) A_p0_picture I_p0_picture, gz cI (A_p0_picture 0) 256 f_p0_picture_samples] H → va_D A [oX a_p0 A_p0, oPi (A_p0 2) A_p0_picture I_p0_picture, gz cI (A_p0_picture 0) 256 f_p0_picture_samples] → va_S A s.heap H locs → lv_has ls 8 [(0, .ref a_p0), (1, .int x1), (2, .int x2), (3, .int x3), (4, .int x4), (5, .int x5), (6, .int x6), (7, .int x7)] → wp_X_fill_l86 post k74 I_p0_picture n f_p0_picture_samples x1 x2 x3 x4 x5 x6 x7 → W p l e ({ frames := 2, cells := 0, slots := 0, locals := 45 } : Room) s m args below meth c H locs 0 0 Q (F0 m 86 ls []) := by
    intro k74 hk74 n
    induction n with
    | zero => intro H locs ls f_p0_picture_samples x1 x2 x3 x4 x5 x6 x7 hP hD hS hl hw; exact hw.elim
    | succ n ih =>
      intro H locs ls f_p0_picture_samples x1 x2 x3 x4 x5 x6 x7 hP hD hS hl hw
      unfold wp_X_fill_l86 at hw
      refine lv_iload hx hb d_X_fill_86 (lv_at hl 7 rfl) ?_
      refine lv_iload_n hx hb d_X_fill_88 rfl (lv_at hl 1 rfl) ?_
      refine lv_iload_n hx hb d_X_fill_89 rfl (lv_at hl 3 rfl) ?_
      refine lv_iadd hx hb d_X_fill_90 ?_
      refine lv_icmp_ge hx hb d_X_fill_91 rfl (fun hc => ?_) (fun hc => ?_)
      · have hw := hw.1 hc
        refine lv_iinc (k := 6) (v := (x6 + 1)) (lv' := [(6, .int (x6 + 1)), (0, .ref a_p0), (1, .int x1), (2, .int x2), (3, .int x3), (4, .int x4), (5, .int x5), (7, .int x7)]) hx hb d_X_fill_113 hl rfl (congrArg (fun z => x6 + z) (by decide : Int32.ofInt 1 = 1)) (by decide) rfl (fun ls hl => ?_)
        refine lv_goto hx hb d_X_fill_116 rfl ?_
        exact hk74 _ _ _ f_p0_picture_samples x1 x2 x3 x4 x5 (x6 + 1) hP hD hS (lv_sub hl [1, 2, 3, 4, 5, 6, 0] rfl) hw
      · have hw := hw.2 hc
        refine lv_aload_n hx hb d_X_fill_94 rfl (lv_at hl 0 rfl) ?_
        refine va_get (D := (dC, dI)) (ci := 9) (v := .ref (A_p0 2)) (C := R_X) (T := T_X) (N := 14) hx hb hg in_X hown hK hP 0 rfl rfl 2 (by decide) (hg _ t_309) (fun _ h9 => h9) rfl d_X_fill_95 ?_
        refine lv_iload hx hb d_X_fill_98 (lv_at hl 7 rfl) ?_
        refine lv_iload hx hb d_X_fill_100 (lv_at hl 6 rfl) ?_
        refine lv_iload hx hb d_X_fill_102 (lv_at hl 5 rfl) ?_
        refine gc_v (wn := fun u => [oX a_p0 A_p0, oPi (A_p0 2) A_p0_picture I_p0_picture, gz cI (A_p0_picture 0) 256 u]) (wr := [oX a_p0 A_p0]) (gr_V (As := [.int x7, .int x6, .int x5]) (rest := []) ⟨hx, hb, hml, hown, hg⟩ (c_Pi_put l dC dI cI (A_p0 2) A_p0_picture I_p0_picture f_p0_picture_samples x7 x6 x5 hw _) (cwV 3 hg (gg_V t_401 t_402 t_403 t_63 t_404) rfl rfl rfl (by decide +kernel) ⟨Nat.le_of_ble_eq_true rfl, Nat.le_of_ble_eq_true rfl⟩) hK hN hP hD [1, 2] (by decide) rfl 1 6 rfl rfl rfl rfl hl.1 rfl (Nat.le_of_ble_eq_true rfl) d_X_fill_104 ⟨Nat.le_of_ble_eq_true rfl, Nat.le_of_ble_eq_true rfl⟩) rfl rfl hP hD hS hA [1, 2] [0] [0, 1, 2] rfl rfl (by decide) (by decide) (by decide) (fun _ => rfl) ?_
        intro f_p0_picture_samples_104 H locs hw hP hD hS
        try dsimp only at hw
        have hP : va_P (dC, dI) vwCl [oX a_p0 A_p0, oPi (A_p0 2) A_p0_picture I_p0_picture, gz cI (A_p0_picture 0) 256 f_p0_picture_samples_104] H := hP
        have hD : va_D A [oX a_p0 A_p0, oPi (A_p0 2) A_p0_picture I_p0_picture, gz cI (A_p0_picture 0) 256 f_p0_picture_samples_104] := hD
        refine lv_iinc (k := 7) (v := (x7 + 1)) (lv' := [(7, .int (x7 + 1)), (0, .ref a_p0), (1, .int x1), (2, .int x2), (3, .int x3), (4, .int x4), (5, .int x5), (6, .int x6)]) hx hb d_X_fill_107 hl rfl (congrArg (fun z => x7 + z) (by decide : Int32.ofInt 1 = 1)) (by decide) rfl (fun ls hl => ?_)
        refine lv_goto hx hb d_X_fill_110 rfl ?_
        exact ih _ _ _ f_p0_picture_samples_104 x1 x2 x3 x4 x5 x6 (x7 + 1) hP hD hS (lv_sub hl [1, 2, 3, 4, 5, 6, 7, 0] rfl) hw
  have l74 : ∀ n : Nat, ∀ (H : Heap) (locs : List Loc) (ls : Array Slot) (f_p0_picture_samples : Nat → Int32) (x1 : Int32) (x2 : Int32) (x3 : Int32) (x4 : Int32) (x5 : Int32) (x6 : Int32), va_P (dC, dI) vwCl [oX a_p0 A_p0, oPi (A_p0 2) A_p0_picture I_p0_picture, gz cI (A_p0_picture 0) 256 f_p0_picture_samples] H → va_D A [oX a_p0 A_p0, oPi (A_p0 2) A_p0_picture I_p0_picture, gz cI (A_p0_picture 0) 256 f_p0_picture_samples] → va_S A s.heap H locs → lv_has ls 8 [(0, .ref a_p0), (1, .int x1), (2, .int x2), (3, .int x3), (4, .int x4), (5, .int x5), (6, .int x6)] → wp_X_fill_l74 post I_p0_picture n f_p0_picture_samples x1 x2 x3 x4 x5 x6 → W p l e ({ frames := 2, cells := 0, slots := 0, locals := 45 } : Room) s m args below meth c H locs 0 0 Q (F0 m 74 ls []) := by
    intro n
    induction n with
    | zero => intro H locs ls f_p0_picture_samples x1 x2 x3 x4 x5 x6 hP hD hS hl hw; exact hw.elim
    | succ n ih =>
      intro H locs ls f_p0_picture_samples x1 x2 x3 x4 x5 x6 hP hD hS hl hw
      unfold wp_X_fill_l74 at hw
      refine lv_iload hx hb d_X_fill_74 (lv_at hl 6 rfl) ?_
      refine lv_iload_n hx hb d_X_fill_76 rfl (lv_at hl 2 rfl) ?_
      refine lv_iload hx hb d_X_fill_77 (lv_at hl 4 rfl) ?_
      refine lv_iadd hx hb d_X_fill_79 ?_
      refine lv_icmp_ge hx hb d_X_fill_80 rfl (fun hc => ?_) (fun hc => ?_)
      · have hw := hw.1 hc
        refine lv_iconst (v := 1) hx hb d_X_fill_119 (by decide) ?_
        exact hret _ _ _ _ _ f_p0_picture_samples d_X_fill_120 rfl hP hD hS hw
      · have hw := hw.2 hc
        refine lv_iload_n hx hb d_X_fill_83 rfl (lv_at hl 1 rfl) ?_
        refine lv_istore (lv' := [(7, .int x1), (0, .ref a_p0), (1, .int x1), (2, .int x2), (3, .int x3), (4, .int x4), (5, .int x5), (6, .int x6)]) hx hb d_X_fill_84 hl (by decide) rfl (fun ls hl => ?_)
        obtain ⟨n1, hw⟩ := hw
        exact l86 _ ih n1 _ _ _ f_p0_picture_samples x1 x2 x3 x4 x5 x6 x1 hP hD hS (lv_sub hl [1, 2, 3, 4, 5, 6, 7, 0] rfl) hw
  intro ls hl hP hD hS
  have hl : lv_has ls 8 [(0, .ref a_p0), (1, .int x1), (2, .int x2), (3, .int x3), (4, .int x4), (5, .int x5)] := hl
  unfold wp_X_fill at hw
  refine lv_aload_n hx hb d_X_fill_0 rfl (lv_at hl 0 rfl) ?_
  refine va_get (D := (dC, dI)) (ci := 9) (v := .ref (A_p0 2)) (C := R_X) (T := T_X) (N := 14) hx hb hg in_X hown hK hP 0 rfl rfl 2 (by decide) (hg _ t_309) (fun _ h9 => h9) rfl d_X_fill_1 ?_
  refine lv_iload_n hx hb d_X_fill_4 rfl (lv_at hl 1 rfl) ?_
  refine lv_iload_n hx hb d_X_fill_5 rfl (lv_at hl 2 rfl) ?_
  refine gc_i (wn := fun (_ : Unit) => [oX a_p0 A_p0, oPi (A_p0 2) A_p0_picture I_p0_picture, gz cI (A_p0_picture 0) 256 f_p0_picture_samples]) (wr := [oX a_p0 A_p0, gz cI (A_p0_picture 0) 256 f_p0_picture_samples]) (gr_V (As := [.int x1, .int x2]) (rest := []) ⟨hx, hb, hml, hown, hg⟩ (c_Pi_has l dC dI cI (A_p0 2) A_p0_picture I_p0_picture x1 x2 hw _) (cwV 2 hg (gg_V t_393 t_394 t_395 t_63 t_396) rfl rfl rfl (by decide +kernel) ⟨Nat.le_of_ble_eq_true rfl, Nat.le_of_ble_eq_true rfl⟩) hK hN hP hD [1] (by decide) rfl 1 6 rfl rfl rfl rfl hl.1 rfl (Nat.le_of_ble_eq_true rfl) d_X_fill_6 ⟨Nat.le_of_ble_eq_true rfl, Nat.le_of_ble_eq_true rfl⟩) rfl rfl hP hD hS hA [1] [0, 2] [0, 2, 1] rfl rfl (by decide) (by decide) (by decide) (fun _ => rfl) ?_
  intro r6 _ H locs hw hP hD hS
  try dsimp only at hw
  have hP : va_P (dC, dI) vwCl [oX a_p0 A_p0, oPi (A_p0 2) A_p0_picture I_p0_picture, gz cI (A_p0_picture 0) 256 f_p0_picture_samples] H := hP
  have hD : va_D A [oX a_p0 A_p0, oPi (A_p0 2) A_p0_picture I_p0_picture, gz cI (A_p0_picture 0) 256 f_p0_picture_samples] := hD
  refine lv_if_eq hx hb d_X_fill_9 rfl (fun hc => ?_) (fun hc => ?_)
  · have hw := hw.1 hc
    refine lv_iconst (v := 0) hx hb d_X_fill_29 (by decide) ?_
    exact hret _ _ _ _ _ f_p0_picture_samples d_X_fill_30 rfl hP hD hS hw
  · have hw := hw.2 hc
    refine lv_iload hx hb d_X_fill_12 (lv_at hl 5 rfl) ?_
    refine lv_if_lt hx hb d_X_fill_14 rfl (fun hc => ?_) (fun hc => ?_)
    · have hw := hw.1 hc
      refine lv_iconst (v := 0) hx hb d_X_fill_29 (by decide) ?_
      exact hret _ _ _ _ _ f_p0_picture_samples d_X_fill_30 rfl hP hD hS hw
    · have hw := hw.2 hc
      refine lv_iload hx hb d_X_fill_17 (lv_at hl 5 rfl) ?_
      refine lv_aload_n hx hb d_X_fill_19 rfl (lv_at hl 0 rfl) ?_
      refine va_get (D := (dC, dI)) (ci := 9) (v := .ref (A_p0 2)) (C := R_X) (T := T_X) (N := 14) hx hb hg in_X hown hK hP 0 rfl rfl 2 (by decide) (hg _ t_309) (fun _ h9 => h9) rfl d_X_fill_20 ?_
      refine gc_i (wn := fun (_ : Unit) => [oX a_p0 A_p0, oPi (A_p0 2) A_p0_picture I_p0_picture, gz cI (A_p0_picture 0) 256 f_p0_picture_samples]) (wr := [oX a_p0 A_p0, gz cI (A_p0_picture 0) 256 f_p0_picture_samples]) (gr_V (As := []) (rest := [.int x5]) ⟨hx, hb, hml, hown, hg⟩ (c_Pi_greatest l dC dI cI (A_p0 2) A_p0_picture I_p0_picture hw _) (cwV 0 hg (gg_V t_397 t_398 t_399 t_63 t_400) rfl rfl rfl (by decide +kernel) ⟨Nat.le_of_ble_eq_true rfl, Nat.le_of_ble_eq_true rfl⟩) hK hN hP hD [1] (by decide) rfl 1 6 rfl rfl rfl rfl hl.1 rfl (Nat.le_of_ble_eq_true rfl) d_X_fill_23 ⟨Nat.le_of_ble_eq_true rfl, Nat.le_of_ble_eq_true rfl⟩) rfl rfl hP hD hS hA [1] [0, 2] [0, 2, 1] rfl rfl (by decide) (by decide) (by decide) (fun _ => rfl) ?_
      intro r23 _ H locs hw hP hD hS
      try dsimp only at hw
      have hP : va_P (dC, dI) vwCl [oX a_p0 A_p0, oPi (A_p0 2) A_p0_picture I_p0_picture, gz cI (A_p0_picture 0) 256 f_p0_picture_samples] H := hP
      have hD : va_D A [oX a_p0 A_p0, oPi (A_p0 2) A_p0_picture I_p0_picture, gz cI (A_p0_picture 0) 256 f_p0_picture_samples] := hD
      refine lv_icmp_le hx hb d_X_fill_26 rfl (fun hc => ?_) (fun hc => ?_)
      · have hw := hw.1 hc
        refine lv_iload_n hx hb d_X_fill_31 rfl (lv_at hl 3 rfl) ?_
        refine lv_iconst (v := 1) hx hb d_X_fill_32 (by decide) ?_
        refine lv_icmp_lt hx hb d_X_fill_33 rfl (fun hc => ?_) (fun hc => ?_)
        · have hw := hw.1 hc
          refine lv_iconst (v := 0) hx hb d_X_fill_69 (by decide) ?_
          exact hret _ _ _ _ _ f_p0_picture_samples d_X_fill_70 rfl hP hD hS hw
        · have hw := hw.2 hc
          refine lv_iload hx hb d_X_fill_36 (lv_at hl 4 rfl) ?_
          refine lv_iconst (v := 1) hx hb d_X_fill_38 (by decide) ?_
          refine lv_icmp_lt hx hb d_X_fill_39 rfl (fun hc => ?_) (fun hc => ?_)
          · have hw := hw.1 hc
            refine lv_iconst (v := 0) hx hb d_X_fill_69 (by decide) ?_
            exact hret _ _ _ _ _ f_p0_picture_samples d_X_fill_70 rfl hP hD hS hw
          · have hw := hw.2 hc
            refine lv_iload_n hx hb d_X_fill_42 rfl (lv_at hl 3 rfl) ?_
            refine lv_aload_n hx hb d_X_fill_43 rfl (lv_at hl 0 rfl) ?_
            refine va_get (D := (dC, dI)) (ci := 9) (v := .ref (A_p0 2)) (C := R_X) (T := T_X) (N := 14) hx hb hg in_X hown hK hP 0 rfl rfl 2 (by decide) (hg _ t_309) (fun _ h9 => h9) rfl d_X_fill_44 ?_
            refine va_get (D := (dC, dI)) (ci := 6) (v := .int (I_p0_picture 1)) (C := R_Pi) (T := T_Pi) (N := 4) hx hb hg in_Pi hown hK hP 1 rfl rfl 1 (by decide) (hg _ t_137) (fun _ h9 => h9) rfl d_X_fill_47 ?_
            refine lv_iload_n hx hb d_X_fill_50 rfl (lv_at hl 1 rfl) ?_
            refine lv_isub hx hb d_X_fill_51 ?_
            refine lv_icmp_gt hx hb d_X_fill_52 rfl (fun hc => ?_) (fun hc => ?_)
            · have hw := hw.1 hc
              refine lv_iconst (v := 0) hx hb d_X_fill_69 (by decide) ?_
              exact hret _ _ _ _ _ f_p0_picture_samples d_X_fill_70 rfl hP hD hS hw
            · have hw := hw.2 hc
              refine lv_iload hx hb d_X_fill_55 (lv_at hl 4 rfl) ?_
              refine lv_aload_n hx hb d_X_fill_57 rfl (lv_at hl 0 rfl) ?_
              refine va_get (D := (dC, dI)) (ci := 9) (v := .ref (A_p0 2)) (C := R_X) (T := T_X) (N := 14) hx hb hg in_X hown hK hP 0 rfl rfl 2 (by decide) (hg _ t_309) (fun _ h9 => h9) rfl d_X_fill_58 ?_
              refine va_get (D := (dC, dI)) (ci := 6) (v := .int (I_p0_picture 2)) (C := R_Pi) (T := T_Pi) (N := 4) hx hb hg in_Pi hown hK hP 1 rfl rfl 2 (by decide) (hg _ t_139) (fun _ h9 => h9) rfl d_X_fill_61 ?_
              refine lv_iload_n hx hb d_X_fill_64 rfl (lv_at hl 2 rfl) ?_
              refine lv_isub hx hb d_X_fill_65 ?_
              refine lv_icmp_le hx hb d_X_fill_66 rfl (fun hc => ?_) (fun hc => ?_)
              · have hw := hw.1 hc
                refine lv_iload_n hx hb d_X_fill_71 rfl (lv_at hl 2 rfl) ?_
                refine lv_istore (lv' := [(6, .int x2), (0, .ref a_p0), (1, .int x1), (2, .int x2), (3, .int x3), (4, .int x4), (5, .int x5)]) hx hb d_X_fill_72 hl (by decide) rfl (fun ls hl => ?_)
                obtain ⟨n1, hw⟩ := hw
                exact l74 n1 _ _ _ f_p0_picture_samples x1 x2 x3 x4 x5 x2 hP hD hS (lv_sub hl [1, 2, 3, 4, 5, 6, 0] rfl) hw
              · have hw := hw.2 hc
                refine lv_iconst (v := 0) hx hb d_X_fill_69 (by decide) ?_
                exact hret _ _ _ _ _ f_p0_picture_samples d_X_fill_70 rfl hP hD hS hw
      · have hw := hw.2 hc
        refine lv_iconst (v := 0) hx hb d_X_fill_29 (by decide) ?_
        exact hret _ _ _ _ _ f_p0_picture_samples d_X_fill_30 rfl hP hD hS hw
theorem d_En_isNumbers_0 : decode b_En_isNumbers 0 = .ok (.aload_n 0, 1) := by decide +kernel
theorem d_En_isNumbers_1 : decode b_En_isNumbers 1 = .ok (.getfield 46, 3) := by decide +kernel
theorem d_En_isNumbers_4 : decode b_En_isNumbers 4 = .ok (.ifCond .ne 33, 3) := by decide +kernel
theorem d_En_isNumbers_7 : decode b_En_isNumbers 7 = .ok (.aload_n 0, 1) := by decide +kernel
theorem d_En_isNumbers_8 : decode b_En_isNumbers 8 = .ok (.getfield 29, 3) := by decide +kernel
theorem d_En_isNumbers_11 : decode b_En_isNumbers 11 = .ok (.iload_n 1, 1) := by decide +kernel
theorem d_En_isNumbers_12 : decode b_En_isNumbers 12 = .ok (.i2l, 1) := by decide +kernel
theorem d_En_isNumbers_13 : decode b_En_isNumbers 13 = .ok (.lcmp, 1) := by decide +kernel
theorem d_En_isNumbers_14 : decode b_En_isNumbers 14 = .ok (.ifCond .ne 23, 3) := by decide +kernel
theorem d_En_isNumbers_17 : decode b_En_isNumbers 17 = .ok (.aload_n 0, 1) := by decide +kernel
theorem d_En_isNumbers_18 : decode b_En_isNumbers 18 = .ok (.getfield 21, 3) := by decide +kernel
theorem d_En_isNumbers_21 : decode b_En_isNumbers 21 = .ok (.iconst 3, 1) := by decide +kernel
theorem d_En_isNumbers_22 : decode b_En_isNumbers 22 = .ok (.if_icmp .eq 11, 3) := by decide +kernel
theorem d_En_isNumbers_25 : decode b_En_isNumbers 25 = .ok (.aload_n 0, 1) := by decide +kernel
theorem d_En_isNumbers_26 : decode b_En_isNumbers 26 = .ok (.getfield 21, 3) := by decide +kernel
theorem d_En_isNumbers_29 : decode b_En_isNumbers 29 = .ok (.iconst 4, 1) := by decide +kernel
theorem d_En_isNumbers_30 : decode b_En_isNumbers 30 = .ok (.if_icmp .ne 7, 3) := by decide +kernel
theorem d_En_isNumbers_33 : decode b_En_isNumbers 33 = .ok (.iconst 1, 1) := by decide +kernel
theorem d_En_isNumbers_34 : decode b_En_isNumbers 34 = .ok (.goto 4, 3) := by decide +kernel
theorem d_En_isNumbers_37 : decode b_En_isNumbers 37 = .ok (.iconst 0, 1) := by decide +kernel
theorem d_En_isNumbers_38 : decode b_En_isNumbers 38 = .ok (.ireturn, 1) := by decide +kernel
def wp_En_isNumbers_b37 (post : Int32 → Prop) (I_p0 : Nat → Int32) (L_p0 : Nat → Int64) : Prop :=
  post 0
def wp_En_isNumbers_b33 (post : Int32 → Prop) (I_p0 : Nat → Int32) (L_p0 : Nat → Int64) : Prop :=
  post 1
def wp_En_isNumbers (post : Int32 → Prop) (I_p0 : Nat → Int32) (L_p0 : Nat → Int64) (x1 : Int32) : Prop :=
  (((I_p0 3) = 0 →
    (((L_p0 1) = x1.toInt64 →
      (((I_p0 0) = 3 →
        wp_En_isNumbers_b33 post I_p0 L_p0) ∧
       (¬ (I_p0 0) = 3 →
        (((I_p0 0) = 4 →
          wp_En_isNumbers_b33 post I_p0 L_p0) ∧
         (¬ (I_p0 0) = 4 →
          wp_En_isNumbers_b37 post I_p0 L_p0))))) ∧
     (¬ (L_p0 1) = x1.toInt64 →
      wp_En_isNumbers_b37 post I_p0 L_p0))) ∧
   (¬ (I_p0 3) = 0 →
    wp_En_isNumbers_b37 post I_p0 L_p0))
set_option maxRecDepth 100000 in
set_option maxHeartbeats 4000000 in
theorem c_En_isNumbers (l : Launch) (dC : Nat → ClassId) (dI : Nat → Nat → Nat) (cI : ClassId) (a_p0 : Nat) (I_p0 : Nat → Int32) (L_p0 : Nat → Int64) (x1 : Int32) {post : Int32 → Prop} (hw : wp_En_isNumbers post I_p0 L_p0 x1) : gm_i l y_En_isNumbers ws_En_isNumbers ({ frames := 0, cells := 0, slots := 0, locals := 0 } : Room) (dC, dI) vwCl [(cI, .int)] [.ref a_p0, .int x1] [oEn a_p0 I_p0 L_p0] (fun (_ : Unit) => [oEn a_p0 I_p0 L_p0]) (fun (r : Int32) (_ : Unit) => post r) := by
  refine gm_iof (cc := b_En_isNumbers) (maxL := 2) (ty := .boolean) (by decide) rfl (Nat.le_of_ble_eq_true rfl) ?_
  intro p e s m args below meth c A Q hx hb hml hown hg hK hN hA hret
  have hown : s.vm.findClass R_En = some m.cls := hown
  have b37 : ∀ (H : Heap) (locs : List Loc) (ls : Array Slot), va_P (dC, dI) vwCl [oEn a_p0 I_p0 L_p0] H → va_D A [oEn a_p0 I_p0 L_p0] → va_S A s.heap H locs → lv_has ls 2 [] → wp_En_isNumbers_b37 post I_p0 L_p0 → W p l e ({ frames := 0, cells := 0, slots := 0, locals := 0 } : Room) s m args below meth c H locs 0 0 Q (F0 m 37 ls []) := by
    intro H locs ls hP hD hS hl hw
    unfold wp_En_isNumbers_b37 at hw
    refine lv_iconst (v := 0) hx hb d_En_isNumbers_37 (by decide) ?_
    exact hret _ _ _ _ _ () d_En_isNumbers_38 rfl hP hD hS hw
  have b33 : ∀ (H : Heap) (locs : List Loc) (ls : Array Slot), va_P (dC, dI) vwCl [oEn a_p0 I_p0 L_p0] H → va_D A [oEn a_p0 I_p0 L_p0] → va_S A s.heap H locs → lv_has ls 2 [] → wp_En_isNumbers_b33 post I_p0 L_p0 → W p l e ({ frames := 0, cells := 0, slots := 0, locals := 0 } : Room) s m args below meth c H locs 0 0 Q (F0 m 33 ls []) := by
    intro H locs ls hP hD hS hl hw
    unfold wp_En_isNumbers_b33 at hw
    refine lv_iconst (v := 1) hx hb d_En_isNumbers_33 (by decide) ?_
    refine lv_goto hx hb d_En_isNumbers_34 rfl ?_
    exact hret _ _ _ _ _ () d_En_isNumbers_38 rfl hP hD hS hw
  intro ls hl hP hD hS
  have hl : lv_has ls 2 [(0, .ref a_p0), (1, .int x1)] := hl
  unfold wp_En_isNumbers at hw
  refine lv_aload_n hx hb d_En_isNumbers_0 rfl (lv_at hl 0 rfl) ?_
  refine va_get (D := (dC, dI)) (ci := 1) (v := .int (I_p0 3)) (C := R_En) (T := T_En) (N := 4) hx hb hg in_En hown hK hP 0 rfl rfl 3 (by decide) (hg _ t_269) (fun _ h9 => h9) rfl d_En_isNumbers_1 ?_
  refine lv_if_ne hx hb d_En_isNumbers_4 rfl (fun hc => ?_) (fun hc => ?_)
  · have hw := hw.2 hc
    exact b37 _ _ _ hP hD hS (lv_sub hl [] rfl) hw
  · have hw := hw.1 hc
    refine lv_aload_n hx hb d_En_isNumbers_7 rfl (lv_at hl 0 rfl) ?_
    refine va_get (D := (dC, dI)) (ci := 1) (v := .long (L_p0 1)) (C := R_En) (T := T_En) (N := 4) hx hb hg in_En hown hK hP 0 rfl rfl 1 (by decide) (hg _ t_266) (fun _ h9 => h9) rfl d_En_isNumbers_8 ?_
    refine lv_iload_n hx hb d_En_isNumbers_11 rfl (lv_at hl 1 rfl) ?_
    refine lv_i2l hx hb d_En_isNumbers_12 rfl ?_
    refine W.lcmp hx hb d_En_isNumbers_13 ?_
    refine lv_if_ne hx hb d_En_isNumbers_14 rfl (fun hc => ?_) (fun hc => ?_)
    · have hw := hw.2 (fun h9 => hc ((lg_cmp_eq _ _).mpr h9))
      exact b37 _ _ _ hP hD hS (lv_sub hl [] rfl) hw
    · have hw := hw.1 ((lg_cmp_eq _ _).mp hc)
      refine lv_aload_n hx hb d_En_isNumbers_17 rfl (lv_at hl 0 rfl) ?_
      refine va_get (D := (dC, dI)) (ci := 1) (v := .int (I_p0 0)) (C := R_En) (T := T_En) (N := 4) hx hb hg in_En hown hK hP 0 rfl rfl 0 (by decide) (hg _ t_265) (fun _ h9 => h9) rfl d_En_isNumbers_18 ?_
      refine lv_iconst (v := 3) hx hb d_En_isNumbers_21 (by decide) ?_
      refine lv_icmp_eq hx hb d_En_isNumbers_22 rfl (fun hc => ?_) (fun hc => ?_)
      · have hw := hw.1 hc
        exact b33 _ _ _ hP hD hS (lv_sub hl [] rfl) hw
      · have hw := hw.2 hc
        refine lv_aload_n hx hb d_En_isNumbers_25 rfl (lv_at hl 0 rfl) ?_
        refine va_get (D := (dC, dI)) (ci := 1) (v := .int (I_p0 0)) (C := R_En) (T := T_En) (N := 4) hx hb hg in_En hown hK hP 0 rfl rfl 0 (by decide) (hg _ t_265) (fun _ h9 => h9) rfl d_En_isNumbers_26 ?_
        refine lv_iconst (v := 4) hx hb d_En_isNumbers_29 (by decide) ?_
        refine lv_icmp_ne hx hb d_En_isNumbers_30 rfl (fun hc => ?_) (fun hc => ?_)
        · have hw := hw.2 hc
          exact b37 _ _ _ hP hD hS (lv_sub hl [] rfl) hw
        · have hw := hw.1 hc
          exact b33 _ _ _ hP hD hS (lv_sub hl [] rfl) hw
theorem d_X_findStripNumbers_0 : decode b_X_findStripNumbers 0 = .ok (.aload_n 1, 1) := by decide +kernel
theorem d_X_findStripNumbers_1 : decode b_X_findStripNumbers 1 = .ok (.aload_n 0, 1) := by decide +kernel
theorem d_X_findStripNumbers_2 : decode b_X_findStripNumbers 2 = .ok (.getfield 10, 3) := by decide +kernel
theorem d_X_findStripNumbers_5 : decode b_X_findStripNumbers 5 = .ok (.iload_n 2, 1) := by decide +kernel
theorem d_X_findStripNumbers_6 : decode b_X_findStripNumbers 6 = .ok (.iload_n 3, 1) := by decide +kernel
theorem d_X_findStripNumbers_7 : decode b_X_findStripNumbers 7 = .ok (.invokevirtual 320, 3) := by decide +kernel
theorem d_X_findStripNumbers_10 : decode b_X_findStripNumbers 10 = .ok (.ifCond .eq 21, 3) := by decide +kernel
theorem d_X_findStripNumbers_13 : decode b_X_findStripNumbers 13 = .ok (.aload_n 1, 1) := by decide +kernel
theorem d_X_findStripNumbers_14 : decode b_X_findStripNumbers 14 = .ok (.aload_n 0, 1) := by decide +kernel
theorem d_X_findStripNumbers_15 : decode b_X_findStripNumbers 15 = .ok (.getfield 40, 3) := by decide +kernel
theorem d_X_findStripNumbers_18 : decode b_X_findStripNumbers 18 = .ok (.invokevirtual 197, 3) := by decide +kernel
theorem d_X_findStripNumbers_21 : decode b_X_findStripNumbers 21 = .ok (.invokevirtual 347, 3) := by decide +kernel
theorem d_X_findStripNumbers_24 : decode b_X_findStripNumbers 24 = .ok (.ifCond .eq 7, 3) := by decide +kernel
theorem d_X_findStripNumbers_27 : decode b_X_findStripNumbers 27 = .ok (.iconst 1, 1) := by decide +kernel
theorem d_X_findStripNumbers_28 : decode b_X_findStripNumbers 28 = .ok (.goto 4, 3) := by decide +kernel
theorem d_X_findStripNumbers_31 : decode b_X_findStripNumbers 31 = .ok (.iconst 0, 1) := by decide +kernel
theorem d_X_findStripNumbers_32 : decode b_X_findStripNumbers 32 = .ok (.ireturn, 1) := by decide +kernel
def wp_X_findStripNumbers_b31 (post : Int32 → (Nat → Int32) → (Nat → Int64) → Prop) (I_p0_file : Nat → Int32) (f_p0_file_bytes : Nat → Int32) (I_p0_layout : Nat → Int32) (I_p1 : Nat → Int32) (L_p1 : Nat → Int64) : Prop :=
  post 0 I_p1 L_p1
def wp_X_findStripNumbers (post : Int32 → (Nat → Int32) → (Nat → Int64) → Prop) (I_p0_file : Nat → Int32) (f_p0_file_bytes : Nat → Int32) (I_p0_layout : Nat → Int32) (I_p1 : Nat → Int32) (L_p1 : Nat → Int64) (x2 : Int32) (x3 : Int32) : Prop :=
  wp_En_find (fun (r7 : Int32) (I_p1_7 : Nat → Int32) (L_p1_7 : Nat → Int64) =>
    ((r7 = 0 →
      wp_X_findStripNumbers_b31 post I_p0_file f_p0_file_bytes I_p0_layout I_p1_7 L_p1_7) ∧
     (¬ r7 = 0 →
      wp_Ly_strips (fun (r18 : Int32) =>
        wp_En_isNumbers (fun (r21 : Int32) =>
          ((r21 = 0 →
            wp_X_findStripNumbers_b31 post I_p0_file f_p0_file_bytes I_p0_layout I_p1_7 L_p1_7) ∧
           (¬ r21 = 0 →
            post 1 I_p1_7 L_p1_7))) I_p1_7 L_p1_7 r18) I_p0_layout))) I_p0_file f_p0_file_bytes I_p1 L_p1 x2 x3
set_option maxRecDepth 100000 in
set_option maxHeartbeats 4000000 in
theorem c_X_findStripNumbers (l : Launch) (dC : Nat → ClassId) (dI : Nat → Nat → Nat) (cI : ClassId) (a_p0 : Nat) (a_p1 : Nat) (A_p0 : Nat → Nat) (A_p0_file : Nat → Nat) (I_p0_file : Nat → Int32) (f_p0_file_bytes : Nat → Int32) (I_p0_layout : Nat → Int32) (I_p1 : Nat → Int32) (L_p1 : Nat → Int64) (x2 : Int32) (x3 : Int32) {post : Int32 → (Nat → Int32) → (Nat → Int64) → Prop} (hw : wp_X_findStripNumbers post I_p0_file f_p0_file_bytes I_p0_layout I_p1 L_p1 x2 x3) : gm_i l y_X_findStripNumbers ws_X_findStripNumbers ({ frames := 4, cells := 0, slots := 0, locals := 94 } : Room) (dC, dI) vwCl [(cI, .int)] [.ref a_p0, .ref a_p1, .int x2, .int x3] [oX a_p0 A_p0, oSt (A_p0 0) A_p0_file I_p0_file, gz cI (A_p0_file 0) 900 f_p0_file_bytes, oLy (A_p0 4) I_p0_layout, oEn a_p1 I_p1 L_p1] (fun (u : (Nat → Int32) × (Nat → Int64)) => [oX a_p0 A_p0, oSt (A_p0 0) A_p0_file I_p0_file, gz cI (A_p0_file 0) 900 f_p0_file_bytes, oLy (A_p0 4) I_p0_layout, oEn a_p1 u.1 u.2]) (fun (r : Int32) (u : (Nat → Int32) × (Nat → Int64)) => post r u.1 u.2) := by
  refine gm_iof (cc := b_X_findStripNumbers) (maxL := 4) (ty := .boolean) (by decide) rfl (Nat.le_of_ble_eq_true rfl) ?_
  intro p e s m args below meth c A Q hx hb hml hown hg hK hN hA hret
  have hown : s.vm.findClass R_X = some m.cls := hown
  have b31 : ∀ (H : Heap) (locs : List Loc) (ls : Array Slot) (I_p1 : Nat → Int32) (L_p1 : Nat → Int64), va_P (dC, dI) vwCl [oX a_p0 A_p0, oSt (A_p0 0) A_p0_file I_p0_file, gz cI (A_p0_file 0) 900 f_p0_file_bytes, oLy (A_p0 4) I_p0_layout, oEn a_p1 I_p1 L_p1] H → va_D A [oX a_p0 A_p0, oSt (A_p0 0) A_p0_file I_p0_file, gz cI (A_p0_file 0) 900 f_p0_file_bytes, oLy (A_p0 4) I_p0_layout, oEn a_p1 I_p1 L_p1] → va_S A s.heap H locs → lv_has ls 4 [] → wp_X_findStripNumbers_b31 post I_p0_file f_p0_file_bytes I_p0_layout I_p1 L_p1 → W p l e ({ frames := 4, cells := 0, slots := 0, locals := 94 } : Room) s m args below meth c H locs 0 0 Q (F0 m 31 ls []) := by
    intro H locs ls I_p1 L_p1 hP hD hS hl hw
    unfold wp_X_findStripNumbers_b31 at hw
    refine lv_iconst (v := 0) hx hb d_X_findStripNumbers_31 (by decide) ?_
    exact hret _ _ _ _ _ (I_p1, L_p1) d_X_findStripNumbers_32 rfl hP hD hS hw
  intro ls hl hP hD hS
  have hl : lv_has ls 4 [(0, .ref a_p0), (1, .ref a_p1), (2, .int x2), (3, .int x3)] := hl
  unfold wp_X_findStripNumbers at hw
  refine lv_aload_n hx hb d_X_findStripNumbers_0 rfl (lv_at hl 1 rfl) ?_
  refine lv_aload_n hx hb d_X_findStripNumbers_1 rfl (lv_at hl 0 rfl) ?_
  refine va_get (D := (dC, dI)) (ci := 9) (v := .ref (A_p0 0)) (C := R_X) (T := T_X) (N := 14) hx hb hg in_X hown hK hP 0 rfl rfl 0 (by decide) (hg _ t_307) (fun _ h9 => h9) rfl d_X_findStripNumbers_2 ?_
  refine lv_iload_n hx hb d_X_findStripNumbers_5 rfl (lv_at hl 2 rfl) ?_
  refine lv_iload_n hx hb d_X_findStripNumbers_6 rfl (lv_at hl 3 rfl) ?_
  refine gc_i (wn := fun u => [oX a_p0 A_p0, oSt (A_p0 0) A_p0_file I_p0_file, gz cI (A_p0_file 0) 900 f_p0_file_bytes, oLy (A_p0 4) I_p0_layout, oEn a_p1 u.1 u.2]) (wr := [oX a_p0 A_p0, oLy (A_p0 4) I_p0_layout]) (gr_V (As := [.ref (A_p0 0), .int x2, .int x3]) (rest := []) ⟨hx, hb, hml, hown, hg⟩ (c_En_find l dC dI cI a_p1 (A_p0 0) A_p0_file I_p0_file f_p0_file_bytes I_p1 L_p1 x2 x3 hw _) (cwV 3 hg (gg_V t_662 t_663 t_664 t_69 t_665) rfl rfl rfl (by decide +kernel) ⟨Nat.le_of_ble_eq_true rfl, Nat.le_of_ble_eq_true rfl⟩) hK hN hP hD [4, 1, 2] (by decide) rfl 4 1 rfl rfl rfl rfl hl.1 rfl (Nat.le_of_ble_eq_true rfl) d_X_findStripNumbers_7 ⟨Nat.le_of_ble_eq_true rfl, Nat.le_of_ble_eq_true rfl⟩) rfl rfl hP hD hS hA [4, 1, 2] [0, 3] [0, 3, 4, 1, 2] rfl rfl (by decide) (by decide) (by decide) (fun _ => rfl) ?_
  intro r7 u9 H locs hw hP hD hS
  obtain ⟨I_p1_7, L_p1_7⟩ := u9
  try dsimp only at hw
  have hP : va_P (dC, dI) vwCl [oX a_p0 A_p0, oSt (A_p0 0) A_p0_file I_p0_file, gz cI (A_p0_file 0) 900 f_p0_file_bytes, oLy (A_p0 4) I_p0_layout, oEn a_p1 I_p1_7 L_p1_7] H := hP
  have hD : va_D A [oX a_p0 A_p0, oSt (A_p0 0) A_p0_file I_p0_file, gz cI (A_p0_file 0) 900 f_p0_file_bytes, oLy (A_p0 4) I_p0_layout, oEn a_p1 I_p1_7 L_p1_7] := hD
  refine lv_if_eq hx hb d_X_findStripNumbers_10 rfl (fun hc => ?_) (fun hc => ?_)
  · have hw := hw.1 hc
    exact b31 _ _ _ I_p1_7 L_p1_7 hP hD hS (lv_sub hl [] rfl) hw
  · have hw := hw.2 hc
    refine lv_aload_n hx hb d_X_findStripNumbers_13 rfl (lv_at hl 1 rfl) ?_
    refine lv_aload_n hx hb d_X_findStripNumbers_14 rfl (lv_at hl 0 rfl) ?_
    refine va_get (D := (dC, dI)) (ci := 9) (v := .ref (A_p0 4)) (C := R_X) (T := T_X) (N := 14) hx hb hg in_X hown hK hP 0 rfl rfl 4 (by decide) (hg _ t_311) (fun _ h9 => h9) rfl d_X_findStripNumbers_15 ?_
    refine gc_i (wn := fun (_ : Unit) => [oX a_p0 A_p0, oSt (A_p0 0) A_p0_file I_p0_file, gz cI (A_p0_file 0) 900 f_p0_file_bytes, oLy (A_p0 4) I_p0_layout, oEn a_p1 I_p1_7 L_p1_7]) (wr := [oX a_p0 A_p0, oSt (A_p0 0) A_p0_file I_p0_file, gz cI (A_p0_file 0) 900 f_p0_file_bytes, oEn a_p1 I_p1_7 L_p1_7]) (gr_V (As := []) (rest := [.ref a_p1]) ⟨hx, hb, hml, hown, hg⟩ (c_Ly_strips l dC dI cI (A_p0 4) I_p0_layout hw _) (cwV 0 hg (gg_V t_511 t_512 t_513 t_65 t_514) rfl rfl rfl (by decide +kernel) ⟨Nat.le_of_ble_eq_true rfl, Nat.le_of_ble_eq_true rfl⟩) hK hN hP hD [3] (by decide) rfl 3 3 rfl rfl rfl rfl hl.1 rfl (Nat.le_of_ble_eq_true rfl) d_X_findStripNumbers_18 ⟨Nat.le_of_ble_eq_true rfl, Nat.le_of_ble_eq_true rfl⟩) rfl rfl hP hD hS hA [3] [0, 1, 2, 4] [0, 1, 2, 4, 3] rfl rfl (by decide) (by decide) (by decide) (fun _ => rfl) ?_
    intro r18 _ H locs hw hP hD hS
    try dsimp only at hw
    have hP : va_P (dC, dI) vwCl [oX a_p0 A_p0, oSt (A_p0 0) A_p0_file I_p0_file, gz cI (A_p0_file 0) 900 f_p0_file_bytes, oLy (A_p0 4) I_p0_layout, oEn a_p1 I_p1_7 L_p1_7] H := hP
    have hD : va_D A [oX a_p0 A_p0, oSt (A_p0 0) A_p0_file I_p0_file, gz cI (A_p0_file 0) 900 f_p0_file_bytes, oLy (A_p0 4) I_p0_layout, oEn a_p1 I_p1_7 L_p1_7] := hD
    refine gc_i (wn := fun (_ : Unit) => [oX a_p0 A_p0, oSt (A_p0 0) A_p0_file I_p0_file, gz cI (A_p0_file 0) 900 f_p0_file_bytes, oLy (A_p0 4) I_p0_layout, oEn a_p1 I_p1_7 L_p1_7]) (wr := [oX a_p0 A_p0, oSt (A_p0 0) A_p0_file I_p0_file, gz cI (A_p0_file 0) 900 f_p0_file_bytes, oLy (A_p0 4) I_p0_layout]) (gr_V (As := [.int r18]) (rest := []) ⟨hx, hb, hml, hown, hg⟩ (c_En_isNumbers l dC dI cI a_p1 I_p1_7 L_p1_7 r18 hw _) (cwV 1 hg (gg_V t_678 t_679 t_680 t_69 t_681) rfl rfl rfl (by decide +kernel) ⟨Nat.le_of_ble_eq_true rfl, Nat.le_of_ble_eq_true rfl⟩) hK hN hP hD [4] (by decide) rfl 4 1 rfl rfl rfl rfl hl.1 rfl (Nat.le_of_ble_eq_true rfl) d_X_findStripNumbers_21 ⟨Nat.le_of_ble_eq_true rfl, Nat.le_of_ble_eq_true rfl⟩) rfl rfl hP hD hS hA [4] [0, 1, 2, 3] [0, 1, 2, 3, 4] rfl rfl (by decide) (by decide) (by decide) (fun _ => rfl) ?_
    intro r21 _ H locs hw hP hD hS
    try dsimp only at hw
    have hP : va_P (dC, dI) vwCl [oX a_p0 A_p0, oSt (A_p0 0) A_p0_file I_p0_file, gz cI (A_p0_file 0) 900 f_p0_file_bytes, oLy (A_p0 4) I_p0_layout, oEn a_p1 I_p1_7 L_p1_7] H := hP
    have hD : va_D A [oX a_p0 A_p0, oSt (A_p0 0) A_p0_file I_p0_file, gz cI (A_p0_file 0) 900 f_p0_file_bytes, oLy (A_p0 4) I_p0_layout, oEn a_p1 I_p1_7 L_p1_7] := hD
    refine lv_if_eq hx hb d_X_findStripNumbers_24 rfl (fun hc => ?_) (fun hc => ?_)
    · have hw := hw.1 hc
      exact b31 _ _ _ I_p1_7 L_p1_7 hP hD hS (lv_sub hl [] rfl) hw
    · have hw := hw.2 hc
      refine lv_iconst (v := 1) hx hb d_X_findStripNumbers_27 (by decide) ?_
      refine lv_goto hx hb d_X_findStripNumbers_28 rfl ?_
      exact hret _ _ _ _ _ (I_p1_7, L_p1_7) d_X_findStripNumbers_32 rfl hP hD hS hw
theorem d_X_isCompression_0 : decode b_X_isCompression 0 = .ok (.lload_n 0, 1) := by decide +kernel
theorem d_X_isCompression_1 : decode b_X_isCompression 1 = .ok (.lconst 1, 1) := by decide +kernel
theorem d_X_isCompression_2 : decode b_X_isCompression 2 = .ok (.lcmp, 1) := by decide +kernel
theorem d_X_isCompression_3 : decode b_X_isCompression 3 = .ok (.ifCond .eq 19, 3) := by decide +kernel
theorem d_X_isCompression_6 : decode b_X_isCompression 6 = .ok (.lload_n 0, 1) := by decide +kernel
theorem d_X_isCompression_7 : decode b_X_isCompression 7 = .ok (.ldc2_w 230, 3) := by decide +kernel
theorem d_X_isCompression_10 : decode b_X_isCompression 10 = .ok (.lcmp, 1) := by decide +kernel
theorem d_X_isCompression_11 : decode b_X_isCompression 11 = .ok (.ifCond .eq 11, 3) := by decide +kernel
theorem d_X_isCompression_14 : decode b_X_isCompression 14 = .ok (.lload_n 0, 1) := by decide +kernel
theorem d_X_isCompression_15 : decode b_X_isCompression 15 = .ok (.ldc2_w 232, 3) := by decide +kernel
theorem d_X_isCompression_18 : decode b_X_isCompression 18 = .ok (.lcmp, 1) := by decide +kernel
theorem d_X_isCompression_19 : decode b_X_isCompression 19 = .ok (.ifCond .ne 7, 3) := by decide +kernel
theorem d_X_isCompression_22 : decode b_X_isCompression 22 = .ok (.iconst 1, 1) := by decide +kernel
theorem d_X_isCompression_23 : decode b_X_isCompression 23 = .ok (.goto 4, 3) := by decide +kernel
theorem d_X_isCompression_26 : decode b_X_isCompression 26 = .ok (.iconst 0, 1) := by decide +kernel
theorem d_X_isCompression_27 : decode b_X_isCompression 27 = .ok (.ireturn, 1) := by decide +kernel
def wp_X_isCompression_b22 (post : Int32 → Prop) : Prop :=
  post 1
def wp_X_isCompression (post : Int32 → Prop) (x0 : Int64) : Prop :=
  ((x0 = 1 →
    wp_X_isCompression_b22 post) ∧
   (¬ x0 = 1 →
    ((x0 = 5 →
      wp_X_isCompression_b22 post) ∧
     (¬ x0 = 5 →
      ((x0 = 32773 →
        wp_X_isCompression_b22 post) ∧
       (¬ x0 = 32773 →
        post 0))))))
set_option maxRecDepth 100000 in
set_option maxHeartbeats 4000000 in
theorem c_X_isCompression (l : Launch) (dC : Nat → ClassId) (dI : Nat → Nat → Nat) (cI : ClassId) (x0 : Int64) {post : Int32 → Prop} (hw : wp_X_isCompression post x0) : gm_i l y_X_isCompression ws_X_isCompression ({ frames := 0, cells := 0, slots := 0, locals := 0 } : Room) (dC, dI) vwCl [(cI, .int)] [.long x0] [] (fun (_ : Unit) => []) (fun (r : Int32) (_ : Unit) => post r) := by
  refine gm_iof (cc := b_X_isCompression) (maxL := 2) (ty := .boolean) (by decide) rfl (Nat.le_of_ble_eq_true rfl) ?_
  intro p e s m args below meth c A Q hx hb hml hown hg hK hN hA hret
  have hown : s.vm.findClass R_X = some m.cls := hown
  have b22 : ∀ (H : Heap) (locs : List Loc) (ls : Array Slot), va_P (dC, dI) vwCl [] H → va_D A [] → va_S A s.heap H locs → lv_has ls 2 [] → wp_X_isCompression_b22 post → W p l e ({ frames := 0, cells := 0, slots := 0, locals := 0 } : Room) s m args below meth c H locs 0 0 Q (F0 m 22 ls []) := by
    intro H locs ls hP hD hS hl hw
    unfold wp_X_isCompression_b22 at hw
    refine lv_iconst (v := 1) hx hb d_X_isCompression_22 (by decide) ?_
    refine lv_goto hx hb d_X_isCompression_23 rfl ?_
    exact hret _ _ _ _ _ () d_X_isCompression_27 rfl hP hD hS hw
  intro ls hl hP hD hS
  have hl : lv_has ls 2 [(0, .long x0)] := hl
  unfold wp_X_isCompression at hw
  refine lv_lload_n hx hb d_X_isCompression_0 rfl (lv_at hl 0 rfl) ?_
  refine lv_lconst (v := 1) hx hb d_X_isCompression_1 (by decide) ?_
  refine W.lcmp hx hb d_X_isCompression_2 ?_
  refine lv_if_eq hx hb d_X_isCompression_3 rfl (fun hc => ?_) (fun hc => ?_)
  · have hw := hw.1 ((lg_cmp_eq _ _).mp hc)
    exact b22 _ _ _ hP hD hS (lv_sub hl [] rfl) hw
  · have hw := hw.2 (fun h9 => hc ((lg_cmp_eq _ _).mpr h9))
    refine lv_lload_n hx hb d_X_isCompression_6 rfl (lv_at hl 0 rfl) ?_
    refine lv_ldc2 (v := 5) hx hb hown (hg _ t_444) d_X_isCompression_7 ?_
    refine W.lcmp hx hb d_X_isCompression_10 ?_
    refine lv_if_eq hx hb d_X_isCompression_11 rfl (fun hc => ?_) (fun hc => ?_)
    · have hw := hw.1 ((lg_cmp_eq _ _).mp hc)
      exact b22 _ _ _ hP hD hS (lv_sub hl [] rfl) hw
    · have hw := hw.2 (fun h9 => hc ((lg_cmp_eq _ _).mpr h9))
      refine lv_lload_n hx hb d_X_isCompression_14 rfl (lv_at hl 0 rfl) ?_
      refine lv_ldc2 (v := 32773) hx hb hown (hg _ t_445) d_X_isCompression_15 ?_
      refine W.lcmp hx hb d_X_isCompression_18 ?_
      refine lv_if_ne hx hb d_X_isCompression_19 rfl (fun hc => ?_) (fun hc => ?_)
      · have hw := hw.2 (fun h9 => hc ((lg_cmp_eq _ _).mpr h9))
        refine lv_iconst (v := 0) hx hb d_X_isCompression_26 (by decide) ?_
        exact hret _ _ _ _ _ () d_X_isCompression_27 rfl hP hD hS hw
      · have hw := hw.1 ((lg_cmp_eq _ _).mp hc)
        exact b22 _ _ _ hP hD hS (lv_sub hl [] rfl) hw
theorem d_X_isPredictor_0 : decode b_X_isPredictor 0 = .ok (.lload_n 0, 1) := by decide +kernel
theorem d_X_isPredictor_1 : decode b_X_isPredictor 1 = .ok (.lconst 1, 1) := by decide +kernel
theorem d_X_isPredictor_2 : decode b_X_isPredictor 2 = .ok (.lcmp, 1) := by decide +kernel
theorem d_X_isPredictor_3 : decode b_X_isPredictor 3 = .ok (.ifCond .eq 11, 3) := by decide +kernel
theorem d_X_isPredictor_6 : decode b_X_isPredictor 6 = .ok (.lload_n 0, 1) := by decide +kernel
theorem d_X_isPredictor_7 : decode b_X_isPredictor 7 = .ok (.ldc2_w 224, 3) := by decide +kernel
theorem d_X_isPredictor_10 : decode b_X_isPredictor 10 = .ok (.lcmp, 1) := by decide +kernel
theorem d_X_isPredictor_11 : decode b_X_isPredictor 11 = .ok (.ifCond .ne 7, 3) := by decide +kernel
theorem d_X_isPredictor_14 : decode b_X_isPredictor 14 = .ok (.iconst 1, 1) := by decide +kernel
theorem d_X_isPredictor_15 : decode b_X_isPredictor 15 = .ok (.goto 4, 3) := by decide +kernel
theorem d_X_isPredictor_18 : decode b_X_isPredictor 18 = .ok (.iconst 0, 1) := by decide +kernel
theorem d_X_isPredictor_19 : decode b_X_isPredictor 19 = .ok (.ireturn, 1) := by decide +kernel
def wp_X_isPredictor_b14 (post : Int32 → Prop) : Prop :=
  post 1
def wp_X_isPredictor (post : Int32 → Prop) (x0 : Int64) : Prop :=
  ((x0 = 1 →
    wp_X_isPredictor_b14 post) ∧
   (¬ x0 = 1 →
    ((x0 = 2 →
      wp_X_isPredictor_b14 post) ∧
     (¬ x0 = 2 →
      post 0))))
set_option maxRecDepth 100000 in
set_option maxHeartbeats 4000000 in
theorem c_X_isPredictor (l : Launch) (dC : Nat → ClassId) (dI : Nat → Nat → Nat) (cI : ClassId) (x0 : Int64) {post : Int32 → Prop} (hw : wp_X_isPredictor post x0) : gm_i l y_X_isPredictor ws_X_isPredictor ({ frames := 0, cells := 0, slots := 0, locals := 0 } : Room) (dC, dI) vwCl [(cI, .int)] [.long x0] [] (fun (_ : Unit) => []) (fun (r : Int32) (_ : Unit) => post r) := by
  refine gm_iof (cc := b_X_isPredictor) (maxL := 2) (ty := .boolean) (by decide) rfl (Nat.le_of_ble_eq_true rfl) ?_
  intro p e s m args below meth c A Q hx hb hml hown hg hK hN hA hret
  have hown : s.vm.findClass R_X = some m.cls := hown
  have b14 : ∀ (H : Heap) (locs : List Loc) (ls : Array Slot), va_P (dC, dI) vwCl [] H → va_D A [] → va_S A s.heap H locs → lv_has ls 2 [] → wp_X_isPredictor_b14 post → W p l e ({ frames := 0, cells := 0, slots := 0, locals := 0 } : Room) s m args below meth c H locs 0 0 Q (F0 m 14 ls []) := by
    intro H locs ls hP hD hS hl hw
    unfold wp_X_isPredictor_b14 at hw
    refine lv_iconst (v := 1) hx hb d_X_isPredictor_14 (by decide) ?_
    refine lv_goto hx hb d_X_isPredictor_15 rfl ?_
    exact hret _ _ _ _ _ () d_X_isPredictor_19 rfl hP hD hS hw
  intro ls hl hP hD hS
  have hl : lv_has ls 2 [(0, .long x0)] := hl
  unfold wp_X_isPredictor at hw
  refine lv_lload_n hx hb d_X_isPredictor_0 rfl (lv_at hl 0 rfl) ?_
  refine lv_lconst (v := 1) hx hb d_X_isPredictor_1 (by decide) ?_
  refine W.lcmp hx hb d_X_isPredictor_2 ?_
  refine lv_if_eq hx hb d_X_isPredictor_3 rfl (fun hc => ?_) (fun hc => ?_)
  · have hw := hw.1 ((lg_cmp_eq _ _).mp hc)
    exact b14 _ _ _ hP hD hS (lv_sub hl [] rfl) hw
  · have hw := hw.2 (fun h9 => hc ((lg_cmp_eq _ _).mpr h9))
    refine lv_lload_n hx hb d_X_isPredictor_6 rfl (lv_at hl 0 rfl) ?_
    refine lv_ldc2 (v := 2) hx hb hown (hg _ t_381) d_X_isPredictor_7 ?_
    refine W.lcmp hx hb d_X_isPredictor_10 ?_
    refine lv_if_ne hx hb d_X_isPredictor_11 rfl (fun hc => ?_) (fun hc => ?_)
    · have hw := hw.2 (fun h9 => hc ((lg_cmp_eq _ _).mpr h9))
      refine lv_iconst (v := 0) hx hb d_X_isPredictor_18 (by decide) ?_
      exact hret _ _ _ _ _ () d_X_isPredictor_19 rfl hP hD hS hw
    · have hw := hw.1 ((lg_cmp_eq _ _).mp hc)
      exact b14 _ _ _ hP hD hS (lv_sub hl [] rfl) hw
theorem d_Lb_indexOf_0 : decode b_Lb_indexOf 0 = .ok (.iconst 0, 1) := by decide +kernel
theorem d_Lb_indexOf_1 : decode b_Lb_indexOf 1 = .ok (.istore_n 2, 1) := by decide +kernel
theorem d_Lb_indexOf_2 : decode b_Lb_indexOf 2 = .ok (.iload_n 2, 1) := by decide +kernel
theorem d_Lb_indexOf_3 : decode b_Lb_indexOf 3 = .ok (.aload_n 0, 1) := by decide +kernel
theorem d_Lb_indexOf_4 : decode b_Lb_indexOf 4 = .ok (.getfield 25, 3) := by decide +kernel
theorem d_Lb_indexOf_7 : decode b_Lb_indexOf 7 = .ok (.if_icmp .ge 21, 3) := by decide +kernel
theorem d_Lb_indexOf_10 : decode b_Lb_indexOf 10 = .ok (.aload_n 0, 1) := by decide +kernel
theorem d_Lb_indexOf_11 : decode b_Lb_indexOf 11 = .ok (.getfield 9, 3) := by decide +kernel
theorem d_Lb_indexOf_14 : decode b_Lb_indexOf 14 = .ok (.iload_n 2, 1) := by decide +kernel
theorem d_Lb_indexOf_15 : decode b_Lb_indexOf 15 = .ok (.iaload, 1) := by decide +kernel
theorem d_Lb_indexOf_16 : decode b_Lb_indexOf 16 = .ok (.iload_n 1, 1) := by decide +kernel
theorem d_Lb_indexOf_17 : decode b_Lb_indexOf 17 = .ok (.if_icmp .ne 5, 3) := by decide +kernel
theorem d_Lb_indexOf_20 : decode b_Lb_indexOf 20 = .ok (.iload_n 2, 1) := by decide +kernel
theorem d_Lb_indexOf_21 : decode b_Lb_indexOf 21 = .ok (.ireturn, 1) := by decide +kernel
theorem d_Lb_indexOf_22 : decode b_Lb_indexOf 22 = .ok (.iinc 2 1, 3) := by decide +kernel
theorem d_Lb_indexOf_25 : decode b_Lb_indexOf 25 = .ok (.goto (-23), 3) := by decide +kernel
theorem d_Lb_indexOf_28 : decode b_Lb_indexOf 28 = .ok (.aload_n 0, 1) := by decide +kernel
theorem d_Lb_indexOf_29 : decode b_Lb_indexOf 29 = .ok (.getfield 25, 3) := by decide +kernel
theorem d_Lb_indexOf_32 : decode b_Lb_indexOf 32 = .ok (.ireturn, 1) := by decide +kernel
def wp_Lb_indexOf_l2 (post : Int32 → Prop) (I_p0 : Nat → Int32) (f_p0_tags : Nat → Int32) : Nat → Int32 → Int32 → Prop
  | 0, _, _ => False
  | n + 1, x1, x2 =>
    (((I_p0 3) ≤ x2 →
      post (I_p0 3)) ∧
     (¬ (I_p0 3) ≤ x2 →
      vp_in x2 2 ∧
      (((f_p0_tags (x2).toNatClampNeg) = x1 →
        post x2) ∧
       (¬ (f_p0_tags (x2).toNatClampNeg) = x1 →
        wp_Lb_indexOf_l2 post I_p0 f_p0_tags n x1 (x2 + 1)))))
def wp_Lb_indexOf (post : Int32 → Prop) (I_p0 : Nat → Int32) (f_p0_tags : Nat → Int32) (x1 : Int32) : Prop :=
  (∃ n1 : Nat, wp_Lb_indexOf_l2 post I_p0 f_p0_tags n1 x1 0)
set_option maxRecDepth 100000 in
set_option maxHeartbeats 4000000 in
theorem c_Lb_indexOf (l : Launch) (dC : Nat → ClassId) (dI : Nat → Nat → Nat) (cI : ClassId) (a_p0 : Nat) (A_p0 : Nat → Nat) (I_p0 : Nat → Int32) (f_p0_tags : Nat → Int32) (x1 : Int32) {post : Int32 → Prop} (hw : wp_Lb_indexOf post I_p0 f_p0_tags x1) : gm_i l y_Lb_indexOf ws_Lb_indexOf ({ frames := 0, cells := 0, slots := 0, locals := 0 } : Room) (dC, dI) vwCl [(cI, .int)] [.ref a_p0, .int x1] [oLb a_p0 A_p0 I_p0, gz cI (A_p0 0) 2 f_p0_tags] (fun (_ : Unit) => [oLb a_p0 A_p0 I_p0, gz cI (A_p0 0) 2 f_p0_tags]) (fun (r : Int32) (_ : Unit) => post r) := by
  refine gm_iof (cc := b_Lb_indexOf) (maxL := 3) (ty := .int) (by decide) rfl (Nat.le_of_ble_eq_true rfl) ?_
  intro p e s m args below meth c A Q hx hb hml hown hg hK hN hA hret
  have hown : s.vm.findClass R_Lb = some m.cls := hown
  have l2 : ∀ n : Nat, ∀ (H : Heap) (locs : List Loc) (ls : Array Slot) (x1 : Int32) (x2 : Int32), va_P (dC, dI) vwCl [oLb a_p0 A_p0 I_p0, gz cI (A_p0 0) 2 f_p0_tags] H → va_D A [oLb a_p0 A_p0 I_p0, gz cI (A_p0 0) 2 f_p0_tags] → va_S A s.heap H locs → lv_has ls 3 [(0, .ref a_p0), (1, .int x1), (2, .int x2)] → wp_Lb_indexOf_l2 post I_p0 f_p0_tags n x1 x2 → W p l e ({ frames := 0, cells := 0, slots := 0, locals := 0 } : Room) s m args below meth c H locs 0 0 Q (F0 m 2 ls []) := by
    intro n
    induction n with
    | zero => intro H locs ls x1 x2 hP hD hS hl hw; exact hw.elim
    | succ n ih =>
      intro H locs ls x1 x2 hP hD hS hl hw
      unfold wp_Lb_indexOf_l2 at hw
      refine lv_iload_n hx hb d_Lb_indexOf_2 rfl (lv_at hl 2 rfl) ?_
      refine lv_aload_n hx hb d_Lb_indexOf_3 rfl (lv_at hl 0 rfl) ?_
      refine va_get (D := (dC, dI)) (ci := 2) (v := .int (I_p0 3)) (C := R_Lb) (T := T_Lb) (N := 4) hx hb hg in_Lb hown hK hP 0 rfl rfl 3 (by decide) (hg _ t_161) (fun _ h9 => h9) rfl d_Lb_indexOf_4 ?_
      refine lv_icmp_ge hx hb d_Lb_indexOf_7 rfl (fun hc => ?_) (fun hc => ?_)
      · have hw := hw.1 hc
        refine lv_aload_n hx hb d_Lb_indexOf_28 rfl (lv_at hl 0 rfl) ?_
        refine va_get (D := (dC, dI)) (ci := 2) (v := .int (I_p0 3)) (C := R_Lb) (T := T_Lb) (N := 4) hx hb hg in_Lb hown hK hP 0 rfl rfl 3 (by decide) (hg _ t_161) (fun _ h9 => h9) rfl d_Lb_indexOf_29 ?_
        exact hret _ _ _ _ _ () d_Lb_indexOf_32 rfl hP hD hS hw
      · have hw := hw.2 hc
        refine lv_aload_n hx hb d_Lb_indexOf_10 rfl (lv_at hl 0 rfl) ?_
        refine va_get (D := (dC, dI)) (ci := 2) (v := .ref (A_p0 0)) (C := R_Lb) (T := T_Lb) (N := 4) hx hb hg in_Lb hown hK hP 0 rfl rfl 0 (by decide) (hg _ t_157) (fun _ h9 => h9) rfl d_Lb_indexOf_11 ?_
        refine lv_iload_n hx hb d_Lb_indexOf_14 rfl (lv_at hl 2 rfl) ?_
        obtain ⟨hin, hw⟩ := hw
        refine va_iald hx hb hK hP 1 0 rfl rfl hin d_Lb_indexOf_15 ?_
        refine lv_iload_n hx hb d_Lb_indexOf_16 rfl (lv_at hl 1 rfl) ?_
        refine lv_icmp_ne hx hb d_Lb_indexOf_17 rfl (fun hc => ?_) (fun hc => ?_)
        · have hw := hw.2 hc
          refine lv_iinc (k := 2) (v := (x2 + 1)) (lv' := [(2, .int (x2 + 1)), (0, .ref a_p0), (1, .int x1)]) hx hb d_Lb_indexOf_22 hl rfl (congrArg (fun z => x2 + z) (by decide : Int32.ofInt 1 = 1)) (by decide) rfl (fun ls hl => ?_)
          refine lv_goto hx hb d_Lb_indexOf_25 rfl ?_
          exact ih _ _ _ x1 (x2 + 1) hP hD hS (lv_sub hl [1, 2, 0] rfl) hw
        · have hw := hw.1 hc
          refine lv_iload_n hx hb d_Lb_indexOf_20 rfl (lv_at hl 2 rfl) ?_
          exact hret _ _ _ _ _ () d_Lb_indexOf_21 rfl hP hD hS hw
  intro ls hl hP hD hS
  have hl : lv_has ls 3 [(0, .ref a_p0), (1, .int x1)] := hl
  unfold wp_Lb_indexOf at hw
  refine lv_iconst (v := 0) hx hb d_Lb_indexOf_0 (by decide) ?_
  refine lv_istore_n (lv' := [(2, .int 0), (0, .ref a_p0), (1, .int x1)]) hx hb d_Lb_indexOf_1 rfl hl (by decide) rfl (fun ls hl => ?_)
  obtain ⟨n1, hw⟩ := hw
  exact l2 n1 _ _ _ x1 0 hP hD hS (lv_sub hl [1, 2, 0] rfl) hw
theorem d_Lb_add_0 : decode b_Lb_add 0 = .ok (.aload_n 0, 1) := by decide +kernel
theorem d_Lb_add_1 : decode b_Lb_add 1 = .ok (.iload_n 1, 1) := by decide +kernel
theorem d_Lb_add_2 : decode b_Lb_add 2 = .ok (.invokevirtual 21, 3) := by decide +kernel
theorem d_Lb_add_5 : decode b_Lb_add 5 = .ok (.istore_n 3, 1) := by decide +kernel
theorem d_Lb_add_6 : decode b_Lb_add 6 = .ok (.iload_n 3, 1) := by decide +kernel
theorem d_Lb_add_7 : decode b_Lb_add 7 = .ok (.iconst 2, 1) := by decide +kernel
theorem d_Lb_add_8 : decode b_Lb_add 8 = .ok (.if_icmp .ne 5, 3) := by decide +kernel
theorem d_Lb_add_11 : decode b_Lb_add 11 = .ok (.iconst 0, 1) := by decide +kernel
theorem d_Lb_add_12 : decode b_Lb_add 12 = .ok (.ireturn, 1) := by decide +kernel
theorem d_Lb_add_13 : decode b_Lb_add 13 = .ok (.iload_n 3, 1) := by decide +kernel
theorem d_Lb_add_14 : decode b_Lb_add 14 = .ok (.aload_n 0, 1) := by decide +kernel
theorem d_Lb_add_15 : decode b_Lb_add 15 = .ok (.getfield 25, 3) := by decide +kernel
theorem d_Lb_add_18 : decode b_Lb_add 18 = .ok (.if_icmp .ne 27, 3) := by decide +kernel
theorem d_Lb_add_21 : decode b_Lb_add 21 = .ok (.aload_n 0, 1) := by decide +kernel
theorem d_Lb_add_22 : decode b_Lb_add 22 = .ok (.getfield 9, 3) := by decide +kernel
theorem d_Lb_add_25 : decode b_Lb_add 25 = .ok (.iload_n 3, 1) := by decide +kernel
theorem d_Lb_add_26 : decode b_Lb_add 26 = .ok (.iload_n 1, 1) := by decide +kernel
theorem d_Lb_add_27 : decode b_Lb_add 27 = .ok (.iastore, 1) := by decide +kernel
theorem d_Lb_add_28 : decode b_Lb_add 28 = .ok (.aload_n 0, 1) := by decide +kernel
theorem d_Lb_add_29 : decode b_Lb_add 29 = .ok (.getfield 15, 3) := by decide +kernel
theorem d_Lb_add_32 : decode b_Lb_add 32 = .ok (.iload_n 3, 1) := by decide +kernel
theorem d_Lb_add_33 : decode b_Lb_add 33 = .ok (.iconst 0, 1) := by decide +kernel
theorem d_Lb_add_34 : decode b_Lb_add 34 = .ok (.iastore, 1) := by decide +kernel
theorem d_Lb_add_35 : decode b_Lb_add 35 = .ok (.aload_n 0, 1) := by decide +kernel
theorem d_Lb_add_36 : decode b_Lb_add 36 = .ok (.dup, 1) := by decide +kernel
theorem d_Lb_add_37 : decode b_Lb_add 37 = .ok (.getfield 25, 3) := by decide +kernel
theorem d_Lb_add_40 : decode b_Lb_add 40 = .ok (.iconst 1, 1) := by decide +kernel
theorem d_Lb_add_41 : decode b_Lb_add 41 = .ok (.iadd, 1) := by decide +kernel
theorem d_Lb_add_42 : decode b_Lb_add 42 = .ok (.putfield 25, 3) := by decide +kernel
theorem d_Lb_add_45 : decode b_Lb_add 45 = .ok (.aload_n 0, 1) := by decide +kernel
theorem d_Lb_add_46 : decode b_Lb_add 46 = .ok (.getfield 15, 3) := by decide +kernel
theorem d_Lb_add_49 : decode b_Lb_add 49 = .ok (.iload_n 3, 1) := by decide +kernel
theorem d_Lb_add_50 : decode b_Lb_add 50 = .ok (.iaload, 1) := by decide +kernel
theorem d_Lb_add_51 : decode b_Lb_add 51 = .ok (.bipush 12, 2) := by decide +kernel
theorem d_Lb_add_53 : decode b_Lb_add 53 = .ok (.if_icmp .ne 5, 3) := by decide +kernel
theorem d_Lb_add_56 : decode b_Lb_add 56 = .ok (.iconst 0, 1) := by decide +kernel
theorem d_Lb_add_57 : decode b_Lb_add 57 = .ok (.ireturn, 1) := by decide +kernel
theorem d_Lb_add_58 : decode b_Lb_add 58 = .ok (.aload_n 0, 1) := by decide +kernel
theorem d_Lb_add_59 : decode b_Lb_add 59 = .ok (.getfield 18, 3) := by decide +kernel
theorem d_Lb_add_62 : decode b_Lb_add 62 = .ok (.iload_n 3, 1) := by decide +kernel
theorem d_Lb_add_63 : decode b_Lb_add 63 = .ok (.bipush 12, 2) := by decide +kernel
theorem d_Lb_add_65 : decode b_Lb_add 65 = .ok (.imul, 1) := by decide +kernel
theorem d_Lb_add_66 : decode b_Lb_add 66 = .ok (.aload_n 0, 1) := by decide +kernel
theorem d_Lb_add_67 : decode b_Lb_add 67 = .ok (.getfield 15, 3) := by decide +kernel
theorem d_Lb_add_70 : decode b_Lb_add 70 = .ok (.iload_n 3, 1) := by decide +kernel
theorem d_Lb_add_71 : decode b_Lb_add 71 = .ok (.iaload, 1) := by decide +kernel
theorem d_Lb_add_72 : decode b_Lb_add 72 = .ok (.iadd, 1) := by decide +kernel
theorem d_Lb_add_73 : decode b_Lb_add 73 = .ok (.iload_n 2, 1) := by decide +kernel
theorem d_Lb_add_74 : decode b_Lb_add 74 = .ok (.iastore, 1) := by decide +kernel
theorem d_Lb_add_75 : decode b_Lb_add 75 = .ok (.aload_n 0, 1) := by decide +kernel
theorem d_Lb_add_76 : decode b_Lb_add 76 = .ok (.getfield 15, 3) := by decide +kernel
theorem d_Lb_add_79 : decode b_Lb_add 79 = .ok (.iload_n 3, 1) := by decide +kernel
theorem d_Lb_add_80 : decode b_Lb_add 80 = .ok (.dup2, 1) := by decide +kernel
theorem d_Lb_add_81 : decode b_Lb_add 81 = .ok (.iaload, 1) := by decide +kernel
theorem d_Lb_add_82 : decode b_Lb_add 82 = .ok (.iconst 1, 1) := by decide +kernel
theorem d_Lb_add_83 : decode b_Lb_add 83 = .ok (.iadd, 1) := by decide +kernel
theorem d_Lb_add_84 : decode b_Lb_add 84 = .ok (.iastore, 1) := by decide +kernel
theorem d_Lb_add_85 : decode b_Lb_add 85 = .ok (.iconst 1, 1) := by decide +kernel
theorem d_Lb_add_86 : decode b_Lb_add 86 = .ok (.ireturn, 1) := by decide +kernel
def wp_Lb_add_b45 (post : Int32 → (Nat → Int32) → (Nat → Int32) → (Nat → Int32) → (Nat → Int32) → Prop) (I_p0 : Nat → Int32) (f_p0_characters : Nat → Int32) (f_p0_sizes : Nat → Int32) (f_p0_tags : Nat → Int32) (x2 : Int32) (x3 : Int32) : Prop :=
  vp_in x3 2 ∧
  (((f_p0_sizes (x3).toNatClampNeg) = 12 →
    post 0 I_p0 f_p0_characters f_p0_sizes f_p0_tags) ∧
   (¬ (f_p0_sizes (x3).toNatClampNeg) = 12 →
    vp_in x3 2 ∧
    vp_in ((x3 * 12) + (f_p0_sizes (x3).toNatClampNeg)) 24 ∧
    vp_in x3 2 ∧
    vp_in x3 2 ∧
    post 1 I_p0 (upd f_p0_characters ((x3 * 12) + (f_p0_sizes (x3).toNatClampNeg)).toNatClampNeg x2) (upd f_p0_sizes (x3).toNatClampNeg ((f_p0_sizes (x3).toNatClampNeg) + 1)) f_p0_tags))
def wp_Lb_add (post : Int32 → (Nat → Int32) → (Nat → Int32) → (Nat → Int32) → (Nat → Int32) → Prop) (I_p0 : Nat → Int32) (f_p0_characters : Nat → Int32) (f_p0_sizes : Nat → Int32) (f_p0_tags : Nat → Int32) (x1 : Int32) (x2 : Int32) : Prop :=
  wp_Lb_indexOf (fun (r2 : Int32) =>
    ((r2 = 2 →
      post 0 I_p0 f_p0_characters f_p0_sizes f_p0_tags) ∧
     (¬ r2 = 2 →
      ((r2 = (I_p0 3) →
        vp_in r2 2 ∧
        vp_in r2 2 ∧
        wp_Lb_add_b45 post (upd I_p0 3 ((I_p0 3) + 1)) f_p0_characters (upd f_p0_sizes (r2).toNatClampNeg 0) (upd f_p0_tags (r2).toNatClampNeg x1) x2 r2) ∧
       (¬ r2 = (I_p0 3) →
        wp_Lb_add_b45 post I_p0 f_p0_characters f_p0_sizes f_p0_tags x2 r2))))) I_p0 f_p0_tags x1
set_option maxRecDepth 100000 in
set_option maxHeartbeats 4000000 in
theorem c_Lb_add (l : Launch) (dC : Nat → ClassId) (dI : Nat → Nat → Nat) (cI : ClassId) (a_p0 : Nat) (A_p0 : Nat → Nat) (I_p0 : Nat → Int32) (f_p0_characters : Nat → Int32) (f_p0_sizes : Nat → Int32) (f_p0_tags : Nat → Int32) (x1 : Int32) (x2 : Int32) {post : Int32 → (Nat → Int32) → (Nat → Int32) → (Nat → Int32) → (Nat → Int32) → Prop} (hw : wp_Lb_add post I_p0 f_p0_characters f_p0_sizes f_p0_tags x1 x2) : gm_i l y_Lb_add ws_Lb_add ({ frames := 1, cells := 0, slots := 0, locals := 22 } : Room) (dC, dI) vwCl [(cI, .int)] [.ref a_p0, .int x1, .int x2] [oLb a_p0 A_p0 I_p0, gz cI (A_p0 2) 24 f_p0_characters, gz cI (A_p0 1) 2 f_p0_sizes, gz cI (A_p0 0) 2 f_p0_tags] (fun (u : (Nat → Int32) × (Nat → Int32) × (Nat → Int32) × (Nat → Int32)) => [oLb a_p0 A_p0 u.1, gz cI (A_p0 2) 24 u.2.1, gz cI (A_p0 1) 2 u.2.2.1, gz cI (A_p0 0) 2 u.2.2.2]) (fun (r : Int32) (u : (Nat → Int32) × (Nat → Int32) × (Nat → Int32) × (Nat → Int32)) => post r u.1 u.2.1 u.2.2.1 u.2.2.2) := by
  refine gm_iof (cc := b_Lb_add) (maxL := 4) (ty := .boolean) (by decide) rfl (Nat.le_of_ble_eq_true rfl) ?_
  intro p e s m args below meth c A Q hx hb hml hown hg hK hN hA hret
  have hown : s.vm.findClass R_Lb = some m.cls := hown
  have b45 : ∀ (H : Heap) (locs : List Loc) (ls : Array Slot) (I_p0 : Nat → Int32) (f_p0_characters : Nat → Int32) (f_p0_sizes : Nat → Int32) (f_p0_tags : Nat → Int32) (x2 : Int32) (x3 : Int32), va_P (dC, dI) vwCl [oLb a_p0 A_p0 I_p0, gz cI (A_p0 2) 24 f_p0_characters, gz cI (A_p0 1) 2 f_p0_sizes, gz cI (A_p0 0) 2 f_p0_tags] H → va_D A [oLb a_p0 A_p0 I_p0, gz cI (A_p0 2) 24 f_p0_characters, gz cI (A_p0 1) 2 f_p0_sizes, gz cI (A_p0 0) 2 f_p0_tags] → va_S A s.heap H locs → lv_has ls 4 [(0, .ref a_p0), (2, .int x2), (3, .int x3)] → wp_Lb_add_b45 post I_p0 f_p0_characters f_p0_sizes f_p0_tags x2 x3 → W p l e ({ frames := 1, cells := 0, slots := 0, locals := 22 } : Room) s m args below meth c H locs 0 0 Q (F0 m 45 ls []) := by
    intro H locs ls I_p0 f_p0_characters f_p0_sizes f_p0_tags x2 x3 hP hD hS hl hw
    unfold wp_Lb_add_b45 at hw
    refine lv_aload_n hx hb d_Lb_add_45 rfl (lv_at hl 0 rfl) ?_
    refine va_get (D := (dC, dI)) (ci := 2) (v := .ref (A_p0 1)) (C := R_Lb) (T := T_Lb) (N := 4) hx hb hg in_Lb hown hK hP 0 rfl rfl 1 (by decide) (hg _ t_159) (fun _ h9 => h9) rfl d_Lb_add_46 ?_
    refine lv_iload_n hx hb d_Lb_add_49 rfl (lv_at hl 2 rfl) ?_
    obtain ⟨hin, hw⟩ := hw
    refine va_iald hx hb hK hP 2 0 rfl rfl hin d_Lb_add_50 ?_
    refine lv_bipush (v := 12) hx hb d_Lb_add_51 (by decide) ?_
    refine lv_icmp_ne hx hb d_Lb_add_53 rfl (fun hc => ?_) (fun hc => ?_)
    · have hw := hw.2 hc
      refine lv_aload_n hx hb d_Lb_add_58 rfl (lv_at hl 0 rfl) ?_
      refine va_get (D := (dC, dI)) (ci := 2) (v := .ref (A_p0 2)) (C := R_Lb) (T := T_Lb) (N := 4) hx hb hg in_Lb hown hK hP 0 rfl rfl 2 (by decide) (hg _ t_160) (fun _ h9 => h9) rfl d_Lb_add_59 ?_
      refine lv_iload_n hx hb d_Lb_add_62 rfl (lv_at hl 2 rfl) ?_
      refine lv_bipush (v := 12) hx hb d_Lb_add_63 (by decide) ?_
      refine lv_imul hx hb d_Lb_add_65 ?_
      refine lv_aload_n hx hb d_Lb_add_66 rfl (lv_at hl 0 rfl) ?_
      refine va_get (D := (dC, dI)) (ci := 2) (v := .ref (A_p0 1)) (C := R_Lb) (T := T_Lb) (N := 4) hx hb hg in_Lb hown hK hP 0 rfl rfl 1 (by decide) (hg _ t_159) (fun _ h9 => h9) rfl d_Lb_add_67 ?_
      refine lv_iload_n hx hb d_Lb_add_70 rfl (lv_at hl 2 rfl) ?_
      obtain ⟨hin, hw⟩ := hw
      refine va_iald hx hb hK hP 2 0 rfl rfl hin d_Lb_add_71 ?_
      refine lv_iadd hx hb d_Lb_add_72 ?_
      refine lv_iload_n hx hb d_Lb_add_73 rfl (lv_at hl 1 rfl) ?_
      obtain ⟨hin, hw⟩ := hw
      refine va_iast hx hb hK hP hD hS 1 0 rfl rfl hin d_Lb_add_74 (fun H locs hP hD hS => ?_)
      have hP : va_P (dC, dI) vwCl [oLb a_p0 A_p0 I_p0, gz cI (A_p0 2) 24 (upd f_p0_characters ((x3 * 12) + (f_p0_sizes (x3).toNatClampNeg)).toNatClampNeg x2), gz cI (A_p0 1) 2 f_p0_sizes, gz cI (A_p0 0) 2 f_p0_tags] H := hP
      have hD : va_D A [oLb a_p0 A_p0 I_p0, gz cI (A_p0 2) 24 (upd f_p0_characters ((x3 * 12) + (f_p0_sizes (x3).toNatClampNeg)).toNatClampNeg x2), gz cI (A_p0 1) 2 f_p0_sizes, gz cI (A_p0 0) 2 f_p0_tags] := hD
      refine lv_aload_n hx hb d_Lb_add_75 rfl (lv_at hl 0 rfl) ?_
      refine va_get (D := (dC, dI)) (ci := 2) (v := .ref (A_p0 1)) (C := R_Lb) (T := T_Lb) (N := 4) hx hb hg in_Lb hown hK hP 0 rfl rfl 1 (by decide) (hg _ t_159) (fun _ h9 => h9) rfl d_Lb_add_76 ?_
      refine lv_iload_n hx hb d_Lb_add_79 rfl (lv_at hl 2 rfl) ?_
      refine lv_dup2_11 hx hb d_Lb_add_80 rfl rfl ?_
      obtain ⟨hin, hw⟩ := hw
      refine va_iald hx hb hK hP 2 0 rfl rfl hin d_Lb_add_81 ?_
      refine lv_iconst (v := 1) hx hb d_Lb_add_82 (by decide) ?_
      refine lv_iadd hx hb d_Lb_add_83 ?_
      obtain ⟨hin, hw⟩ := hw
      refine va_iast hx hb hK hP hD hS 2 0 rfl rfl hin d_Lb_add_84 (fun H locs hP hD hS => ?_)
      have hP : va_P (dC, dI) vwCl [oLb a_p0 A_p0 I_p0, gz cI (A_p0 2) 24 (upd f_p0_characters ((x3 * 12) + (f_p0_sizes (x3).toNatClampNeg)).toNatClampNeg x2), gz cI (A_p0 1) 2 (upd f_p0_sizes (x3).toNatClampNeg ((f_p0_sizes (x3).toNatClampNeg) + 1)), gz cI (A_p0 0) 2 f_p0_tags] H := hP
      have hD : va_D A [oLb a_p0 A_p0 I_p0, gz cI (A_p0 2) 24 (upd f_p0_characters ((x3 * 12) + (f_p0_sizes (x3).toNatClampNeg)).toNatClampNeg x2), gz cI (A_p0 1) 2 (upd f_p0_sizes (x3).toNatClampNeg ((f_p0_sizes (x3).toNatClampNeg) + 1)), gz cI (A_p0 0) 2 f_p0_tags] := hD
      refine lv_iconst (v := 1) hx hb d_Lb_add_85 (by decide) ?_
      exact hret _ _ _ _ _ (I_p0, (upd f_p0_characters ((x3 * 12) + (f_p0_sizes (x3).toNatClampNeg)).toNatClampNeg x2), (upd f_p0_sizes (x3).toNatClampNeg ((f_p0_sizes (x3).toNatClampNeg) + 1)), f_p0_tags) d_Lb_add_86 rfl hP hD hS hw
    · have hw := hw.1 hc
      refine lv_iconst (v := 0) hx hb d_Lb_add_56 (by decide) ?_
      exact hret _ _ _ _ _ (I_p0, f_p0_characters, f_p0_sizes, f_p0_tags) d_Lb_add_57 rfl hP hD hS hw
  intro ls hl hP hD hS
  have hl : lv_has ls 4 [(0, .ref a_p0), (1, .int x1), (2, .int x2)] := hl
  unfold wp_Lb_add at hw
  refine lv_aload_n hx hb d_Lb_add_0 rfl (lv_at hl 0 rfl) ?_
  refine lv_iload_n hx hb d_Lb_add_1 rfl (lv_at hl 1 rfl) ?_
  refine gc_i (wn := fun (_ : Unit) => [oLb a_p0 A_p0 I_p0, gz cI (A_p0 2) 24 f_p0_characters, gz cI (A_p0 1) 2 f_p0_sizes, gz cI (A_p0 0) 2 f_p0_tags]) (wr := [gz cI (A_p0 2) 24 f_p0_characters, gz cI (A_p0 1) 2 f_p0_sizes]) (gr_V (As := [.int x1]) (rest := []) ⟨hx, hb, hml, hown, hg⟩ (c_Lb_indexOf l dC dI cI a_p0 A_p0 I_p0 f_p0_tags x1 hw _) (cwV 1 hg (gg_V t_429 t_431 t_1 t_64 t_432) rfl rfl rfl (by decide +kernel) ⟨Nat.le_of_ble_eq_true rfl, Nat.le_of_ble_eq_true rfl⟩) hK hN hP hD [0, 3] (by decide) rfl 0 2 rfl rfl rfl rfl hl.1 rfl (Nat.le_of_ble_eq_true rfl) d_Lb_add_2 ⟨Nat.le_of_ble_eq_true rfl, Nat.le_of_ble_eq_true rfl⟩) rfl rfl hP hD hS hA [0, 3] [1, 2] [2, 0, 1, 3] rfl rfl (by decide) (by decide) (by decide) (fun _ => rfl) ?_
  intro r2 _ H locs hw hP hD hS
  try dsimp only at hw
  have hP : va_P (dC, dI) vwCl [oLb a_p0 A_p0 I_p0, gz cI (A_p0 2) 24 f_p0_characters, gz cI (A_p0 1) 2 f_p0_sizes, gz cI (A_p0 0) 2 f_p0_tags] H := hP
  have hD : va_D A [oLb a_p0 A_p0 I_p0, gz cI (A_p0 2) 24 f_p0_characters, gz cI (A_p0 1) 2 f_p0_sizes, gz cI (A_p0 0) 2 f_p0_tags] := hD
  refine lv_istore_n (lv' := [(3, .int r2), (0, .ref a_p0), (1, .int x1), (2, .int x2)]) hx hb d_Lb_add_5 rfl hl (by decide) rfl (fun ls hl => ?_)
  refine lv_iload_n hx hb d_Lb_add_6 rfl (lv_at hl 0 rfl) ?_
  refine lv_iconst (v := 2) hx hb d_Lb_add_7 (by decide) ?_
  refine lv_icmp_ne hx hb d_Lb_add_8 rfl (fun hc => ?_) (fun hc => ?_)
  · have hw := hw.2 hc
    refine lv_iload_n hx hb d_Lb_add_13 rfl (lv_at hl 0 rfl) ?_
    refine lv_aload_n hx hb d_Lb_add_14 rfl (lv_at hl 1 rfl) ?_
    refine va_get (D := (dC, dI)) (ci := 2) (v := .int (I_p0 3)) (C := R_Lb) (T := T_Lb) (N := 4) hx hb hg in_Lb hown hK hP 0 rfl rfl 3 (by decide) (hg _ t_161) (fun _ h9 => h9) rfl d_Lb_add_15 ?_
    refine lv_icmp_ne hx hb d_Lb_add_18 rfl (fun hc => ?_) (fun hc => ?_)
    · have hw := hw.2 hc
      exact b45 _ _ _ I_p0 f_p0_characters f_p0_sizes f_p0_tags x2 r2 hP hD hS (lv_sub hl [1, 3, 0] rfl) hw
    · have hw := hw.1 hc
      refine lv_aload_n hx hb d_Lb_add_21 rfl (lv_at hl 1 rfl) ?_
      refine va_get (D := (dC, dI)) (ci := 2) (v := .ref (A_p0 0)) (C := R_Lb) (T := T_Lb) (N := 4) hx hb hg in_Lb hown hK hP 0 rfl rfl 0 (by decide) (hg _ t_157) (fun _ h9 => h9) rfl d_Lb_add_22 ?_
      refine lv_iload_n hx hb d_Lb_add_25 rfl (lv_at hl 0 rfl) ?_
      refine lv_iload_n hx hb d_Lb_add_26 rfl (lv_at hl 2 rfl) ?_
      obtain ⟨hin, hw⟩ := hw
      refine va_iast hx hb hK hP hD hS 3 0 rfl rfl hin d_Lb_add_27 (fun H locs hP hD hS => ?_)
      have hP : va_P (dC, dI) vwCl [oLb a_p0 A_p0 I_p0, gz cI (A_p0 2) 24 f_p0_characters, gz cI (A_p0 1) 2 f_p0_sizes, gz cI (A_p0 0) 2 (upd f_p0_tags (r2).toNatClampNeg x1)] H := hP
      have hD : va_D A [oLb a_p0 A_p0 I_p0, gz cI (A_p0 2) 24 f_p0_characters, gz cI (A_p0 1) 2 f_p0_sizes, gz cI (A_p0 0) 2 (upd f_p0_tags (r2).toNatClampNeg x1)] := hD
      refine lv_aload_n hx hb d_Lb_add_28 rfl (lv_at hl 1 rfl) ?_
      refine va_get (D := (dC, dI)) (ci := 2) (v := .ref (A_p0 1)) (C := R_Lb) (T := T_Lb) (N := 4) hx hb hg in_Lb hown hK hP 0 rfl rfl 1 (by decide) (hg _ t_159) (fun _ h9 => h9) rfl d_Lb_add_29 ?_
      refine lv_iload_n hx hb d_Lb_add_32 rfl (lv_at hl 0 rfl) ?_
      refine lv_iconst (v := 0) hx hb d_Lb_add_33 (by decide) ?_
      obtain ⟨hin, hw⟩ := hw
      refine va_iast hx hb hK hP hD hS 2 0 rfl rfl hin d_Lb_add_34 (fun H locs hP hD hS => ?_)
      have hP : va_P (dC, dI) vwCl [oLb a_p0 A_p0 I_p0, gz cI (A_p0 2) 24 f_p0_characters, gz cI (A_p0 1) 2 (upd f_p0_sizes (r2).toNatClampNeg 0), gz cI (A_p0 0) 2 (upd f_p0_tags (r2).toNatClampNeg x1)] H := hP
      have hD : va_D A [oLb a_p0 A_p0 I_p0, gz cI (A_p0 2) 24 f_p0_characters, gz cI (A_p0 1) 2 (upd f_p0_sizes (r2).toNatClampNeg 0), gz cI (A_p0 0) 2 (upd f_p0_tags (r2).toNatClampNeg x1)] := hD
      refine lv_aload_n hx hb d_Lb_add_35 rfl (lv_at hl 1 rfl) ?_
      refine lv_dup hx hb d_Lb_add_36 rfl ?_
      refine va_get (D := (dC, dI)) (ci := 2) (v := .int (I_p0 3)) (C := R_Lb) (T := T_Lb) (N := 4) hx hb hg in_Lb hown hK hP 0 rfl rfl 3 (by decide) (hg _ t_161) (fun _ h9 => h9) rfl d_Lb_add_37 ?_
      refine lv_iconst (v := 1) hx hb d_Lb_add_40 (by decide) ?_
      refine lv_iadd hx hb d_Lb_add_41 ?_
      refine va_put (D := (dC, dI)) (ci := 2) (v := .int ((I_p0 3) + 1)) (ty := .int) (C := R_Lb) (T := T_Lb) (N := 4) hx hb hg in_Lb t_Lb tok_Lb nok_Lb hown hK hP hD hS 0 rfl rfl 3 (by decide) (hg _ t_161) (fun _ h9 => h9) rfl (by decide +kernel) rfl rfl (Nat.le_of_ble_eq_true rfl) d_Lb_add_42 (fun H locs hP hD hS => ?_)
      have hP : va_P (dC, dI) vwCl [oLb a_p0 A_p0 (upd I_p0 3 ((I_p0 3) + 1)), gz cI (A_p0 2) 24 f_p0_characters, gz cI (A_p0 1) 2 (upd f_p0_sizes (r2).toNatClampNeg 0), gz cI (A_p0 0) 2 (upd f_p0_tags (r2).toNatClampNeg x1)] H := hP
      have hD : va_D A [oLb a_p0 A_p0 (upd I_p0 3 ((I_p0 3) + 1)), gz cI (A_p0 2) 24 f_p0_characters, gz cI (A_p0 1) 2 (upd f_p0_sizes (r2).toNatClampNeg 0), gz cI (A_p0 0) 2 (upd f_p0_tags (r2).toNatClampNeg x1)] := hD
      exact b45 _ _ _ (upd I_p0 3 ((I_p0 3) + 1)) f_p0_characters (upd f_p0_sizes (r2).toNatClampNeg 0) (upd f_p0_tags (r2).toNatClampNeg x1) x2 r2 hP hD hS (lv_sub hl [1, 3, 0] rfl) hw
  · have hw := hw.1 hc
    refine lv_iconst (v := 0) hx hb d_Lb_add_11 (by decide) ?_
    exact hret _ _ _ _ _ (I_p0, f_p0_characters, f_p0_sizes, f_p0_tags) d_Lb_add_12 rfl hP hD hS hw
theorem d_X_label_0 : decode b_X_label 0 = .ok (.iload_n 1, 1) := by decide +kernel
theorem d_X_label_1 : decode b_X_label 1 = .ok (.ldc 139, 2) := by decide +kernel
theorem d_X_label_3 : decode b_X_label 3 = .ok (.if_icmp .lt 20, 3) := by decide +kernel
theorem d_X_label_6 : decode b_X_label 6 = .ok (.iload_n 1, 1) := by decide +kernel
theorem d_X_label_7 : decode b_X_label 7 = .ok (.ldc 140, 2) := by decide +kernel
theorem d_X_label_9 : decode b_X_label 9 = .ok (.if_icmp .gt 14, 3) := by decide +kernel
theorem d_X_label_12 : decode b_X_label 12 = .ok (.iload_n 2, 1) := by decide +kernel
theorem d_X_label_13 : decode b_X_label 13 = .ok (.iconst 1, 1) := by decide +kernel
theorem d_X_label_14 : decode b_X_label 14 = .ok (.if_icmp .lt 9, 3) := by decide +kernel
theorem d_X_label_17 : decode b_X_label 17 = .ok (.iload_n 2, 1) := by decide +kernel
theorem d_X_label_18 : decode b_X_label 18 = .ok (.bipush 127, 2) := by decide +kernel
theorem d_X_label_20 : decode b_X_label 20 = .ok (.if_icmp .le 5, 3) := by decide +kernel
theorem d_X_label_23 : decode b_X_label 23 = .ok (.iconst 0, 1) := by decide +kernel
theorem d_X_label_24 : decode b_X_label 24 = .ok (.ireturn, 1) := by decide +kernel
theorem d_X_label_25 : decode b_X_label 25 = .ok (.aload_n 0, 1) := by decide +kernel
theorem d_X_label_26 : decode b_X_label 26 = .ok (.getfield 33, 3) := by decide +kernel
theorem d_X_label_29 : decode b_X_label 29 = .ok (.iload_n 1, 1) := by decide +kernel
theorem d_X_label_30 : decode b_X_label 30 = .ok (.iload_n 2, 1) := by decide +kernel
theorem d_X_label_31 : decode b_X_label 31 = .ok (.invokevirtual 141, 3) := by decide +kernel
theorem d_X_label_34 : decode b_X_label 34 = .ok (.ireturn, 1) := by decide +kernel
def wp_X_label (post : Int32 → (Nat → Int32) → (Nat → Int32) → (Nat → Int32) → (Nat → Int32) → Prop) (I_p0_labels : Nat → Int32) (f_p0_labels_characters : Nat → Int32) (f_p0_labels_sizes : Nat → Int32) (f_p0_labels_tags : Nat → Int32) (x1 : Int32) (x2 : Int32) : Prop :=
  ((x1 < 32768 →
    post 0 I_p0_labels f_p0_labels_characters f_p0_labels_sizes f_p0_labels_tags) ∧
   (¬ x1 < 32768 →
    ((65535 < x1 →
      post 0 I_p0_labels f_p0_labels_characters f_p0_labels_sizes f_p0_labels_tags) ∧
     (¬ 65535 < x1 →
      ((x2 < 1 →
        post 0 I_p0_labels f_p0_labels_characters f_p0_labels_sizes f_p0_labels_tags) ∧
       (¬ x2 < 1 →
        ((x2 ≤ 127 →
          wp_Lb_add (fun (r31 : Int32) (I_p0_labels_31 : Nat → Int32) (f_p0_labels_characters_31 : Nat → Int32) (f_p0_labels_sizes_31 : Nat → Int32) (f_p0_labels_tags_31 : Nat → Int32) =>
            (r31 = 0 ∨ r31 = 1) ∧
            post r31 I_p0_labels_31 f_p0_labels_characters_31 f_p0_labels_sizes_31 f_p0_labels_tags_31) I_p0_labels f_p0_labels_characters f_p0_labels_sizes f_p0_labels_tags x1 x2) ∧
         (¬ x2 ≤ 127 →
          post 0 I_p0_labels f_p0_labels_characters f_p0_labels_sizes f_p0_labels_tags))))))))
set_option maxRecDepth 100000 in
set_option maxHeartbeats 4000000 in
theorem c_X_label (l : Launch) (dC : Nat → ClassId) (dI : Nat → Nat → Nat) (cI : ClassId) (a_p0 : Nat) (A_p0 : Nat → Nat) (A_p0_labels : Nat → Nat) (I_p0_labels : Nat → Int32) (f_p0_labels_characters : Nat → Int32) (f_p0_labels_sizes : Nat → Int32) (f_p0_labels_tags : Nat → Int32) (x1 : Int32) (x2 : Int32) {post : Int32 → (Nat → Int32) → (Nat → Int32) → (Nat → Int32) → (Nat → Int32) → Prop} (hw : wp_X_label post I_p0_labels f_p0_labels_characters f_p0_labels_sizes f_p0_labels_tags x1 x2) : gm_i l y_X_label ws_X_label ({ frames := 2, cells := 0, slots := 0, locals := 45 } : Room) (dC, dI) vwCl [(cI, .int)] [.ref a_p0, .int x1, .int x2] [oX a_p0 A_p0, oLb (A_p0 3) A_p0_labels I_p0_labels, gz cI (A_p0_labels 2) 24 f_p0_labels_characters, gz cI (A_p0_labels 1) 2 f_p0_labels_sizes, gz cI (A_p0_labels 0) 2 f_p0_labels_tags] (fun (u : (Nat → Int32) × (Nat → Int32) × (Nat → Int32) × (Nat → Int32)) => [oX a_p0 A_p0, oLb (A_p0 3) A_p0_labels u.1, gz cI (A_p0_labels 2) 24 u.2.1, gz cI (A_p0_labels 1) 2 u.2.2.1, gz cI (A_p0_labels 0) 2 u.2.2.2]) (fun (r : Int32) (u : (Nat → Int32) × (Nat → Int32) × (Nat → Int32) × (Nat → Int32)) => post r u.1 u.2.1 u.2.2.1 u.2.2.2) := by
  refine gm_iof (cc := b_X_label) (maxL := 3) (ty := .boolean) (by decide) rfl (Nat.le_of_ble_eq_true rfl) ?_
  intro p e s m args below meth c A Q hx hb hml hown hg hK hN hA hret
  have hown : s.vm.findClass R_X = some m.cls := hown
  intro ls hl hP hD hS
  have hl : lv_has ls 3 [(0, .ref a_p0), (1, .int x1), (2, .int x2)] := hl
  unfold wp_X_label at hw
  refine lv_iload_n hx hb d_X_label_0 rfl (lv_at hl 1 rfl) ?_
  refine lv_ldc (v := 32768) hx hb hown (hg _ t_423) d_X_label_1 ?_
  refine lv_icmp_lt hx hb d_X_label_3 rfl (fun hc => ?_) (fun hc => ?_)
  · have hw := hw.1 hc
    refine lv_iconst (v := 0) hx hb d_X_label_23 (by decide) ?_
    exact hret _ _ _ _ _ (I_p0_labels, f_p0_labels_characters, f_p0_labels_sizes, f_p0_labels_tags) d_X_label_24 rfl hP hD hS hw
  · have hw := hw.2 hc
    refine lv_iload_n hx hb d_X_label_6 rfl (lv_at hl 1 rfl) ?_
    refine lv_ldc (v := 65535) hx hb hown (hg _ t_424) d_X_label_7 ?_
    refine lv_icmp_gt hx hb d_X_label_9 rfl (fun hc => ?_) (fun hc => ?_)
    · have hw := hw.1 hc
      refine lv_iconst (v := 0) hx hb d_X_label_23 (by decide) ?_
      exact hret _ _ _ _ _ (I_p0_labels, f_p0_labels_characters, f_p0_labels_sizes, f_p0_labels_tags) d_X_label_24 rfl hP hD hS hw
    · have hw := hw.2 hc
      refine lv_iload_n hx hb d_X_label_12 rfl (lv_at hl 2 rfl) ?_
      refine lv_iconst (v := 1) hx hb d_X_label_13 (by decide) ?_
      refine lv_icmp_lt hx hb d_X_label_14 rfl (fun hc => ?_) (fun hc => ?_)
      · have hw := hw.1 hc
        refine lv_iconst (v := 0) hx hb d_X_label_23 (by decide) ?_
        exact hret _ _ _ _ _ (I_p0_labels, f_p0_labels_characters, f_p0_labels_sizes, f_p0_labels_tags) d_X_label_24 rfl hP hD hS hw
      · have hw := hw.2 hc
        refine lv_iload_n hx hb d_X_label_17 rfl (lv_at hl 2 rfl) ?_
        refine lv_bipush (v := 127) hx hb d_X_label_18 (by decide) ?_
        refine lv_icmp_le hx hb d_X_label_20 rfl (fun hc => ?_) (fun hc => ?_)
        · have hw := hw.1 hc
          refine lv_aload_n hx hb d_X_label_25 rfl (lv_at hl 0 rfl) ?_
          refine va_get (D := (dC, dI)) (ci := 9) (v := .ref (A_p0 3)) (C := R_X) (T := T_X) (N := 14) hx hb hg in_X hown hK hP 0 rfl rfl 3 (by decide) (hg _ t_310) (fun _ h9 => h9) rfl d_X_label_26 ?_
          refine lv_iload_n hx hb d_X_label_29 rfl (lv_at hl 1 rfl) ?_
          refine lv_iload_n hx hb d_X_label_30 rfl (lv_at hl 2 rfl) ?_
          refine gc_i (wn := fun u => [oX a_p0 A_p0, oLb (A_p0 3) A_p0_labels u.1, gz cI (A_p0_labels 2) 24 u.2.1, gz cI (A_p0_labels 1) 2 u.2.2.1, gz cI (A_p0_labels 0) 2 u.2.2.2]) (wr := [oX a_p0 A_p0]) (gr_V (As := [.int x1, .int x2]) (rest := []) ⟨hx, hb, hml, hown, hg⟩ (c_Lb_add l dC dI cI (A_p0 3) A_p0_labels I_p0_labels f_p0_labels_characters f_p0_labels_sizes f_p0_labels_tags x1 x2 hw _) (cwV 2 hg (gg_V t_425 t_426 t_427 t_64 t_428) rfl rfl rfl (by decide +kernel) ⟨Nat.le_of_ble_eq_true rfl, Nat.le_of_ble_eq_true rfl⟩) hK hN hP hD [1, 2, 3, 4] (by decide) rfl 1 2 rfl rfl rfl rfl hl.1 rfl (Nat.le_of_ble_eq_true rfl) d_X_label_31 ⟨Nat.le_of_ble_eq_true rfl, Nat.le_of_ble_eq_true rfl⟩) rfl rfl hP hD hS hA [1, 2, 3, 4] [0] [0, 1, 2, 3, 4] rfl rfl (by decide) (by decide) (by decide) (fun _ => rfl) ?_
          intro r31 u9 H locs hw hP hD hS
          obtain ⟨I_p0_labels_31, f_p0_labels_characters_31, f_p0_labels_sizes_31, f_p0_labels_tags_31⟩ := u9
          try dsimp only at hw
          have hP : va_P (dC, dI) vwCl [oX a_p0 A_p0, oLb (A_p0 3) A_p0_labels I_p0_labels_31, gz cI (A_p0_labels 2) 24 f_p0_labels_characters_31, gz cI (A_p0_labels 1) 2 f_p0_labels_sizes_31, gz cI (A_p0_labels 0) 2 f_p0_labels_tags_31] H := hP
          have hD : va_D A [oX a_p0 A_p0, oLb (A_p0 3) A_p0_labels I_p0_labels_31, gz cI (A_p0_labels 2) 24 f_p0_labels_characters_31, gz cI (A_p0_labels 1) 2 f_p0_labels_sizes_31, gz cI (A_p0_labels 0) 2 f_p0_labels_tags_31] := hD
          obtain ⟨hz, hw⟩ := hw
          exact hret _ _ _ _ _ (I_p0_labels_31, f_p0_labels_characters_31, f_p0_labels_sizes_31, f_p0_labels_tags_31) d_X_label_34 (gz_nar hz) hP hD hS hw
        · have hw := hw.2 hc
          refine lv_iconst (v := 0) hx hb d_X_label_23 (by decide) ?_
          exact hret _ _ _ _ _ (I_p0_labels, f_p0_labels_characters, f_p0_labels_sizes, f_p0_labels_tags) d_X_label_24 rfl hP hD hS hw
theorem d_X_length_0 : decode b_X_length 0 = .ok (.aload_n 0, 1) := by decide +kernel
theorem d_X_length_1 : decode b_X_length 1 = .ok (.getfield 10, 3) := by decide +kernel
theorem d_X_length_4 : decode b_X_length 4 = .ok (.getfield 96, 3) := by decide +kernel
theorem d_X_length_7 : decode b_X_length 7 = .ok (.ireturn, 1) := by decide +kernel
def wp_X_length (post : Int32 → Prop) (I_p0_file : Nat → Int32) : Prop :=
  post (I_p0_file 1)
set_option maxRecDepth 100000 in
set_option maxHeartbeats 4000000 in
theorem c_X_length (l : Launch) (dC : Nat → ClassId) (dI : Nat → Nat → Nat) (cI : ClassId) (a_p0 : Nat) (A_p0 : Nat → Nat) (A_p0_file : Nat → Nat) (I_p0_file : Nat → Int32) {post : Int32 → Prop} (hw : wp_X_length post I_p0_file) : gm_i l y_X_length ws_X_length ({ frames := 0, cells := 0, slots := 0, locals := 0 } : Room) (dC, dI) vwCl [(cI, .int)] [.ref a_p0] [oX a_p0 A_p0, oSt (A_p0 0) A_p0_file I_p0_file] (fun (_ : Unit) => [oX a_p0 A_p0, oSt (A_p0 0) A_p0_file I_p0_file]) (fun (r : Int32) (_ : Unit) => post r) := by
  refine gm_iof (cc := b_X_length) (maxL := 1) (ty := .int) (by decide) rfl (Nat.le_of_ble_eq_true rfl) ?_
  intro p e s m args below meth c A Q hx hb hml hown hg hK hN hA hret
  have hown : s.vm.findClass R_X = some m.cls := hown
  intro ls hl hP hD hS
  have hl : lv_has ls 1 [(0, .ref a_p0)] := hl
  unfold wp_X_length at hw
  refine lv_aload_n hx hb d_X_length_0 rfl (lv_at hl 0 rfl) ?_
  refine va_get (D := (dC, dI)) (ci := 9) (v := .ref (A_p0 0)) (C := R_X) (T := T_X) (N := 14) hx hb hg in_X hown hK hP 0 rfl rfl 0 (by decide) (hg _ t_307) (fun _ h9 => h9) rfl d_X_length_1 ?_
  refine va_get (D := (dC, dI)) (ci := 7) (v := .int (I_p0_file 1)) (C := R_St) (T := T_St) (N := 3) hx hb hg in_St hown hK hP 1 rfl rfl 1 (by decide) (hg _ t_95) (fun _ h9 => h9) rfl d_X_length_4 ?_
  exact hret _ _ _ _ _ () d_X_length_7 rfl hP hD hS hw
