theorem d_X_tagsGoUp_0 : decode b_X_tagsGoUp 0 = .ok (.aload_n 0, 1) := by decide +kernel
theorem d_X_tagsGoUp_1 : decode b_X_tagsGoUp 1 = .ok (.getfield 10, 3) := by decide +kernel
theorem d_X_tagsGoUp_4 : decode b_X_tagsGoUp 4 = .ok (.iload_n 1, 1) := by decide +kernel
theorem d_X_tagsGoUp_5 : decode b_X_tagsGoUp 5 = .ok (.invokevirtual 344, 3) := by decide +kernel
theorem d_X_tagsGoUp_8 : decode b_X_tagsGoUp 8 = .ok (.istore_n 2, 1) := by decide +kernel
theorem d_X_tagsGoUp_9 : decode b_X_tagsGoUp 9 = .ok (.iconst (-1), 1) := by decide +kernel
theorem d_X_tagsGoUp_10 : decode b_X_tagsGoUp 10 = .ok (.istore_n 3, 1) := by decide +kernel
theorem d_X_tagsGoUp_11 : decode b_X_tagsGoUp 11 = .ok (.iconst 0, 1) := by decide +kernel
theorem d_X_tagsGoUp_12 : decode b_X_tagsGoUp 12 = .ok (.istore 4, 2) := by decide +kernel
theorem d_X_tagsGoUp_14 : decode b_X_tagsGoUp 14 = .ok (.iload 4, 2) := by decide +kernel
theorem d_X_tagsGoUp_16 : decode b_X_tagsGoUp 16 = .ok (.iload_n 2, 1) := by decide +kernel
theorem d_X_tagsGoUp_17 : decode b_X_tagsGoUp 17 = .ok (.if_icmp .ge 38, 3) := by decide +kernel
theorem d_X_tagsGoUp_20 : decode b_X_tagsGoUp 20 = .ok (.aload_n 0, 1) := by decide +kernel
theorem d_X_tagsGoUp_21 : decode b_X_tagsGoUp 21 = .ok (.getfield 10, 3) := by decide +kernel
theorem d_X_tagsGoUp_24 : decode b_X_tagsGoUp 24 = .ok (.iload_n 1, 1) := by decide +kernel
theorem d_X_tagsGoUp_25 : decode b_X_tagsGoUp 25 = .ok (.iconst 2, 1) := by decide +kernel
theorem d_X_tagsGoUp_26 : decode b_X_tagsGoUp 26 = .ok (.iadd, 1) := by decide +kernel
theorem d_X_tagsGoUp_27 : decode b_X_tagsGoUp 27 = .ok (.bipush 12, 2) := by decide +kernel
theorem d_X_tagsGoUp_29 : decode b_X_tagsGoUp 29 = .ok (.iload 4, 2) := by decide +kernel
theorem d_X_tagsGoUp_31 : decode b_X_tagsGoUp 31 = .ok (.imul, 1) := by decide +kernel
theorem d_X_tagsGoUp_32 : decode b_X_tagsGoUp 32 = .ok (.iadd, 1) := by decide +kernel
theorem d_X_tagsGoUp_33 : decode b_X_tagsGoUp 33 = .ok (.invokevirtual 344, 3) := by decide +kernel
theorem d_X_tagsGoUp_36 : decode b_X_tagsGoUp 36 = .ok (.istore 5, 2) := by decide +kernel
theorem d_X_tagsGoUp_38 : decode b_X_tagsGoUp 38 = .ok (.iload 5, 2) := by decide +kernel
theorem d_X_tagsGoUp_40 : decode b_X_tagsGoUp 40 = .ok (.iload_n 3, 1) := by decide +kernel
theorem d_X_tagsGoUp_41 : decode b_X_tagsGoUp 41 = .ok (.if_icmp .gt 5, 3) := by decide +kernel
theorem d_X_tagsGoUp_44 : decode b_X_tagsGoUp 44 = .ok (.iconst 0, 1) := by decide +kernel
theorem d_X_tagsGoUp_45 : decode b_X_tagsGoUp 45 = .ok (.ireturn, 1) := by decide +kernel
theorem d_X_tagsGoUp_46 : decode b_X_tagsGoUp 46 = .ok (.iload 5, 2) := by decide +kernel
theorem d_X_tagsGoUp_48 : decode b_X_tagsGoUp 48 = .ok (.istore_n 3, 1) := by decide +kernel
theorem d_X_tagsGoUp_49 : decode b_X_tagsGoUp 49 = .ok (.iinc 4 1, 3) := by decide +kernel
theorem d_X_tagsGoUp_52 : decode b_X_tagsGoUp 52 = .ok (.goto (-38), 3) := by decide +kernel
theorem d_X_tagsGoUp_55 : decode b_X_tagsGoUp 55 = .ok (.iconst 1, 1) := by decide +kernel
theorem d_X_tagsGoUp_56 : decode b_X_tagsGoUp 56 = .ok (.ireturn, 1) := by decide +kernel
def wp_X_tagsGoUp_l14 (post : Int32 → Prop) (I_p0_file : Nat → Int32) (f_p0_file_bytes : Nat → Int32) : Nat → Int32 → Int32 → Int32 → Int32 → Prop
  | 0, _, _, _, _ => False
  | n + 1, x1, x2, x3, x4 =>
    ((x2 ≤ x4 →
      post 1) ∧
     (¬ x2 ≤ x4 →
      wp_St_shortAt (fun (r33 : Int32) =>
        ((x3 < r33 →
          wp_X_tagsGoUp_l14 post I_p0_file f_p0_file_bytes n x1 x2 r33 (x4 + 1)) ∧
         (¬ x3 < r33 →
          post 0))) I_p0_file f_p0_file_bytes ((x1 + 2) + (12 * x4))))
def wp_X_tagsGoUp (post : Int32 → Prop) (I_p0_file : Nat → Int32) (f_p0_file_bytes : Nat → Int32) (x1 : Int32) : Prop :=
  wp_St_shortAt (fun (r5 : Int32) =>
    (∃ n1 : Nat, wp_X_tagsGoUp_l14 post I_p0_file f_p0_file_bytes n1 x1 r5 (-1) 0)) I_p0_file f_p0_file_bytes x1
set_option maxRecDepth 100000 in
set_option maxHeartbeats 4000000 in
theorem c_X_tagsGoUp (l : Launch) (dC : Nat → ClassId) (dI : Nat → Nat → Nat) (cI : ClassId) (a_p0 : Nat) (A_p0 : Nat → Nat) (A_p0_file : Nat → Nat) (I_p0_file : Nat → Int32) (f_p0_file_bytes : Nat → Int32) (x1 : Int32) {post : Int32 → Prop} (hw : wp_X_tagsGoUp post I_p0_file f_p0_file_bytes x1) : gm_i l y_X_tagsGoUp ws_X_tagsGoUp ({ frames := 1, cells := 0, slots := 0, locals := 21 } : Room) (dC, dI) vwCl [(cI, .int)] [.ref a_p0, .int x1] [oX a_p0 A_p0, oSt (A_p0 0) A_p0_file I_p0_file, gz cI (A_p0_file 0) 900 f_p0_file_bytes] (fun (_ : Unit) => [oX a_p0 A_p0, oSt (A_p0 0) A_p0_file I_p0_file, gz cI (A_p0_file 0) 900 f_p0_file_bytes]) (fun (r : Int32) (_ : Unit) => post r) := by
  refine gm_iof (cc := b_X_tagsGoUp) (maxL := 6) (ty := .boolean) (by decide) rfl (Nat.le_of_ble_eq_true rfl) ?_
  intro p e s m args below meth c A Q hx hb hml hown hg hK hN hA hret
  have hown : s.vm.findClass R_X = some m.cls := hown
  have l14 : ∀ n : Nat, ∀ (H : Heap) (locs : List Loc) (ls : Array Slot) (x1 : Int32) (x2 : Int32) (x3 : Int32) (x4 : Int32), va_P (dC, dI) vwCl [oX a_p0 A_p0, oSt (A_p0 0) A_p0_file I_p0_file, gz cI (A_p0_file 0) 900 f_p0_file_bytes] H → va_D A [oX a_p0 A_p0, oSt (A_p0 0) A_p0_file I_p0_file, gz cI (A_p0_file 0) 900 f_p0_file_bytes] → va_S A s.heap H locs → lv_has ls 6 [(0, .ref a_p0), (1, .int x1), (2, .int x2), (3, .int x3), (4, .int x4)] → wp_X_tagsGoUp_l14 post I_p0_file f_p0_file_bytes n x1 x2 x3 x4 → W p l e ({ frames := 1, cells := 0, slots := 0, locals := 21 } : Room) s m args below meth c H locs 0 0 Q (F0 m 14 ls []) := by
    intro n
    induction n with
    | zero => intro H locs ls x1 x2 x3 x4 hP hD hS hl hw; exact hw.elim
    | succ n ih =>
      intro H locs ls x1 x2 x3 x4 hP hD hS hl hw
      unfold wp_X_tagsGoUp_l14 at hw
      refine lv_iload hx hb d_X_tagsGoUp_14 (lv_at hl 4 rfl) ?_
      refine lv_iload_n hx hb d_X_tagsGoUp_16 rfl (lv_at hl 2 rfl) ?_
      refine lv_icmp_ge hx hb d_X_tagsGoUp_17 rfl (fun hc => ?_) (fun hc => ?_)
      · have hw := hw.1 hc
        refine lv_iconst (v := 1) hx hb d_X_tagsGoUp_55 (by decide) ?_
        exact hret _ _ _ _ _ () d_X_tagsGoUp_56 rfl hP hD hS hw
      · have hw := hw.2 hc
        refine lv_aload_n hx hb d_X_tagsGoUp_20 rfl (lv_at hl 0 rfl) ?_
        refine va_get (D := (dC, dI)) (ci := 9) (v := .ref (A_p0 0)) (C := R_X) (T := T_X) (N := 14) hx hb hg in_X hown hK hP 0 rfl rfl 0 (by decide) (hg _ t_307) (fun _ h9 => h9) rfl d_X_tagsGoUp_21 ?_
        refine lv_iload_n hx hb d_X_tagsGoUp_24 rfl (lv_at hl 1 rfl) ?_
        refine lv_iconst (v := 2) hx hb d_X_tagsGoUp_25 (by decide) ?_
        refine lv_iadd hx hb d_X_tagsGoUp_26 ?_
        refine lv_bipush (v := 12) hx hb d_X_tagsGoUp_27 (by decide) ?_
        refine lv_iload hx hb d_X_tagsGoUp_29 (lv_at hl 4 rfl) ?_
        refine lv_imul hx hb d_X_tagsGoUp_31 ?_
        refine lv_iadd hx hb d_X_tagsGoUp_32 ?_
        refine gc_i (wn := fun (_ : Unit) => [oX a_p0 A_p0, oSt (A_p0 0) A_p0_file I_p0_file, gz cI (A_p0_file 0) 900 f_p0_file_bytes]) (wr := [oX a_p0 A_p0]) (gr_V (As := [.int ((x1 + 2) + (12 * x4))]) (rest := []) ⟨hx, hb, hml, hown, hg⟩ (c_St_shortAt l dC dI cI (A_p0 0) A_p0_file I_p0_file f_p0_file_bytes ((x1 + 2) + (12 * x4)) hw _) (cwV 1 hg (gg_V t_657 t_458 t_459 t_61 t_460) rfl rfl rfl (by decide +kernel) ⟨Nat.le_of_ble_eq_true rfl, Nat.le_of_ble_eq_true rfl⟩) hK hN hP hD [1, 2] (by decide) rfl 1 7 rfl rfl rfl rfl hl.1 rfl (Nat.le_of_ble_eq_true rfl) d_X_tagsGoUp_33 ⟨Nat.le_of_ble_eq_true rfl, Nat.le_of_ble_eq_true rfl⟩) rfl rfl hP hD hS hA [1, 2] [0] [0, 1, 2] rfl rfl (by decide) (by decide) (by decide) (fun _ => rfl) ?_
        intro r33 _ H locs hw hP hD hS
        try dsimp only at hw
        have hP : va_P (dC, dI) vwCl [oX a_p0 A_p0, oSt (A_p0 0) A_p0_file I_p0_file, gz cI (A_p0_file 0) 900 f_p0_file_bytes] H := hP
        have hD : va_D A [oX a_p0 A_p0, oSt (A_p0 0) A_p0_file I_p0_file, gz cI (A_p0_file 0) 900 f_p0_file_bytes] := hD
        refine lv_istore (lv' := [(5, .int r33), (0, .ref a_p0), (1, .int x1), (2, .int x2), (3, .int x3), (4, .int x4)]) hx hb d_X_tagsGoUp_36 hl (by decide) rfl (fun ls hl => ?_)
        refine lv_iload hx hb d_X_tagsGoUp_38 (lv_at hl 0 rfl) ?_
        refine lv_iload_n hx hb d_X_tagsGoUp_40 rfl (lv_at hl 4 rfl) ?_
        refine lv_icmp_gt hx hb d_X_tagsGoUp_41 rfl (fun hc => ?_) (fun hc => ?_)
        · have hw := hw.1 hc
          refine lv_iload hx hb d_X_tagsGoUp_46 (lv_at hl 0 rfl) ?_
          refine lv_istore_n (lv' := [(3, .int r33), (5, .int r33), (0, .ref a_p0), (1, .int x1), (2, .int x2), (4, .int x4)]) hx hb d_X_tagsGoUp_48 rfl hl (by decide) rfl (fun ls hl => ?_)
          refine lv_iinc (k := 5) (v := (x4 + 1)) (lv' := [(4, .int (x4 + 1)), (3, .int r33), (5, .int r33), (0, .ref a_p0), (1, .int x1), (2, .int x2)]) hx hb d_X_tagsGoUp_49 hl rfl (congrArg (fun z => x4 + z) (by decide : Int32.ofInt 1 = 1)) (by decide) rfl (fun ls hl => ?_)
          refine lv_goto hx hb d_X_tagsGoUp_52 rfl ?_
          exact ih _ _ _ x1 x2 r33 (x4 + 1) hP hD hS (lv_sub hl [3, 4, 5, 1, 0] rfl) hw
        · have hw := hw.2 hc
          refine lv_iconst (v := 0) hx hb d_X_tagsGoUp_44 (by decide) ?_
          exact hret _ _ _ _ _ () d_X_tagsGoUp_45 rfl hP hD hS hw
  intro ls hl hP hD hS
  have hl : lv_has ls 6 [(0, .ref a_p0), (1, .int x1)] := hl
  unfold wp_X_tagsGoUp at hw
  refine lv_aload_n hx hb d_X_tagsGoUp_0 rfl (lv_at hl 0 rfl) ?_
  refine va_get (D := (dC, dI)) (ci := 9) (v := .ref (A_p0 0)) (C := R_X) (T := T_X) (N := 14) hx hb hg in_X hown hK hP 0 rfl rfl 0 (by decide) (hg _ t_307) (fun _ h9 => h9) rfl d_X_tagsGoUp_1 ?_
  refine lv_iload_n hx hb d_X_tagsGoUp_4 rfl (lv_at hl 1 rfl) ?_
  refine gc_i (wn := fun (_ : Unit) => [oX a_p0 A_p0, oSt (A_p0 0) A_p0_file I_p0_file, gz cI (A_p0_file 0) 900 f_p0_file_bytes]) (wr := [oX a_p0 A_p0]) (gr_V (As := [.int x1]) (rest := []) ⟨hx, hb, hml, hown, hg⟩ (c_St_shortAt l dC dI cI (A_p0 0) A_p0_file I_p0_file f_p0_file_bytes x1 hw _) (cwV 1 hg (gg_V t_657 t_458 t_459 t_61 t_460) rfl rfl rfl (by decide +kernel) ⟨Nat.le_of_ble_eq_true rfl, Nat.le_of_ble_eq_true rfl⟩) hK hN hP hD [1, 2] (by decide) rfl 1 7 rfl rfl rfl rfl hl.1 rfl (Nat.le_of_ble_eq_true rfl) d_X_tagsGoUp_5 ⟨Nat.le_of_ble_eq_true rfl, Nat.le_of_ble_eq_true rfl⟩) rfl rfl hP hD hS hA [1, 2] [0] [0, 1, 2] rfl rfl (by decide) (by decide) (by decide) (fun _ => rfl) ?_
  intro r5 _ H locs hw hP hD hS
  try dsimp only at hw
  have hP : va_P (dC, dI) vwCl [oX a_p0 A_p0, oSt (A_p0 0) A_p0_file I_p0_file, gz cI (A_p0_file 0) 900 f_p0_file_bytes] H := hP
  have hD : va_D A [oX a_p0 A_p0, oSt (A_p0 0) A_p0_file I_p0_file, gz cI (A_p0_file 0) 900 f_p0_file_bytes] := hD
  refine lv_istore_n (lv' := [(2, .int r5), (0, .ref a_p0), (1, .int x1)]) hx hb d_X_tagsGoUp_8 rfl hl (by decide) rfl (fun ls hl => ?_)
  refine lv_iconst (v := (-1)) hx hb d_X_tagsGoUp_9 (by decide) ?_
  refine lv_istore_n (lv' := [(3, .int (-1)), (2, .int r5), (0, .ref a_p0), (1, .int x1)]) hx hb d_X_tagsGoUp_10 rfl hl (by decide) rfl (fun ls hl => ?_)
  refine lv_iconst (v := 0) hx hb d_X_tagsGoUp_11 (by decide) ?_
  refine lv_istore (lv' := [(4, .int 0), (3, .int (-1)), (2, .int r5), (0, .ref a_p0), (1, .int x1)]) hx hb d_X_tagsGoUp_12 hl (by decide) rfl (fun ls hl => ?_)
  obtain ⟨n1, hw⟩ := hw
  exact l14 n1 _ _ _ x1 r5 (-1) 0 hP hD hS (lv_sub hl [3, 4, 2, 1, 0] rfl) hw
theorem d_X_onlyNumber_0 : decode b_X_onlyNumber 0 = .ok (.aload_n 0, 1) := by decide +kernel
theorem d_X_onlyNumber_1 : decode b_X_onlyNumber 1 = .ok (.getfield 68, 3) := by decide +kernel
theorem d_X_onlyNumber_4 : decode b_X_onlyNumber 4 = .ok (.aload_n 0, 1) := by decide +kernel
theorem d_X_onlyNumber_5 : decode b_X_onlyNumber 5 = .ok (.getfield 10, 3) := by decide +kernel
theorem d_X_onlyNumber_8 : decode b_X_onlyNumber 8 = .ok (.iload_n 1, 1) := by decide +kernel
theorem d_X_onlyNumber_9 : decode b_X_onlyNumber 9 = .ok (.iload_n 2, 1) := by decide +kernel
theorem d_X_onlyNumber_10 : decode b_X_onlyNumber 10 = .ok (.invokevirtual 320, 3) := by decide +kernel
theorem d_X_onlyNumber_13 : decode b_X_onlyNumber 13 = .ok (.ifCond .eq 14, 3) := by decide +kernel
theorem d_X_onlyNumber_16 : decode b_X_onlyNumber 16 = .ok (.aload_n 0, 1) := by decide +kernel
theorem d_X_onlyNumber_17 : decode b_X_onlyNumber 17 = .ok (.getfield 68, 3) := by decide +kernel
theorem d_X_onlyNumber_20 : decode b_X_onlyNumber 20 = .ok (.iconst 1, 1) := by decide +kernel
theorem d_X_onlyNumber_21 : decode b_X_onlyNumber 21 = .ok (.invokevirtual 347, 3) := by decide +kernel
theorem d_X_onlyNumber_24 : decode b_X_onlyNumber 24 = .ok (.ifCond .ne 7, 3) := by decide +kernel
theorem d_X_onlyNumber_27 : decode b_X_onlyNumber 27 = .ok (.ldc2_w 216, 3) := by decide +kernel
theorem d_X_onlyNumber_30 : decode b_X_onlyNumber 30 = .ok (.lreturn, 1) := by decide +kernel
theorem d_X_onlyNumber_31 : decode b_X_onlyNumber 31 = .ok (.aload_n 0, 1) := by decide +kernel
theorem d_X_onlyNumber_32 : decode b_X_onlyNumber 32 = .ok (.getfield 68, 3) := by decide +kernel
theorem d_X_onlyNumber_35 : decode b_X_onlyNumber 35 = .ok (.aload_n 0, 1) := by decide +kernel
theorem d_X_onlyNumber_36 : decode b_X_onlyNumber 36 = .ok (.getfield 10, 3) := by decide +kernel
theorem d_X_onlyNumber_39 : decode b_X_onlyNumber 39 = .ok (.iconst 0, 1) := by decide +kernel
theorem d_X_onlyNumber_40 : decode b_X_onlyNumber 40 = .ok (.invokevirtual 218, 3) := by decide +kernel
theorem d_X_onlyNumber_43 : decode b_X_onlyNumber 43 = .ok (.lreturn, 1) := by decide +kernel
def wp_X_onlyNumber (post : Int64 → (Nat → Int32) → (Nat → Int64) → Prop) (I_p0_file : Nat → Int32) (f_p0_file_bytes : Nat → Int32) (I_p0_entry : Nat → Int32) (L_p0_entry : Nat → Int64) (x1 : Int32) (x2 : Int32) : Prop :=
  wp_En_find (fun (r10 : Int32) (I_p0_entry_10 : Nat → Int32) (L_p0_entry_10 : Nat → Int64) =>
    ((r10 = 0 →
      post (-1) I_p0_entry_10 L_p0_entry_10) ∧
     (¬ r10 = 0 →
      wp_En_isNumbers (fun (r21 : Int32) =>
        ((r21 = 0 →
          post (-1) I_p0_entry_10 L_p0_entry_10) ∧
         (¬ r21 = 0 →
          wp_En_value (fun (r40 : Int64) =>
            post r40 I_p0_entry_10 L_p0_entry_10) I_p0_entry_10 L_p0_entry_10 I_p0_file f_p0_file_bytes 0))) I_p0_entry_10 L_p0_entry_10 1))) I_p0_file f_p0_file_bytes I_p0_entry L_p0_entry x1 x2
set_option maxRecDepth 100000 in
set_option maxHeartbeats 4000000 in
theorem c_X_onlyNumber (l : Launch) (dC : Nat → ClassId) (dI : Nat → Nat → Nat) (cI : ClassId) (a_p0 : Nat) (A_p0 : Nat → Nat) (A_p0_file : Nat → Nat) (I_p0_file : Nat → Int32) (f_p0_file_bytes : Nat → Int32) (I_p0_entry : Nat → Int32) (L_p0_entry : Nat → Int64) (x1 : Int32) (x2 : Int32) {post : Int64 → (Nat → Int32) → (Nat → Int64) → Prop} (hw : wp_X_onlyNumber post I_p0_file f_p0_file_bytes I_p0_entry L_p0_entry x1 x2) : gm_l l y_X_onlyNumber ws_X_onlyNumber ({ frames := 4, cells := 0, slots := 0, locals := 94 } : Room) (dC, dI) vwCl [(cI, .int)] [.ref a_p0, .int x1, .int x2] [oX a_p0 A_p0, oEn (A_p0 8) I_p0_entry L_p0_entry, oSt (A_p0 0) A_p0_file I_p0_file, gz cI (A_p0_file 0) 900 f_p0_file_bytes] (fun (u : (Nat → Int32) × (Nat → Int64)) => [oX a_p0 A_p0, oEn (A_p0 8) u.1 u.2, oSt (A_p0 0) A_p0_file I_p0_file, gz cI (A_p0_file 0) 900 f_p0_file_bytes]) (fun (r : Int64) (u : (Nat → Int32) × (Nat → Int64)) => post r u.1 u.2) := by
  refine gm_lof (cc := b_X_onlyNumber) (maxL := 3) (by decide) rfl (Nat.le_of_ble_eq_true rfl) ?_
  intro p e s m args below meth c A Q hx hb hml hown hg hK hN hA hret
  have hown : s.vm.findClass R_X = some m.cls := hown
  intro ls hl hP hD hS
  have hl : lv_has ls 3 [(0, .ref a_p0), (1, .int x1), (2, .int x2)] := hl
  unfold wp_X_onlyNumber at hw
  refine lv_aload_n hx hb d_X_onlyNumber_0 rfl (lv_at hl 0 rfl) ?_
  refine va_get (D := (dC, dI)) (ci := 9) (v := .ref (A_p0 8)) (C := R_X) (T := T_X) (N := 14) hx hb hg in_X hown hK hP 0 rfl rfl 8 (by decide) (hg _ t_315) (fun _ h9 => h9) rfl d_X_onlyNumber_1 ?_
  refine lv_aload_n hx hb d_X_onlyNumber_4 rfl (lv_at hl 0 rfl) ?_
  refine va_get (D := (dC, dI)) (ci := 9) (v := .ref (A_p0 0)) (C := R_X) (T := T_X) (N := 14) hx hb hg in_X hown hK hP 0 rfl rfl 0 (by decide) (hg _ t_307) (fun _ h9 => h9) rfl d_X_onlyNumber_5 ?_
  refine lv_iload_n hx hb d_X_onlyNumber_8 rfl (lv_at hl 1 rfl) ?_
  refine lv_iload_n hx hb d_X_onlyNumber_9 rfl (lv_at hl 2 rfl) ?_
  refine gc_i (wn := fun u => [oX a_p0 A_p0, oEn (A_p0 8) u.1 u.2, oSt (A_p0 0) A_p0_file I_p0_file, gz cI (A_p0_file 0) 900 f_p0_file_bytes]) (wr := [oX a_p0 A_p0]) (gr_V (As := [.ref (A_p0 0), .int x1, .int x2]) (rest := []) ⟨hx, hb, hml, hown, hg⟩ (c_En_find l dC dI cI (A_p0 8) (A_p0 0) A_p0_file I_p0_file f_p0_file_bytes I_p0_entry L_p0_entry x1 x2 hw _) (cwV 3 hg (gg_V t_662 t_663 t_664 t_69 t_665) rfl rfl rfl (by decide +kernel) ⟨Nat.le_of_ble_eq_true rfl, Nat.le_of_ble_eq_true rfl⟩) hK hN hP hD [1, 2, 3] (by decide) rfl 1 1 rfl rfl rfl rfl hl.1 rfl (Nat.le_of_ble_eq_true rfl) d_X_onlyNumber_10 ⟨Nat.le_of_ble_eq_true rfl, Nat.le_of_ble_eq_true rfl⟩) rfl rfl hP hD hS hA [1, 2, 3] [0] [0, 1, 2, 3] rfl rfl (by decide) (by decide) (by decide) (fun _ => rfl) ?_
  intro r10 u9 H locs hw hP hD hS
  obtain ⟨I_p0_entry_10, L_p0_entry_10⟩ := u9
  try dsimp only at hw
  have hP : va_P (dC, dI) vwCl [oX a_p0 A_p0, oEn (A_p0 8) I_p0_entry_10 L_p0_entry_10, oSt (A_p0 0) A_p0_file I_p0_file, gz cI (A_p0_file 0) 900 f_p0_file_bytes] H := hP
  have hD : va_D A [oX a_p0 A_p0, oEn (A_p0 8) I_p0_entry_10 L_p0_entry_10, oSt (A_p0 0) A_p0_file I_p0_file, gz cI (A_p0_file 0) 900 f_p0_file_bytes] := hD
  refine lv_if_eq hx hb d_X_onlyNumber_13 rfl (fun hc => ?_) (fun hc => ?_)
  · have hw := hw.1 hc
    refine lv_ldc2 (v := (-1)) hx hb hown (hg _ t_682) d_X_onlyNumber_27 ?_
    exact hret _ _ _ _ _ (I_p0_entry_10, L_p0_entry_10) d_X_onlyNumber_30 hP hD hS hw
  · have hw := hw.2 hc
    refine lv_aload_n hx hb d_X_onlyNumber_16 rfl (lv_at hl 0 rfl) ?_
    refine va_get (D := (dC, dI)) (ci := 9) (v := .ref (A_p0 8)) (C := R_X) (T := T_X) (N := 14) hx hb hg in_X hown hK hP 0 rfl rfl 8 (by decide) (hg _ t_315) (fun _ h9 => h9) rfl d_X_onlyNumber_17 ?_
    refine lv_iconst (v := 1) hx hb d_X_onlyNumber_20 (by decide) ?_
    refine gc_i (wn := fun (_ : Unit) => [oX a_p0 A_p0, oEn (A_p0 8) I_p0_entry_10 L_p0_entry_10, oSt (A_p0 0) A_p0_file I_p0_file, gz cI (A_p0_file 0) 900 f_p0_file_bytes]) (wr := [oX a_p0 A_p0, oSt (A_p0 0) A_p0_file I_p0_file, gz cI (A_p0_file 0) 900 f_p0_file_bytes]) (gr_V (As := [.int 1]) (rest := []) ⟨hx, hb, hml, hown, hg⟩ (c_En_isNumbers l dC dI cI (A_p0 8) I_p0_entry_10 L_p0_entry_10 1 hw _) (cwV 1 hg (gg_V t_678 t_679 t_680 t_69 t_681) rfl rfl rfl (by decide +kernel) ⟨Nat.le_of_ble_eq_true rfl, Nat.le_of_ble_eq_true rfl⟩) hK hN hP hD [1] (by decide) rfl 1 1 rfl rfl rfl rfl hl.1 rfl (Nat.le_of_ble_eq_true rfl) d_X_onlyNumber_21 ⟨Nat.le_of_ble_eq_true rfl, Nat.le_of_ble_eq_true rfl⟩) rfl rfl hP hD hS hA [1] [0, 2, 3] [0, 3, 1, 2] rfl rfl (by decide) (by decide) (by decide) (fun _ => rfl) ?_
    intro r21 _ H locs hw hP hD hS
    try dsimp only at hw
    have hP : va_P (dC, dI) vwCl [oX a_p0 A_p0, oEn (A_p0 8) I_p0_entry_10 L_p0_entry_10, oSt (A_p0 0) A_p0_file I_p0_file, gz cI (A_p0_file 0) 900 f_p0_file_bytes] H := hP
    have hD : va_D A [oX a_p0 A_p0, oEn (A_p0 8) I_p0_entry_10 L_p0_entry_10, oSt (A_p0 0) A_p0_file I_p0_file, gz cI (A_p0_file 0) 900 f_p0_file_bytes] := hD
    refine lv_if_ne hx hb d_X_onlyNumber_24 rfl (fun hc => ?_) (fun hc => ?_)
    · have hw := hw.2 hc
      refine lv_aload_n hx hb d_X_onlyNumber_31 rfl (lv_at hl 0 rfl) ?_
      refine va_get (D := (dC, dI)) (ci := 9) (v := .ref (A_p0 8)) (C := R_X) (T := T_X) (N := 14) hx hb hg in_X hown hK hP 0 rfl rfl 8 (by decide) (hg _ t_315) (fun _ h9 => h9) rfl d_X_onlyNumber_32 ?_
      refine lv_aload_n hx hb d_X_onlyNumber_35 rfl (lv_at hl 0 rfl) ?_
      refine va_get (D := (dC, dI)) (ci := 9) (v := .ref (A_p0 0)) (C := R_X) (T := T_X) (N := 14) hx hb hg in_X hown hK hP 0 rfl rfl 0 (by decide) (hg _ t_307) (fun _ h9 => h9) rfl d_X_onlyNumber_36 ?_
      refine lv_iconst (v := 0) hx hb d_X_onlyNumber_39 (by decide) ?_
      refine gc_l (wn := fun (_ : Unit) => [oX a_p0 A_p0, oEn (A_p0 8) I_p0_entry_10 L_p0_entry_10, oSt (A_p0 0) A_p0_file I_p0_file, gz cI (A_p0_file 0) 900 f_p0_file_bytes]) (wr := [oX a_p0 A_p0]) (gr_V (As := [.ref (A_p0 0), .int 0]) (rest := []) ⟨hx, hb, hml, hown, hg⟩ (c_En_value l dC dI cI (A_p0 8) (A_p0 0) A_p0_file I_p0_entry_10 L_p0_entry_10 I_p0_file f_p0_file_bytes 0 hw _) (cwV 2 hg (gg_V t_683 t_684 t_685 t_69 t_686) rfl rfl rfl (by decide +kernel) ⟨Nat.le_of_ble_eq_true rfl, Nat.le_of_ble_eq_true rfl⟩) hK hN hP hD [1, 2, 3] (by decide) rfl 1 1 rfl rfl rfl rfl hl.1 rfl (Nat.le_of_ble_eq_true rfl) d_X_onlyNumber_40 ⟨Nat.le_of_ble_eq_true rfl, Nat.le_of_ble_eq_true rfl⟩) rfl rfl hP hD hS hA [1, 2, 3] [0] [0, 1, 2, 3] rfl rfl (by decide) (by decide) (by decide) (fun _ => rfl) ?_
      intro r40 _ H locs hw hP hD hS
      try dsimp only at hw
      have hP : va_P (dC, dI) vwCl [oX a_p0 A_p0, oEn (A_p0 8) I_p0_entry_10 L_p0_entry_10, oSt (A_p0 0) A_p0_file I_p0_file, gz cI (A_p0_file 0) 900 f_p0_file_bytes] H := hP
      have hD : va_D A [oX a_p0 A_p0, oEn (A_p0 8) I_p0_entry_10 L_p0_entry_10, oSt (A_p0 0) A_p0_file I_p0_file, gz cI (A_p0_file 0) 900 f_p0_file_bytes] := hD
      exact hret _ _ _ _ _ (I_p0_entry_10, L_p0_entry_10) d_X_onlyNumber_43 hP hD hS hw
    · have hw := hw.1 hc
      refine lv_ldc2 (v := (-1)) hx hb hown (hg _ t_682) d_X_onlyNumber_27 ?_
      exact hret _ _ _ _ _ (I_p0_entry_10, L_p0_entry_10) d_X_onlyNumber_30 hP hD hS hw
theorem d_Ly_become_0 : decode b_Ly_become 0 = .ok (.aload_n 0, 1) := by decide +kernel
theorem d_Ly_become_1 : decode b_Ly_become 1 = .ok (.iload_n 1, 1) := by decide +kernel
theorem d_Ly_become_2 : decode b_Ly_become 2 = .ok (.putfield 9, 3) := by decide +kernel
theorem d_Ly_become_5 : decode b_Ly_become 5 = .ok (.aload_n 0, 1) := by decide +kernel
theorem d_Ly_become_6 : decode b_Ly_become 6 = .ok (.iload_n 2, 1) := by decide +kernel
theorem d_Ly_become_7 : decode b_Ly_become 7 = .ok (.putfield 15, 3) := by decide +kernel
theorem d_Ly_become_10 : decode b_Ly_become 10 = .ok (.aload_n 0, 1) := by decide +kernel
theorem d_Ly_become_11 : decode b_Ly_become 11 = .ok (.iload_n 3, 1) := by decide +kernel
theorem d_Ly_become_12 : decode b_Ly_become 12 = .ok (.putfield 18, 3) := by decide +kernel
theorem d_Ly_become_15 : decode b_Ly_become 15 = .ok (.return_, 1) := by decide +kernel
def wp_Ly_become (post : (Nat → Int32) → Prop) (I_p0 : Nat → Int32) (x1 : Int32) (x2 : Int32) (x3 : Int32) : Prop :=
  post (upd (upd (upd I_p0 0 x1) 1 x2) 2 x3)
set_option maxRecDepth 100000 in
set_option maxHeartbeats 4000000 in
theorem c_Ly_become (l : Launch) (dC : Nat → ClassId) (dI : Nat → Nat → Nat) (cI : ClassId) (a_p0 : Nat) (I_p0 : Nat → Int32) (x1 : Int32) (x2 : Int32) (x3 : Int32) {post : (Nat → Int32) → Prop} (hw : wp_Ly_become post I_p0 x1 x2 x3) : gm_v l y_Ly_become ws_Ly_become ({ frames := 0, cells := 0, slots := 0, locals := 0 } : Room) (dC, dI) vwCl [(cI, .int)] [.ref a_p0, .int x1, .int x2, .int x3] [oLy a_p0 I_p0] (fun (u : (Nat → Int32)) => [oLy a_p0 u]) (fun (u : (Nat → Int32)) => post  u) := by
  refine gm_vof (cc := b_Ly_become) (maxL := 4) (by decide) rfl (Nat.le_of_ble_eq_true rfl) ?_
  intro p e s m args below meth c A Q hx hb hml hown hg hK hN hA hnm hret
  have hown : s.vm.findClass R_Ly = some m.cls := hown
  intro ls hl hP hD hS
  have hl : lv_has ls 4 [(0, .ref a_p0), (1, .int x1), (2, .int x2), (3, .int x3)] := hl
  unfold wp_Ly_become at hw
  refine lv_aload_n hx hb d_Ly_become_0 rfl (lv_at hl 0 rfl) ?_
  refine lv_iload_n hx hb d_Ly_become_1 rfl (lv_at hl 1 rfl) ?_
  refine va_put (D := (dC, dI)) (ci := 3) (v := .int x1) (ty := .int) (C := R_Ly) (T := T_Ly) (N := 6) hx hb hg in_Ly t_Ly tok_Ly nok_Ly hown hK hP hD hS 0 rfl rfl 0 (by decide) (hg _ t_178) (fun _ h9 => h9) rfl (by decide +kernel) rfl rfl (Nat.le_of_ble_eq_true rfl) d_Ly_become_2 (fun H locs hP hD hS => ?_)
  have hP : va_P (dC, dI) vwCl [oLy a_p0 (upd I_p0 0 x1)] H := hP
  have hD : va_D A [oLy a_p0 (upd I_p0 0 x1)] := hD
  refine lv_aload_n hx hb d_Ly_become_5 rfl (lv_at hl 0 rfl) ?_
  refine lv_iload_n hx hb d_Ly_become_6 rfl (lv_at hl 2 rfl) ?_
  refine va_put (D := (dC, dI)) (ci := 3) (v := .int x2) (ty := .int) (C := R_Ly) (T := T_Ly) (N := 6) hx hb hg in_Ly t_Ly tok_Ly nok_Ly hown hK hP hD hS 0 rfl rfl 1 (by decide) (hg _ t_181) (fun _ h9 => h9) rfl (by decide +kernel) rfl rfl (Nat.le_of_ble_eq_true rfl) d_Ly_become_7 (fun H locs hP hD hS => ?_)
  have hP : va_P (dC, dI) vwCl [oLy a_p0 (upd (upd I_p0 0 x1) 1 x2)] H := hP
  have hD : va_D A [oLy a_p0 (upd (upd I_p0 0 x1) 1 x2)] := hD
  refine lv_aload_n hx hb d_Ly_become_10 rfl (lv_at hl 0 rfl) ?_
  refine lv_iload_n hx hb d_Ly_become_11 rfl (lv_at hl 3 rfl) ?_
  refine va_put (D := (dC, dI)) (ci := 3) (v := .int x3) (ty := .int) (C := R_Ly) (T := T_Ly) (N := 6) hx hb hg in_Ly t_Ly tok_Ly nok_Ly hown hK hP hD hS 0 rfl rfl 2 (by decide) (hg _ t_184) (fun _ h9 => h9) rfl (by decide +kernel) rfl rfl (Nat.le_of_ble_eq_true rfl) d_Ly_become_12 (fun H locs hP hD hS => ?_)
  have hP : va_P (dC, dI) vwCl [oLy a_p0 (upd (upd (upd I_p0 0 x1) 1 x2) 2 x3)] H := hP
  have hD : va_D A [oLy a_p0 (upd (upd (upd I_p0 0 x1) 1 x2) 2 x3)] := hD
  exact hret _ _ _ _ (upd (upd (upd I_p0 0 x1) 1 x2) 2 x3) d_Ly_become_15 hP hD hS hw
theorem d_Ly_choose_0 : decode b_Ly_choose 0 = .ok (.aload_n 0, 1) := by decide +kernel
theorem d_Ly_choose_1 : decode b_Ly_choose 1 = .ok (.iload_n 1, 1) := by decide +kernel
theorem d_Ly_choose_2 : decode b_Ly_choose 2 = .ok (.putfield 21, 3) := by decide +kernel
theorem d_Ly_choose_5 : decode b_Ly_choose 5 = .ok (.aload_n 0, 1) := by decide +kernel
theorem d_Ly_choose_6 : decode b_Ly_choose 6 = .ok (.iconst 1, 1) := by decide +kernel
theorem d_Ly_choose_7 : decode b_Ly_choose 7 = .ok (.iload_n 2, 1) := by decide +kernel
theorem d_Ly_choose_8 : decode b_Ly_choose 8 = .ok (.invokestatic 30, 3) := by decide +kernel
theorem d_Ly_choose_11 : decode b_Ly_choose 11 = .ok (.putfield 24, 3) := by decide +kernel
theorem d_Ly_choose_14 : decode b_Ly_choose 14 = .ok (.aload_n 0, 1) := by decide +kernel
theorem d_Ly_choose_15 : decode b_Ly_choose 15 = .ok (.iload_n 3, 1) := by decide +kernel
theorem d_Ly_choose_16 : decode b_Ly_choose 16 = .ok (.putfield 27, 3) := by decide +kernel
theorem d_Ly_choose_19 : decode b_Ly_choose 19 = .ok (.return_, 1) := by decide +kernel
def wp_Ly_choose (post : (Nat → Int32) → Prop) (I_p0 : Nat → Int32) (x1 : Int32) (x2 : Int32) (x3 : Int32) : Prop :=
  post (upd (upd (upd I_p0 3 x1) 4 (if 1 < x2 then x2 else 1)) 5 x3)
set_option maxRecDepth 100000 in
set_option maxHeartbeats 4000000 in
theorem c_Ly_choose (l : Launch) (dC : Nat → ClassId) (dI : Nat → Nat → Nat) (cI : ClassId) (a_p0 : Nat) (I_p0 : Nat → Int32) (x1 : Int32) (x2 : Int32) (x3 : Int32) {post : (Nat → Int32) → Prop} (hw : wp_Ly_choose post I_p0 x1 x2 x3) : gm_v l y_Ly_choose ws_Ly_choose ({ frames := 1, cells := 0, slots := 0, locals := 21 } : Room) (dC, dI) vwCl [(cI, .int)] [.ref a_p0, .int x1, .int x2, .int x3] [oLy a_p0 I_p0] (fun (u : (Nat → Int32)) => [oLy a_p0 u]) (fun (u : (Nat → Int32)) => post  u) := by
  refine gm_vof (cc := b_Ly_choose) (maxL := 4) (by decide) rfl (Nat.le_of_ble_eq_true rfl) ?_
  intro p e s m args below meth c A Q hx hb hml hown hg hK hN hA hnm hret
  have hown : s.vm.findClass R_Ly = some m.cls := hown
  intro ls hl hP hD hS
  have hl : lv_has ls 4 [(0, .ref a_p0), (1, .int x1), (2, .int x2), (3, .int x3)] := hl
  unfold wp_Ly_choose at hw
  refine lv_aload_n hx hb d_Ly_choose_0 rfl (lv_at hl 0 rfl) ?_
  refine lv_iload_n hx hb d_Ly_choose_1 rfl (lv_at hl 1 rfl) ?_
  refine va_put (D := (dC, dI)) (ci := 3) (v := .int x1) (ty := .int) (C := R_Ly) (T := T_Ly) (N := 6) hx hb hg in_Ly t_Ly tok_Ly nok_Ly hown hK hP hD hS 0 rfl rfl 3 (by decide) (hg _ t_187) (fun _ h9 => h9) rfl (by decide +kernel) rfl rfl (Nat.le_of_ble_eq_true rfl) d_Ly_choose_2 (fun H locs hP hD hS => ?_)
  have hP : va_P (dC, dI) vwCl [oLy a_p0 (upd I_p0 3 x1)] H := hP
  have hD : va_D A [oLy a_p0 (upd I_p0 3 x1)] := hD
  refine lv_aload_n hx hb d_Ly_choose_5 rfl (lv_at hl 0 rfl) ?_
  refine lv_iconst (v := 1) hx hb d_Ly_choose_6 (by decide) ?_
  refine lv_iload_n hx hb d_Ly_choose_7 rfl (lv_at hl 2 rfl) ?_
  refine va_mmax hx hb (hml.trans hl.1.symm) hown (hg _ t_485) (hg _ t_486) (hg _ t_72) (hg _ t_487) (Nat.le_of_ble_eq_true rfl) (Nat.le_of_ble_eq_true rfl) (Nat.le_of_ble_eq_true rfl) (Nat.le_of_ble_eq_true rfl) d_Ly_choose_8 ?_
  refine va_put (D := (dC, dI)) (ci := 3) (v := .int (if 1 < x2 then x2 else 1)) (ty := .int) (C := R_Ly) (T := T_Ly) (N := 6) hx hb hg in_Ly t_Ly tok_Ly nok_Ly hown hK hP hD hS 0 rfl rfl 4 (by decide) (hg _ t_189) (fun _ h9 => h9) rfl (by decide +kernel) rfl rfl (Nat.le_of_ble_eq_true rfl) d_Ly_choose_11 (fun H locs hP hD hS => ?_)
  have hP : va_P (dC, dI) vwCl [oLy a_p0 (upd (upd I_p0 3 x1) 4 (if 1 < x2 then x2 else 1))] H := hP
  have hD : va_D A [oLy a_p0 (upd (upd I_p0 3 x1) 4 (if 1 < x2 then x2 else 1))] := hD
  refine lv_aload_n hx hb d_Ly_choose_14 rfl (lv_at hl 0 rfl) ?_
  refine lv_iload_n hx hb d_Ly_choose_15 rfl (lv_at hl 3 rfl) ?_
  refine va_put (D := (dC, dI)) (ci := 3) (v := .int x3) (ty := .int) (C := R_Ly) (T := T_Ly) (N := 6) hx hb hg in_Ly t_Ly tok_Ly nok_Ly hown hK hP hD hS 0 rfl rfl 5 (by decide) (hg _ t_191) (fun _ h9 => h9) rfl (by decide +kernel) rfl rfl (Nat.le_of_ble_eq_true rfl) d_Ly_choose_16 (fun H locs hP hD hS => ?_)
  have hP : va_P (dC, dI) vwCl [oLy a_p0 (upd (upd (upd I_p0 3 x1) 4 (if 1 < x2 then x2 else 1)) 5 x3)] H := hP
  have hD : va_D A [oLy a_p0 (upd (upd (upd I_p0 3 x1) 4 (if 1 < x2 then x2 else 1)) 5 x3)] := hD
  exact hret _ _ _ _ (upd (upd (upd I_p0 3 x1) 4 (if 1 < x2 then x2 else 1)) 5 x3) d_Ly_choose_19 hP hD hS hw
theorem d_X_readLayout_0 : decode b_X_readLayout 0 = .ok (.aload_n 0, 1) := by decide +kernel
theorem d_X_readLayout_1 : decode b_X_readLayout 1 = .ok (.iload_n 1, 1) := by decide +kernel
theorem d_X_readLayout_2 : decode b_X_readLayout 2 = .ok (.invokevirtual 327, 3) := by decide +kernel
theorem d_X_readLayout_5 : decode b_X_readLayout 5 = .ok (.ifCond .ne 5, 3) := by decide +kernel
theorem d_X_readLayout_8 : decode b_X_readLayout 8 = .ok (.iconst 0, 1) := by decide +kernel
theorem d_X_readLayout_9 : decode b_X_readLayout 9 = .ok (.ireturn, 1) := by decide +kernel
theorem d_X_readLayout_10 : decode b_X_readLayout 10 = .ok (.aload_n 0, 1) := by decide +kernel
theorem d_X_readLayout_11 : decode b_X_readLayout 11 = .ok (.iload_n 1, 1) := by decide +kernel
theorem d_X_readLayout_12 : decode b_X_readLayout 12 = .ok (.sipush 256, 3) := by decide +kernel
theorem d_X_readLayout_15 : decode b_X_readLayout 15 = .ok (.invokevirtual 330, 3) := by decide +kernel
theorem d_X_readLayout_18 : decode b_X_readLayout 18 = .ok (.lstore_n 2, 1) := by decide +kernel
theorem d_X_readLayout_19 : decode b_X_readLayout 19 = .ok (.aload_n 0, 1) := by decide +kernel
theorem d_X_readLayout_20 : decode b_X_readLayout 20 = .ok (.iload_n 1, 1) := by decide +kernel
theorem d_X_readLayout_21 : decode b_X_readLayout 21 = .ok (.sipush 257, 3) := by decide +kernel
theorem d_X_readLayout_24 : decode b_X_readLayout 24 = .ok (.invokevirtual 330, 3) := by decide +kernel
theorem d_X_readLayout_27 : decode b_X_readLayout 27 = .ok (.lstore 4, 2) := by decide +kernel
theorem d_X_readLayout_29 : decode b_X_readLayout 29 = .ok (.aload_n 0, 1) := by decide +kernel
theorem d_X_readLayout_30 : decode b_X_readLayout 30 = .ok (.iload_n 1, 1) := by decide +kernel
theorem d_X_readLayout_31 : decode b_X_readLayout 31 = .ok (.sipush 258, 3) := by decide +kernel
theorem d_X_readLayout_34 : decode b_X_readLayout 34 = .ok (.invokevirtual 330, 3) := by decide +kernel
theorem d_X_readLayout_37 : decode b_X_readLayout 37 = .ok (.lstore 6, 2) := by decide +kernel
theorem d_X_readLayout_39 : decode b_X_readLayout 39 = .ok (.lload_n 2, 1) := by decide +kernel
theorem d_X_readLayout_40 : decode b_X_readLayout 40 = .ok (.invokestatic 107, 3) := by decide +kernel
theorem d_X_readLayout_43 : decode b_X_readLayout 43 = .ok (.ifCond .eq 19, 3) := by decide +kernel
theorem d_X_readLayout_46 : decode b_X_readLayout 46 = .ok (.lload 4, 2) := by decide +kernel
theorem d_X_readLayout_48 : decode b_X_readLayout 48 = .ok (.invokestatic 107, 3) := by decide +kernel
theorem d_X_readLayout_51 : decode b_X_readLayout 51 = .ok (.ifCond .eq 11, 3) := by decide +kernel
theorem d_X_readLayout_54 : decode b_X_readLayout 54 = .ok (.lload 6, 2) := by decide +kernel
theorem d_X_readLayout_56 : decode b_X_readLayout 56 = .ok (.invokestatic 111, 3) := by decide +kernel
theorem d_X_readLayout_59 : decode b_X_readLayout 59 = .ok (.ifCond .ne 5, 3) := by decide +kernel
theorem d_X_readLayout_62 : decode b_X_readLayout 62 = .ok (.iconst 0, 1) := by decide +kernel
theorem d_X_readLayout_63 : decode b_X_readLayout 63 = .ok (.ireturn, 1) := by decide +kernel
theorem d_X_readLayout_64 : decode b_X_readLayout 64 = .ok (.aload_n 0, 1) := by decide +kernel
theorem d_X_readLayout_65 : decode b_X_readLayout 65 = .ok (.iload_n 1, 1) := by decide +kernel
theorem d_X_readLayout_66 : decode b_X_readLayout 66 = .ok (.sipush 259, 3) := by decide +kernel
theorem d_X_readLayout_69 : decode b_X_readLayout 69 = .ok (.invokevirtual 330, 3) := by decide +kernel
theorem d_X_readLayout_72 : decode b_X_readLayout 72 = .ok (.lstore 8, 2) := by decide +kernel
theorem d_X_readLayout_74 : decode b_X_readLayout 74 = .ok (.lload 4, 2) := by decide +kernel
theorem d_X_readLayout_76 : decode b_X_readLayout 76 = .ok (.aload_n 0, 1) := by decide +kernel
theorem d_X_readLayout_77 : decode b_X_readLayout 77 = .ok (.iload_n 1, 1) := by decide +kernel
theorem d_X_readLayout_78 : decode b_X_readLayout 78 = .ok (.sipush 278, 3) := by decide +kernel
theorem d_X_readLayout_81 : decode b_X_readLayout 81 = .ok (.invokevirtual 330, 3) := by decide +kernel
theorem d_X_readLayout_84 : decode b_X_readLayout 84 = .ok (.invokestatic 334, 3) := by decide +kernel
theorem d_X_readLayout_87 : decode b_X_readLayout 87 = .ok (.lstore 10, 2) := by decide +kernel
theorem d_X_readLayout_89 : decode b_X_readLayout 89 = .ok (.lconst 1, 1) := by decide +kernel
theorem d_X_readLayout_90 : decode b_X_readLayout 90 = .ok (.lstore 12, 2) := by decide +kernel
theorem d_X_readLayout_92 : decode b_X_readLayout 92 = .ok (.aload_n 0, 1) := by decide +kernel
theorem d_X_readLayout_93 : decode b_X_readLayout 93 = .ok (.getfield 68, 3) := by decide +kernel
theorem d_X_readLayout_96 : decode b_X_readLayout 96 = .ok (.aload_n 0, 1) := by decide +kernel
theorem d_X_readLayout_97 : decode b_X_readLayout 97 = .ok (.getfield 10, 3) := by decide +kernel
theorem d_X_readLayout_100 : decode b_X_readLayout 100 = .ok (.iload_n 1, 1) := by decide +kernel
theorem d_X_readLayout_101 : decode b_X_readLayout 101 = .ok (.sipush 317, 3) := by decide +kernel
theorem d_X_readLayout_104 : decode b_X_readLayout 104 = .ok (.invokevirtual 320, 3) := by decide +kernel
theorem d_X_readLayout_107 : decode b_X_readLayout 107 = .ok (.ifCond .eq 13, 3) := by decide +kernel
theorem d_X_readLayout_110 : decode b_X_readLayout 110 = .ok (.aload_n 0, 1) := by decide +kernel
theorem d_X_readLayout_111 : decode b_X_readLayout 111 = .ok (.iload_n 1, 1) := by decide +kernel
theorem d_X_readLayout_112 : decode b_X_readLayout 112 = .ok (.sipush 317, 3) := by decide +kernel
theorem d_X_readLayout_115 : decode b_X_readLayout 115 = .ok (.invokevirtual 330, 3) := by decide +kernel
theorem d_X_readLayout_118 : decode b_X_readLayout 118 = .ok (.lstore 12, 2) := by decide +kernel
theorem d_X_readLayout_120 : decode b_X_readLayout 120 = .ok (.lload 8, 2) := by decide +kernel
theorem d_X_readLayout_122 : decode b_X_readLayout 122 = .ok (.invokestatic 147, 3) := by decide +kernel
theorem d_X_readLayout_125 : decode b_X_readLayout 125 = .ok (.ifCond .eq 18, 3) := by decide +kernel
theorem d_X_readLayout_128 : decode b_X_readLayout 128 = .ok (.lload 10, 2) := by decide +kernel
theorem d_X_readLayout_130 : decode b_X_readLayout 130 = .ok (.lconst 1, 1) := by decide +kernel
theorem d_X_readLayout_131 : decode b_X_readLayout 131 = .ok (.lcmp, 1) := by decide +kernel
theorem d_X_readLayout_132 : decode b_X_readLayout 132 = .ok (.ifCond .lt 11, 3) := by decide +kernel
theorem d_X_readLayout_135 : decode b_X_readLayout 135 = .ok (.lload 12, 2) := by decide +kernel
theorem d_X_readLayout_137 : decode b_X_readLayout 137 = .ok (.invokestatic 150, 3) := by decide +kernel
theorem d_X_readLayout_140 : decode b_X_readLayout 140 = .ok (.ifCond .ne 5, 3) := by decide +kernel
theorem d_X_readLayout_143 : decode b_X_readLayout 143 = .ok (.iconst 0, 1) := by decide +kernel
theorem d_X_readLayout_144 : decode b_X_readLayout 144 = .ok (.ireturn, 1) := by decide +kernel
theorem d_X_readLayout_145 : decode b_X_readLayout 145 = .ok (.aload_n 0, 1) := by decide +kernel
theorem d_X_readLayout_146 : decode b_X_readLayout 146 = .ok (.getfield 40, 3) := by decide +kernel
theorem d_X_readLayout_149 : decode b_X_readLayout 149 = .ok (.lload_n 2, 1) := by decide +kernel
theorem d_X_readLayout_150 : decode b_X_readLayout 150 = .ok (.l2i, 1) := by decide +kernel
theorem d_X_readLayout_151 : decode b_X_readLayout 151 = .ok (.lload 4, 2) := by decide +kernel
theorem d_X_readLayout_153 : decode b_X_readLayout 153 = .ok (.l2i, 1) := by decide +kernel
theorem d_X_readLayout_154 : decode b_X_readLayout 154 = .ok (.lload 6, 2) := by decide +kernel
theorem d_X_readLayout_156 : decode b_X_readLayout 156 = .ok (.l2i, 1) := by decide +kernel
theorem d_X_readLayout_157 : decode b_X_readLayout 157 = .ok (.invokevirtual 164, 3) := by decide +kernel
theorem d_X_readLayout_160 : decode b_X_readLayout 160 = .ok (.aload_n 0, 1) := by decide +kernel
theorem d_X_readLayout_161 : decode b_X_readLayout 161 = .ok (.getfield 40, 3) := by decide +kernel
theorem d_X_readLayout_164 : decode b_X_readLayout 164 = .ok (.lload 8, 2) := by decide +kernel
theorem d_X_readLayout_166 : decode b_X_readLayout 166 = .ok (.l2i, 1) := by decide +kernel
theorem d_X_readLayout_167 : decode b_X_readLayout 167 = .ok (.lload 10, 2) := by decide +kernel
theorem d_X_readLayout_169 : decode b_X_readLayout 169 = .ok (.l2i, 1) := by decide +kernel
theorem d_X_readLayout_170 : decode b_X_readLayout 170 = .ok (.lload 12, 2) := by decide +kernel
theorem d_X_readLayout_172 : decode b_X_readLayout 172 = .ok (.l2i, 1) := by decide +kernel
theorem d_X_readLayout_173 : decode b_X_readLayout 173 = .ok (.invokevirtual 165, 3) := by decide +kernel
theorem d_X_readLayout_176 : decode b_X_readLayout 176 = .ok (.aload_n 0, 1) := by decide +kernel
theorem d_X_readLayout_177 : decode b_X_readLayout 177 = .ok (.aload_n 0, 1) := by decide +kernel
theorem d_X_readLayout_178 : decode b_X_readLayout 178 = .ok (.getfield 72, 3) := by decide +kernel
theorem d_X_readLayout_181 : decode b_X_readLayout 181 = .ok (.iload_n 1, 1) := by decide +kernel
theorem d_X_readLayout_182 : decode b_X_readLayout 182 = .ok (.sipush 273, 3) := by decide +kernel
theorem d_X_readLayout_185 : decode b_X_readLayout 185 = .ok (.invokevirtual 340, 3) := by decide +kernel
theorem d_X_readLayout_188 : decode b_X_readLayout 188 = .ok (.ifCond .eq 22, 3) := by decide +kernel
theorem d_X_readLayout_191 : decode b_X_readLayout 191 = .ok (.aload_n 0, 1) := by decide +kernel
theorem d_X_readLayout_192 : decode b_X_readLayout 192 = .ok (.aload_n 0, 1) := by decide +kernel
theorem d_X_readLayout_193 : decode b_X_readLayout 193 = .ok (.getfield 75, 3) := by decide +kernel
theorem d_X_readLayout_196 : decode b_X_readLayout 196 = .ok (.iload_n 1, 1) := by decide +kernel
theorem d_X_readLayout_197 : decode b_X_readLayout 197 = .ok (.sipush 279, 3) := by decide +kernel
theorem d_X_readLayout_200 : decode b_X_readLayout 200 = .ok (.invokevirtual 340, 3) := by decide +kernel
theorem d_X_readLayout_203 : decode b_X_readLayout 203 = .ok (.ifCond .eq 7, 3) := by decide +kernel
theorem d_X_readLayout_206 : decode b_X_readLayout 206 = .ok (.iconst 1, 1) := by decide +kernel
theorem d_X_readLayout_207 : decode b_X_readLayout 207 = .ok (.goto 4, 3) := by decide +kernel
theorem d_X_readLayout_210 : decode b_X_readLayout 210 = .ok (.iconst 0, 1) := by decide +kernel
theorem d_X_readLayout_211 : decode b_X_readLayout 211 = .ok (.ireturn, 1) := by decide +kernel
def wp_X_readLayout_b210 (post : Int32 → (Nat → Int32) → (Nat → Int64) → (Nat → Int32) → (Nat → Int32) → (Nat → Int64) → (Nat → Int32) → (Nat → Int64) → Prop) (I_p0_file : Nat → Int32) (f_p0_file_bytes : Nat → Int32) (I_p0_entry : Nat → Int32) (L_p0_entry : Nat → Int64) (I_p0_layout : Nat → Int32) (I_p0_stripLengths : Nat → Int32) (L_p0_stripLengths : Nat → Int64) (I_p0_stripPlaces : Nat → Int32) (L_p0_stripPlaces : Nat → Int64) : Prop :=
  post 0 I_p0_entry L_p0_entry I_p0_layout I_p0_stripLengths L_p0_stripLengths I_p0_stripPlaces L_p0_stripPlaces
def wp_X_readLayout_b120 (post : Int32 → (Nat → Int32) → (Nat → Int64) → (Nat → Int32) → (Nat → Int32) → (Nat → Int64) → (Nat → Int32) → (Nat → Int64) → Prop) (I_p0_file : Nat → Int32) (f_p0_file_bytes : Nat → Int32) (I_p0_entry : Nat → Int32) (L_p0_entry : Nat → Int64) (I_p0_layout : Nat → Int32) (I_p0_stripLengths : Nat → Int32) (L_p0_stripLengths : Nat → Int64) (I_p0_stripPlaces : Nat → Int32) (L_p0_stripPlaces : Nat → Int64) (x1 : Int32) (x2 : Int64) (x4 : Int64) (x6 : Int64) (x8 : Int64) (x10 : Int64) (x12 : Int64) : Prop :=
  wp_X_isCompression (fun (r122 : Int32) =>
    ((r122 = 0 →
      post 0 I_p0_entry L_p0_entry I_p0_layout I_p0_stripLengths L_p0_stripLengths I_p0_stripPlaces L_p0_stripPlaces) ∧
     (¬ r122 = 0 →
      ((x10 < 1 →
        post 0 I_p0_entry L_p0_entry I_p0_layout I_p0_stripLengths L_p0_stripLengths I_p0_stripPlaces L_p0_stripPlaces) ∧
       (¬ x10 < 1 →
        wp_X_isPredictor (fun (r137 : Int32) =>
          ((r137 = 0 →
            post 0 I_p0_entry L_p0_entry I_p0_layout I_p0_stripLengths L_p0_stripLengths I_p0_stripPlaces L_p0_stripPlaces) ∧
           (¬ r137 = 0 →
            wp_Ly_become (fun (I_p0_layout_157 : Nat → Int32) =>
              wp_Ly_choose (fun (I_p0_layout_173 : Nat → Int32) =>
                wp_X_findStripNumbers (fun (r185 : Int32) (I_p0_stripPlaces_185 : Nat → Int32) (L_p0_stripPlaces_185 : Nat → Int64) =>
                  ((r185 = 0 →
                    wp_X_readLayout_b210 post I_p0_file f_p0_file_bytes I_p0_entry L_p0_entry I_p0_layout_173 I_p0_stripLengths L_p0_stripLengths I_p0_stripPlaces_185 L_p0_stripPlaces_185) ∧
                   (¬ r185 = 0 →
                    wp_X_findStripNumbers (fun (r200 : Int32) (I_p0_stripLengths_200 : Nat → Int32) (L_p0_stripLengths_200 : Nat → Int64) =>
                      ((r200 = 0 →
                        wp_X_readLayout_b210 post I_p0_file f_p0_file_bytes I_p0_entry L_p0_entry I_p0_layout_173 I_p0_stripLengths_200 L_p0_stripLengths_200 I_p0_stripPlaces_185 L_p0_stripPlaces_185) ∧
                       (¬ r200 = 0 →
                        post 1 I_p0_entry L_p0_entry I_p0_layout_173 I_p0_stripLengths_200 L_p0_stripLengths_200 I_p0_stripPlaces_185 L_p0_stripPlaces_185))) I_p0_file f_p0_file_bytes I_p0_layout_173 I_p0_stripLengths L_p0_stripLengths x1 279))) I_p0_file f_p0_file_bytes I_p0_layout_173 I_p0_stripPlaces L_p0_stripPlaces x1 273) I_p0_layout_157 x8.toInt32 x10.toInt32 x12.toInt32) I_p0_layout x2.toInt32 x4.toInt32 x6.toInt32))) x12))))) x8
def wp_X_readLayout (post : Int32 → (Nat → Int32) → (Nat → Int64) → (Nat → Int32) → (Nat → Int32) → (Nat → Int64) → (Nat → Int32) → (Nat → Int64) → Prop) (I_p0_file : Nat → Int32) (f_p0_file_bytes : Nat → Int32) (I_p0_entry : Nat → Int32) (L_p0_entry : Nat → Int64) (I_p0_layout : Nat → Int32) (I_p0_stripLengths : Nat → Int32) (L_p0_stripLengths : Nat → Int64) (I_p0_stripPlaces : Nat → Int32) (L_p0_stripPlaces : Nat → Int64) (x1 : Int32) : Prop :=
  wp_X_tagsGoUp (fun (r2 : Int32) =>
    ((r2 = 0 →
      post 0 I_p0_entry L_p0_entry I_p0_layout I_p0_stripLengths L_p0_stripLengths I_p0_stripPlaces L_p0_stripPlaces) ∧
     (¬ r2 = 0 →
      wp_X_onlyNumber (fun (r15 : Int64) (I_p0_entry_15 : Nat → Int32) (L_p0_entry_15 : Nat → Int64) =>
        wp_X_onlyNumber (fun (r24 : Int64) (I_p0_entry_24 : Nat → Int32) (L_p0_entry_24 : Nat → Int64) =>
          wp_X_onlyNumber (fun (r34 : Int64) (I_p0_entry_34 : Nat → Int32) (L_p0_entry_34 : Nat → Int64) =>
            wp_X_isSide (fun (r40 : Int32) =>
              ((r40 = 0 →
                post 0 I_p0_entry_34 L_p0_entry_34 I_p0_layout I_p0_stripLengths L_p0_stripLengths I_p0_stripPlaces L_p0_stripPlaces) ∧
               (¬ r40 = 0 →
                wp_X_isSide (fun (r48 : Int32) =>
                  ((r48 = 0 →
                    post 0 I_p0_entry_34 L_p0_entry_34 I_p0_layout I_p0_stripLengths L_p0_stripLengths I_p0_stripPlaces L_p0_stripPlaces) ∧
                   (¬ r48 = 0 →
                    wp_X_isDepth (fun (r56 : Int32) =>
                      ((r56 = 0 →
                        post 0 I_p0_entry_34 L_p0_entry_34 I_p0_layout I_p0_stripLengths L_p0_stripLengths I_p0_stripPlaces L_p0_stripPlaces) ∧
                       (¬ r56 = 0 →
                        wp_X_onlyNumber (fun (r69 : Int64) (I_p0_entry_69 : Nat → Int32) (L_p0_entry_69 : Nat → Int64) =>
                          wp_X_onlyNumber (fun (r81 : Int64) (I_p0_entry_81 : Nat → Int32) (L_p0_entry_81 : Nat → Int64) =>
                            wp_En_find (fun (r104 : Int32) (I_p0_entry_104 : Nat → Int32) (L_p0_entry_104 : Nat → Int64) =>
                              ((r104 = 0 →
                                wp_X_readLayout_b120 post I_p0_file f_p0_file_bytes I_p0_entry_104 L_p0_entry_104 I_p0_layout I_p0_stripLengths L_p0_stripLengths I_p0_stripPlaces L_p0_stripPlaces x1 r15 r24 r34 r69 (if r81 < r24 then r81 else r24) 1) ∧
                               (¬ r104 = 0 →
                                wp_X_onlyNumber (fun (r115 : Int64) (I_p0_entry_115 : Nat → Int32) (L_p0_entry_115 : Nat → Int64) =>
                                  wp_X_readLayout_b120 post I_p0_file f_p0_file_bytes I_p0_entry_115 L_p0_entry_115 I_p0_layout I_p0_stripLengths L_p0_stripLengths I_p0_stripPlaces L_p0_stripPlaces x1 r15 r24 r34 r69 (if r81 < r24 then r81 else r24) r115) I_p0_file f_p0_file_bytes I_p0_entry_104 L_p0_entry_104 x1 317))) I_p0_file f_p0_file_bytes I_p0_entry_81 L_p0_entry_81 x1 317) I_p0_file f_p0_file_bytes I_p0_entry_69 L_p0_entry_69 x1 278) I_p0_file f_p0_file_bytes I_p0_entry_34 L_p0_entry_34 x1 259))) r34))) r24))) r15) I_p0_file f_p0_file_bytes I_p0_entry_24 L_p0_entry_24 x1 258) I_p0_file f_p0_file_bytes I_p0_entry_15 L_p0_entry_15 x1 257) I_p0_file f_p0_file_bytes I_p0_entry L_p0_entry x1 256))) I_p0_file f_p0_file_bytes x1
set_option maxRecDepth 100000 in
set_option maxHeartbeats 4000000 in
theorem c_X_readLayout (l : Launch) (dC : Nat → ClassId) (dI : Nat → Nat → Nat) (cI : ClassId) (a_p0 : Nat) (A_p0 : Nat → Nat) (A_p0_file : Nat → Nat) (I_p0_file : Nat → Int32) (f_p0_file_bytes : Nat → Int32) (I_p0_entry : Nat → Int32) (L_p0_entry : Nat → Int64) (I_p0_layout : Nat → Int32) (I_p0_stripLengths : Nat → Int32) (L_p0_stripLengths : Nat → Int64) (I_p0_stripPlaces : Nat → Int32) (L_p0_stripPlaces : Nat → Int64) (x1 : Int32) {post : Int32 → (Nat → Int32) → (Nat → Int64) → (Nat → Int32) → (Nat → Int32) → (Nat → Int64) → (Nat → Int32) → (Nat → Int64) → Prop} (hw : wp_X_readLayout post I_p0_file f_p0_file_bytes I_p0_entry L_p0_entry I_p0_layout I_p0_stripLengths L_p0_stripLengths I_p0_stripPlaces L_p0_stripPlaces x1) : gm_i l y_X_readLayout ws_X_readLayout ({ frames := 5, cells := 0, slots := 0, locals := 117 } : Room) (dC, dI) vwCl [(cI, .int)] [.ref a_p0, .int x1] [oX a_p0 A_p0, oEn (A_p0 8) I_p0_entry L_p0_entry, oSt (A_p0 0) A_p0_file I_p0_file, gz cI (A_p0_file 0) 900 f_p0_file_bytes, oLy (A_p0 4) I_p0_layout, oEn (A_p0 10) I_p0_stripLengths L_p0_stripLengths, oEn (A_p0 9) I_p0_stripPlaces L_p0_stripPlaces] (fun (u : (Nat → Int32) × (Nat → Int64) × (Nat → Int32) × (Nat → Int32) × (Nat → Int64) × (Nat → Int32) × (Nat → Int64)) => [oX a_p0 A_p0, oEn (A_p0 8) u.1 u.2.1, oSt (A_p0 0) A_p0_file I_p0_file, gz cI (A_p0_file 0) 900 f_p0_file_bytes, oLy (A_p0 4) u.2.2.1, oEn (A_p0 10) u.2.2.2.1 u.2.2.2.2.1, oEn (A_p0 9) u.2.2.2.2.2.1 u.2.2.2.2.2.2]) (fun (r : Int32) (u : (Nat → Int32) × (Nat → Int64) × (Nat → Int32) × (Nat → Int32) × (Nat → Int64) × (Nat → Int32) × (Nat → Int64)) => post r u.1 u.2.1 u.2.2.1 u.2.2.2.1 u.2.2.2.2.1 u.2.2.2.2.2.1 u.2.2.2.2.2.2) := by
  refine gm_iof (cc := b_X_readLayout) (maxL := 14) (ty := .boolean) (by decide) rfl (Nat.le_of_ble_eq_true rfl) ?_
  intro p e s m args below meth c A Q hx hb hml hown hg hK hN hA hret
  have hown : s.vm.findClass R_X = some m.cls := hown
  have b210 : ∀ (H : Heap) (locs : List Loc) (ls : Array Slot) (I_p0_entry : Nat → Int32) (L_p0_entry : Nat → Int64) (I_p0_layout : Nat → Int32) (I_p0_stripLengths : Nat → Int32) (L_p0_stripLengths : Nat → Int64) (I_p0_stripPlaces : Nat → Int32) (L_p0_stripPlaces : Nat → Int64), va_P (dC, dI) vwCl [oX a_p0 A_p0, oEn (A_p0 8) I_p0_entry L_p0_entry, oSt (A_p0 0) A_p0_file I_p0_file, gz cI (A_p0_file 0) 900 f_p0_file_bytes, oLy (A_p0 4) I_p0_layout, oEn (A_p0 10) I_p0_stripLengths L_p0_stripLengths, oEn (A_p0 9) I_p0_stripPlaces L_p0_stripPlaces] H → va_D A [oX a_p0 A_p0, oEn (A_p0 8) I_p0_entry L_p0_entry, oSt (A_p0 0) A_p0_file I_p0_file, gz cI (A_p0_file 0) 900 f_p0_file_bytes, oLy (A_p0 4) I_p0_layout, oEn (A_p0 10) I_p0_stripLengths L_p0_stripLengths, oEn (A_p0 9) I_p0_stripPlaces L_p0_stripPlaces] → va_S A s.heap H locs → lv_has ls 14 [] → wp_X_readLayout_b210 post I_p0_file f_p0_file_bytes I_p0_entry L_p0_entry I_p0_layout I_p0_stripLengths L_p0_stripLengths I_p0_stripPlaces L_p0_stripPlaces → W p l e ({ frames := 5, cells := 0, slots := 0, locals := 117 } : Room) s m args below meth c H locs 0 0 Q (F0 m 210 ls []) := by
    intro H locs ls I_p0_entry L_p0_entry I_p0_layout I_p0_stripLengths L_p0_stripLengths I_p0_stripPlaces L_p0_stripPlaces hP hD hS hl hw
    unfold wp_X_readLayout_b210 at hw
    refine lv_iconst (v := 0) hx hb d_X_readLayout_210 (by decide) ?_
    exact hret _ _ _ _ _ (I_p0_entry, L_p0_entry, I_p0_layout, I_p0_stripLengths, L_p0_stripLengths, I_p0_stripPlaces, L_p0_stripPlaces) d_X_readLayout_211 rfl hP hD hS hw
  have b120 : ∀ (H : Heap) (locs : List Loc) (ls : Array Slot) (I_p0_entry : Nat → Int32) (L_p0_entry : Nat → Int64) (I_p0_layout : Nat → Int32) (I_p0_stripLengths : Nat → Int32) (L_p0_stripLengths : Nat → Int64) (I_p0_stripPlaces : Nat → Int32) (L_p0_stripPlaces : Nat → Int64) (x1 : Int32) (x2 : Int64) (x4 : Int64) (x6 : Int64) (x8 : Int64) (x10 : Int64) (x12 : Int64), va_P (dC, dI) vwCl [oX a_p0 A_p0, oEn (A_p0 8) I_p0_entry L_p0_entry, oSt (A_p0 0) A_p0_file I_p0_file, gz cI (A_p0_file 0) 900 f_p0_file_bytes, oLy (A_p0 4) I_p0_layout, oEn (A_p0 10) I_p0_stripLengths L_p0_stripLengths, oEn (A_p0 9) I_p0_stripPlaces L_p0_stripPlaces] H → va_D A [oX a_p0 A_p0, oEn (A_p0 8) I_p0_entry L_p0_entry, oSt (A_p0 0) A_p0_file I_p0_file, gz cI (A_p0_file 0) 900 f_p0_file_bytes, oLy (A_p0 4) I_p0_layout, oEn (A_p0 10) I_p0_stripLengths L_p0_stripLengths, oEn (A_p0 9) I_p0_stripPlaces L_p0_stripPlaces] → va_S A s.heap H locs → lv_has ls 14 [(0, .ref a_p0), (1, .int x1), (2, .long x2), (4, .long x4), (6, .long x6), (8, .long x8), (10, .long x10), (12, .long x12)] → wp_X_readLayout_b120 post I_p0_file f_p0_file_bytes I_p0_entry L_p0_entry I_p0_layout I_p0_stripLengths L_p0_stripLengths I_p0_stripPlaces L_p0_stripPlaces x1 x2 x4 x6 x8 x10 x12 → W p l e ({ frames := 5, cells := 0, slots := 0, locals := 117 } : Room) s m args below meth c H locs 0 0 Q (F0 m 120 ls []) := by
    intro H locs ls I_p0_entry L_p0_entry I_p0_layout I_p0_stripLengths L_p0_stripLengths I_p0_stripPlaces L_p0_stripPlaces x1 x2 x4 x6 x8 x10 x12 hP hD hS hl hw
    unfold wp_X_readLayout_b120 at hw
    refine lv_lload hx hb d_X_readLayout_120 (lv_at hl 5 rfl) ?_
    refine gc_i (wn := fun (_ : Unit) => [oX a_p0 A_p0, oEn (A_p0 8) I_p0_entry L_p0_entry, oSt (A_p0 0) A_p0_file I_p0_file, gz cI (A_p0_file 0) 900 f_p0_file_bytes, oLy (A_p0 4) I_p0_layout, oEn (A_p0 10) I_p0_stripLengths L_p0_stripLengths, oEn (A_p0 9) I_p0_stripPlaces L_p0_stripPlaces]) (wr := [oX a_p0 A_p0, oEn (A_p0 8) I_p0_entry L_p0_entry, oSt (A_p0 0) A_p0_file I_p0_file, gz cI (A_p0_file 0) 900 f_p0_file_bytes, oLy (A_p0 4) I_p0_layout, oEn (A_p0 10) I_p0_stripLengths L_p0_stripLengths, oEn (A_p0 9) I_p0_stripPlaces L_p0_stripPlaces]) (gr_S (As := [.long x8]) (rest := []) ⟨hx, hb, hml, hown, hg⟩ (c_X_isCompression l dC dI cI x8 hw _) (va_cwS 1 hg (gg_S t_441 t_442 t_60 t_443) rfl rfl rfl (by decide +kernel) ⟨Nat.le_of_ble_eq_true rfl, Nat.le_of_ble_eq_true rfl⟩) hK hN hP hD [] (by decide) rfl rfl hl.1 rfl (Nat.le_of_ble_eq_true rfl) d_X_readLayout_122 ⟨Nat.le_of_ble_eq_true rfl, Nat.le_of_ble_eq_true rfl⟩) rfl rfl hP hD hS hA [] [0, 1, 2, 3, 4, 5, 6] [0, 1, 2, 3, 4, 5, 6] rfl rfl (by decide) (by decide) (by decide) (fun _ => rfl) ?_
    intro r122 _ H locs hw hP hD hS
    try dsimp only at hw
    have hP : va_P (dC, dI) vwCl [oX a_p0 A_p0, oEn (A_p0 8) I_p0_entry L_p0_entry, oSt (A_p0 0) A_p0_file I_p0_file, gz cI (A_p0_file 0) 900 f_p0_file_bytes, oLy (A_p0 4) I_p0_layout, oEn (A_p0 10) I_p0_stripLengths L_p0_stripLengths, oEn (A_p0 9) I_p0_stripPlaces L_p0_stripPlaces] H := hP
    have hD : va_D A [oX a_p0 A_p0, oEn (A_p0 8) I_p0_entry L_p0_entry, oSt (A_p0 0) A_p0_file I_p0_file, gz cI (A_p0_file 0) 900 f_p0_file_bytes, oLy (A_p0 4) I_p0_layout, oEn (A_p0 10) I_p0_stripLengths L_p0_stripLengths, oEn (A_p0 9) I_p0_stripPlaces L_p0_stripPlaces] := hD
    refine lv_if_eq hx hb d_X_readLayout_125 rfl (fun hc => ?_) (fun hc => ?_)
    · have hw := hw.1 hc
      refine lv_iconst (v := 0) hx hb d_X_readLayout_143 (by decide) ?_
      exact hret _ _ _ _ _ (I_p0_entry, L_p0_entry, I_p0_layout, I_p0_stripLengths, L_p0_stripLengths, I_p0_stripPlaces, L_p0_stripPlaces) d_X_readLayout_144 rfl hP hD hS hw
    · have hw := hw.2 hc
      refine lv_lload hx hb d_X_readLayout_128 (lv_at hl 6 rfl) ?_
      refine lv_lconst (v := 1) hx hb d_X_readLayout_130 (by decide) ?_
      refine W.lcmp hx hb d_X_readLayout_131 ?_
      refine lv_if_lt hx hb d_X_readLayout_132 rfl (fun hc => ?_) (fun hc => ?_)
      · have hw := hw.1 ((lg_cmp_lt _ _).mp hc)
        refine lv_iconst (v := 0) hx hb d_X_readLayout_143 (by decide) ?_
        exact hret _ _ _ _ _ (I_p0_entry, L_p0_entry, I_p0_layout, I_p0_stripLengths, L_p0_stripLengths, I_p0_stripPlaces, L_p0_stripPlaces) d_X_readLayout_144 rfl hP hD hS hw
      · have hw := hw.2 (fun h9 => hc ((lg_cmp_lt _ _).mpr h9))
        refine lv_lload hx hb d_X_readLayout_135 (lv_at hl 7 rfl) ?_
        refine gc_i (wn := fun (_ : Unit) => [oX a_p0 A_p0, oEn (A_p0 8) I_p0_entry L_p0_entry, oSt (A_p0 0) A_p0_file I_p0_file, gz cI (A_p0_file 0) 900 f_p0_file_bytes, oLy (A_p0 4) I_p0_layout, oEn (A_p0 10) I_p0_stripLengths L_p0_stripLengths, oEn (A_p0 9) I_p0_stripPlaces L_p0_stripPlaces]) (wr := [oX a_p0 A_p0, oEn (A_p0 8) I_p0_entry L_p0_entry, oSt (A_p0 0) A_p0_file I_p0_file, gz cI (A_p0_file 0) 900 f_p0_file_bytes, oLy (A_p0 4) I_p0_layout, oEn (A_p0 10) I_p0_stripLengths L_p0_stripLengths, oEn (A_p0 9) I_p0_stripPlaces L_p0_stripPlaces]) (gr_S (As := [.long x12]) (rest := []) ⟨hx, hb, hml, hown, hg⟩ (c_X_isPredictor l dC dI cI x12 hw _) (va_cwS 1 hg (gg_S t_446 t_447 t_60 t_448) rfl rfl rfl (by decide +kernel) ⟨Nat.le_of_ble_eq_true rfl, Nat.le_of_ble_eq_true rfl⟩) hK hN hP hD [] (by decide) rfl rfl hl.1 rfl (Nat.le_of_ble_eq_true rfl) d_X_readLayout_137 ⟨Nat.le_of_ble_eq_true rfl, Nat.le_of_ble_eq_true rfl⟩) rfl rfl hP hD hS hA [] [0, 1, 2, 3, 4, 5, 6] [0, 1, 2, 3, 4, 5, 6] rfl rfl (by decide) (by decide) (by decide) (fun _ => rfl) ?_
        intro r137 _ H locs hw hP hD hS
        try dsimp only at hw
        have hP : va_P (dC, dI) vwCl [oX a_p0 A_p0, oEn (A_p0 8) I_p0_entry L_p0_entry, oSt (A_p0 0) A_p0_file I_p0_file, gz cI (A_p0_file 0) 900 f_p0_file_bytes, oLy (A_p0 4) I_p0_layout, oEn (A_p0 10) I_p0_stripLengths L_p0_stripLengths, oEn (A_p0 9) I_p0_stripPlaces L_p0_stripPlaces] H := hP
        have hD : va_D A [oX a_p0 A_p0, oEn (A_p0 8) I_p0_entry L_p0_entry, oSt (A_p0 0) A_p0_file I_p0_file, gz cI (A_p0_file 0) 900 f_p0_file_bytes, oLy (A_p0 4) I_p0_layout, oEn (A_p0 10) I_p0_stripLengths L_p0_stripLengths, oEn (A_p0 9) I_p0_stripPlaces L_p0_stripPlaces] := hD
        refine lv_if_ne hx hb d_X_readLayout_140 rfl (fun hc => ?_) (fun hc => ?_)
        · have hw := hw.2 hc
          refine lv_aload_n hx hb d_X_readLayout_145 rfl (lv_at hl 0 rfl) ?_
          refine va_get (D := (dC, dI)) (ci := 9) (v := .ref (A_p0 4)) (C := R_X) (T := T_X) (N := 14) hx hb hg in_X hown hK hP 0 rfl rfl 4 (by decide) (hg _ t_311) (fun _ h9 => h9) rfl d_X_readLayout_146 ?_
          refine lv_lload_n hx hb d_X_readLayout_149 rfl (lv_at hl 2 rfl) ?_
          refine lv_l2i hx hb d_X_readLayout_150 rfl ?_
          refine lv_lload hx hb d_X_readLayout_151 (lv_at hl 3 rfl) ?_
          refine lv_l2i hx hb d_X_readLayout_153 rfl ?_
          refine lv_lload hx hb d_X_readLayout_154 (lv_at hl 4 rfl) ?_
          refine lv_l2i hx hb d_X_readLayout_156 rfl ?_
          refine gc_v (wn := fun u => [oX a_p0 A_p0, oEn (A_p0 8) I_p0_entry L_p0_entry, oSt (A_p0 0) A_p0_file I_p0_file, gz cI (A_p0_file 0) 900 f_p0_file_bytes, oLy (A_p0 4) u, oEn (A_p0 10) I_p0_stripLengths L_p0_stripLengths, oEn (A_p0 9) I_p0_stripPlaces L_p0_stripPlaces]) (wr := [oX a_p0 A_p0, oEn (A_p0 8) I_p0_entry L_p0_entry, oSt (A_p0 0) A_p0_file I_p0_file, gz cI (A_p0_file 0) 900 f_p0_file_bytes, oEn (A_p0 10) I_p0_stripLengths L_p0_stripLengths, oEn (A_p0 9) I_p0_stripPlaces L_p0_stripPlaces]) (gr_V (As := [.int x2.toInt32, .int x4.toInt32, .int x6.toInt32]) (rest := []) ⟨hx, hb, hml, hown, hg⟩ (c_Ly_become l dC dI cI (A_p0 4) I_p0_layout x2.toInt32 x4.toInt32 x6.toInt32 hw _) (cwV 3 hg (gg_V t_477 t_478 t_479 t_65 t_480) rfl rfl rfl (by decide +kernel) ⟨Nat.le_of_ble_eq_true rfl, Nat.le_of_ble_eq_true rfl⟩) hK hN hP hD [4] (by decide) rfl 4 3 rfl rfl rfl rfl hl.1 rfl (Nat.le_of_ble_eq_true rfl) d_X_readLayout_157 ⟨Nat.le_of_ble_eq_true rfl, Nat.le_of_ble_eq_true rfl⟩) rfl rfl hP hD hS hA [4] [0, 1, 2, 3, 5, 6] [0, 1, 2, 3, 6, 4, 5] rfl rfl (by decide) (by decide) (by decide) (fun _ => rfl) ?_
          intro I_p0_layout_157 H locs hw hP hD hS
          try dsimp only at hw
          have hP : va_P (dC, dI) vwCl [oX a_p0 A_p0, oEn (A_p0 8) I_p0_entry L_p0_entry, oSt (A_p0 0) A_p0_file I_p0_file, gz cI (A_p0_file 0) 900 f_p0_file_bytes, oLy (A_p0 4) I_p0_layout_157, oEn (A_p0 10) I_p0_stripLengths L_p0_stripLengths, oEn (A_p0 9) I_p0_stripPlaces L_p0_stripPlaces] H := hP
          have hD : va_D A [oX a_p0 A_p0, oEn (A_p0 8) I_p0_entry L_p0_entry, oSt (A_p0 0) A_p0_file I_p0_file, gz cI (A_p0_file 0) 900 f_p0_file_bytes, oLy (A_p0 4) I_p0_layout_157, oEn (A_p0 10) I_p0_stripLengths L_p0_stripLengths, oEn (A_p0 9) I_p0_stripPlaces L_p0_stripPlaces] := hD
          refine lv_aload_n hx hb d_X_readLayout_160 rfl (lv_at hl 0 rfl) ?_
          refine va_get (D := (dC, dI)) (ci := 9) (v := .ref (A_p0 4)) (C := R_X) (T := T_X) (N := 14) hx hb hg in_X hown hK hP 0 rfl rfl 4 (by decide) (hg _ t_311) (fun _ h9 => h9) rfl d_X_readLayout_161 ?_
          refine lv_lload hx hb d_X_readLayout_164 (lv_at hl 5 rfl) ?_
          refine lv_l2i hx hb d_X_readLayout_166 rfl ?_
          refine lv_lload hx hb d_X_readLayout_167 (lv_at hl 6 rfl) ?_
          refine lv_l2i hx hb d_X_readLayout_169 rfl ?_
          refine lv_lload hx hb d_X_readLayout_170 (lv_at hl 7 rfl) ?_
          refine lv_l2i hx hb d_X_readLayout_172 rfl ?_
          refine gc_v (wn := fun u => [oX a_p0 A_p0, oEn (A_p0 8) I_p0_entry L_p0_entry, oSt (A_p0 0) A_p0_file I_p0_file, gz cI (A_p0_file 0) 900 f_p0_file_bytes, oLy (A_p0 4) u, oEn (A_p0 10) I_p0_stripLengths L_p0_stripLengths, oEn (A_p0 9) I_p0_stripPlaces L_p0_stripPlaces]) (wr := [oX a_p0 A_p0, oEn (A_p0 8) I_p0_entry L_p0_entry, oSt (A_p0 0) A_p0_file I_p0_file, gz cI (A_p0_file 0) 900 f_p0_file_bytes, oEn (A_p0 10) I_p0_stripLengths L_p0_stripLengths, oEn (A_p0 9) I_p0_stripPlaces L_p0_stripPlaces]) (gr_V (As := [.int x8.toInt32, .int x10.toInt32, .int x12.toInt32]) (rest := []) ⟨hx, hb, hml, hown, hg⟩ (c_Ly_choose l dC dI cI (A_p0 4) I_p0_layout_157 x8.toInt32 x10.toInt32 x12.toInt32 hw _) (cwV 3 hg (gg_V t_481 t_482 t_483 t_65 t_484) rfl rfl rfl (by decide +kernel) ⟨Nat.le_of_ble_eq_true rfl, Nat.le_of_ble_eq_true rfl⟩) hK hN hP hD [4] (by decide) rfl 4 3 rfl rfl rfl rfl hl.1 rfl (Nat.le_of_ble_eq_true rfl) d_X_readLayout_173 ⟨Nat.le_of_ble_eq_true rfl, Nat.le_of_ble_eq_true rfl⟩) rfl rfl hP hD hS hA [4] [0, 1, 2, 3, 5, 6] [0, 1, 2, 3, 6, 4, 5] rfl rfl (by decide) (by decide) (by decide) (fun _ => rfl) ?_
          intro I_p0_layout_173 H locs hw hP hD hS
          try dsimp only at hw
          have hP : va_P (dC, dI) vwCl [oX a_p0 A_p0, oEn (A_p0 8) I_p0_entry L_p0_entry, oSt (A_p0 0) A_p0_file I_p0_file, gz cI (A_p0_file 0) 900 f_p0_file_bytes, oLy (A_p0 4) I_p0_layout_173, oEn (A_p0 10) I_p0_stripLengths L_p0_stripLengths, oEn (A_p0 9) I_p0_stripPlaces L_p0_stripPlaces] H := hP
          have hD : va_D A [oX a_p0 A_p0, oEn (A_p0 8) I_p0_entry L_p0_entry, oSt (A_p0 0) A_p0_file I_p0_file, gz cI (A_p0_file 0) 900 f_p0_file_bytes, oLy (A_p0 4) I_p0_layout_173, oEn (A_p0 10) I_p0_stripLengths L_p0_stripLengths, oEn (A_p0 9) I_p0_stripPlaces L_p0_stripPlaces] := hD
          refine lv_aload_n hx hb d_X_readLayout_176 rfl (lv_at hl 0 rfl) ?_
          refine lv_aload_n hx hb d_X_readLayout_177 rfl (lv_at hl 0 rfl) ?_
          refine va_get (D := (dC, dI)) (ci := 9) (v := .ref (A_p0 9)) (C := R_X) (T := T_X) (N := 14) hx hb hg in_X hown hK hP 0 rfl rfl 9 (by decide) (hg _ t_316) (fun _ h9 => h9) rfl d_X_readLayout_178 ?_
          refine lv_iload_n hx hb d_X_readLayout_181 rfl (lv_at hl 1 rfl) ?_
          refine lv_sipush (v := 273) hx hb d_X_readLayout_182 (by decide) ?_
          refine gc_i (wn := fun u => [oX a_p0 A_p0, oEn (A_p0 8) I_p0_entry L_p0_entry, oSt (A_p0 0) A_p0_file I_p0_file, gz cI (A_p0_file 0) 900 f_p0_file_bytes, oLy (A_p0 4) I_p0_layout_173, oEn (A_p0 10) I_p0_stripLengths L_p0_stripLengths, oEn (A_p0 9) u.1 u.2]) (wr := [oEn (A_p0 8) I_p0_entry L_p0_entry, oEn (A_p0 10) I_p0_stripLengths L_p0_stripLengths]) (gr_V (As := [.ref (A_p0 9), .int x1, .int 273]) (rest := []) ⟨hx, hb, hml, hown, hg⟩ (c_X_findStripNumbers l dC dI cI a_p0 (A_p0 9) A_p0 A_p0_file I_p0_file f_p0_file_bytes I_p0_layout_173 I_p0_stripPlaces L_p0_stripPlaces x1 273 hw _) (cwV 3 hg (gg_V t_691 t_693 t_21 t_60 t_694) rfl rfl rfl (by decide +kernel) ⟨Nat.le_of_ble_eq_true rfl, Nat.le_of_ble_eq_true rfl⟩) hK hN hP hD [0, 2, 3, 4, 6] (by decide) rfl 0 9 rfl rfl rfl rfl hl.1 rfl (Nat.le_of_ble_eq_true rfl) d_X_readLayout_185 ⟨Nat.le_of_ble_eq_true rfl, Nat.le_of_ble_eq_true rfl⟩) rfl rfl hP hD hS hA [0, 2, 3, 4, 6] [1, 5] [2, 0, 3, 4, 5, 1, 6] rfl rfl (by decide) (by decide) (by decide) (fun _ => rfl) ?_
          intro r185 u9 H locs hw hP hD hS
          obtain ⟨I_p0_stripPlaces_185, L_p0_stripPlaces_185⟩ := u9
          try dsimp only at hw
          have hP : va_P (dC, dI) vwCl [oX a_p0 A_p0, oEn (A_p0 8) I_p0_entry L_p0_entry, oSt (A_p0 0) A_p0_file I_p0_file, gz cI (A_p0_file 0) 900 f_p0_file_bytes, oLy (A_p0 4) I_p0_layout_173, oEn (A_p0 10) I_p0_stripLengths L_p0_stripLengths, oEn (A_p0 9) I_p0_stripPlaces_185 L_p0_stripPlaces_185] H := hP
          have hD : va_D A [oX a_p0 A_p0, oEn (A_p0 8) I_p0_entry L_p0_entry, oSt (A_p0 0) A_p0_file I_p0_file, gz cI (A_p0_file 0) 900 f_p0_file_bytes, oLy (A_p0 4) I_p0_layout_173, oEn (A_p0 10) I_p0_stripLengths L_p0_stripLengths, oEn (A_p0 9) I_p0_stripPlaces_185 L_p0_stripPlaces_185] := hD
          refine lv_if_eq hx hb d_X_readLayout_188 rfl (fun hc => ?_) (fun hc => ?_)
          · have hw := hw.1 hc
            exact b210 _ _ _ I_p0_entry L_p0_entry I_p0_layout_173 I_p0_stripLengths L_p0_stripLengths I_p0_stripPlaces_185 L_p0_stripPlaces_185 hP hD hS (lv_sub hl [] rfl) hw
          · have hw := hw.2 hc
            refine lv_aload_n hx hb d_X_readLayout_191 rfl (lv_at hl 0 rfl) ?_
            refine lv_aload_n hx hb d_X_readLayout_192 rfl (lv_at hl 0 rfl) ?_
            refine va_get (D := (dC, dI)) (ci := 9) (v := .ref (A_p0 10)) (C := R_X) (T := T_X) (N := 14) hx hb hg in_X hown hK hP 0 rfl rfl 10 (by decide) (hg _ t_317) (fun _ h9 => h9) rfl d_X_readLayout_193 ?_
            refine lv_iload_n hx hb d_X_readLayout_196 rfl (lv_at hl 1 rfl) ?_
            refine lv_sipush (v := 279) hx hb d_X_readLayout_197 (by decide) ?_
            refine gc_i (wn := fun u => [oX a_p0 A_p0, oEn (A_p0 8) I_p0_entry L_p0_entry, oSt (A_p0 0) A_p0_file I_p0_file, gz cI (A_p0_file 0) 900 f_p0_file_bytes, oLy (A_p0 4) I_p0_layout_173, oEn (A_p0 10) u.1 u.2, oEn (A_p0 9) I_p0_stripPlaces_185 L_p0_stripPlaces_185]) (wr := [oEn (A_p0 8) I_p0_entry L_p0_entry, oEn (A_p0 9) I_p0_stripPlaces_185 L_p0_stripPlaces_185]) (gr_V (As := [.ref (A_p0 10), .int x1, .int 279]) (rest := []) ⟨hx, hb, hml, hown, hg⟩ (c_X_findStripNumbers l dC dI cI a_p0 (A_p0 10) A_p0 A_p0_file I_p0_file f_p0_file_bytes I_p0_layout_173 I_p0_stripLengths L_p0_stripLengths x1 279 hw _) (cwV 3 hg (gg_V t_691 t_693 t_21 t_60 t_694) rfl rfl rfl (by decide +kernel) ⟨Nat.le_of_ble_eq_true rfl, Nat.le_of_ble_eq_true rfl⟩) hK hN hP hD [0, 2, 3, 4, 5] (by decide) rfl 0 9 rfl rfl rfl rfl hl.1 rfl (Nat.le_of_ble_eq_true rfl) d_X_readLayout_200 ⟨Nat.le_of_ble_eq_true rfl, Nat.le_of_ble_eq_true rfl⟩) rfl rfl hP hD hS hA [0, 2, 3, 4, 5] [1, 6] [2, 0, 3, 4, 5, 6, 1] rfl rfl (by decide) (by decide) (by decide) (fun _ => rfl) ?_
            intro r200 u9 H locs hw hP hD hS
            obtain ⟨I_p0_stripLengths_200, L_p0_stripLengths_200⟩ := u9
            try dsimp only at hw
            have hP : va_P (dC, dI) vwCl [oX a_p0 A_p0, oEn (A_p0 8) I_p0_entry L_p0_entry, oSt (A_p0 0) A_p0_file I_p0_file, gz cI (A_p0_file 0) 900 f_p0_file_bytes, oLy (A_p0 4) I_p0_layout_173, oEn (A_p0 10) I_p0_stripLengths_200 L_p0_stripLengths_200, oEn (A_p0 9) I_p0_stripPlaces_185 L_p0_stripPlaces_185] H := hP
            have hD : va_D A [oX a_p0 A_p0, oEn (A_p0 8) I_p0_entry L_p0_entry, oSt (A_p0 0) A_p0_file I_p0_file, gz cI (A_p0_file 0) 900 f_p0_file_bytes, oLy (A_p0 4) I_p0_layout_173, oEn (A_p0 10) I_p0_stripLengths_200 L_p0_stripLengths_200, oEn (A_p0 9) I_p0_stripPlaces_185 L_p0_stripPlaces_185] := hD
            refine lv_if_eq hx hb d_X_readLayout_203 rfl (fun hc => ?_) (fun hc => ?_)
            · have hw := hw.1 hc
              exact b210 _ _ _ I_p0_entry L_p0_entry I_p0_layout_173 I_p0_stripLengths_200 L_p0_stripLengths_200 I_p0_stripPlaces_185 L_p0_stripPlaces_185 hP hD hS (lv_sub hl [] rfl) hw
            · have hw := hw.2 hc
              refine lv_iconst (v := 1) hx hb d_X_readLayout_206 (by decide) ?_
              refine lv_goto hx hb d_X_readLayout_207 rfl ?_
              exact hret _ _ _ _ _ (I_p0_entry, L_p0_entry, I_p0_layout_173, I_p0_stripLengths_200, L_p0_stripLengths_200, I_p0_stripPlaces_185, L_p0_stripPlaces_185) d_X_readLayout_211 rfl hP hD hS hw
        · have hw := hw.1 hc
          refine lv_iconst (v := 0) hx hb d_X_readLayout_143 (by decide) ?_
          exact hret _ _ _ _ _ (I_p0_entry, L_p0_entry, I_p0_layout, I_p0_stripLengths, L_p0_stripLengths, I_p0_stripPlaces, L_p0_stripPlaces) d_X_readLayout_144 rfl hP hD hS hw
  intro ls hl hP hD hS
  have hl : lv_has ls 14 [(0, .ref a_p0), (1, .int x1)] := hl
  unfold wp_X_readLayout at hw
  refine lv_aload_n hx hb d_X_readLayout_0 rfl (lv_at hl 0 rfl) ?_
  refine lv_iload_n hx hb d_X_readLayout_1 rfl (lv_at hl 1 rfl) ?_
  refine gc_i (wn := fun (_ : Unit) => [oX a_p0 A_p0, oEn (A_p0 8) I_p0_entry L_p0_entry, oSt (A_p0 0) A_p0_file I_p0_file, gz cI (A_p0_file 0) 900 f_p0_file_bytes, oLy (A_p0 4) I_p0_layout, oEn (A_p0 10) I_p0_stripLengths L_p0_stripLengths, oEn (A_p0 9) I_p0_stripPlaces L_p0_stripPlaces]) (wr := [oEn (A_p0 8) I_p0_entry L_p0_entry, oLy (A_p0 4) I_p0_layout, oEn (A_p0 10) I_p0_stripLengths L_p0_stripLengths, oEn (A_p0 9) I_p0_stripPlaces L_p0_stripPlaces]) (gr_V (As := [.int x1]) (rest := []) ⟨hx, hb, hml, hown, hg⟩ (c_X_tagsGoUp l dC dI cI a_p0 A_p0 A_p0_file I_p0_file f_p0_file_bytes x1 hw _) (cwV 1 hg (gg_V t_653 t_655 t_17 t_60 t_656) rfl rfl rfl (by decide +kernel) ⟨Nat.le_of_ble_eq_true rfl, Nat.le_of_ble_eq_true rfl⟩) hK hN hP hD [0, 2, 3] (by decide) rfl 0 9 rfl rfl rfl rfl hl.1 rfl (Nat.le_of_ble_eq_true rfl) d_X_readLayout_2 ⟨Nat.le_of_ble_eq_true rfl, Nat.le_of_ble_eq_true rfl⟩) rfl rfl hP hD hS hA [0, 2, 3] [1, 4, 5, 6] [4, 0, 5, 6, 1, 2, 3] rfl rfl (by decide) (by decide) (by decide) (fun _ => rfl) ?_
  intro r2 _ H locs hw hP hD hS
  try dsimp only at hw
  have hP : va_P (dC, dI) vwCl [oX a_p0 A_p0, oEn (A_p0 8) I_p0_entry L_p0_entry, oSt (A_p0 0) A_p0_file I_p0_file, gz cI (A_p0_file 0) 900 f_p0_file_bytes, oLy (A_p0 4) I_p0_layout, oEn (A_p0 10) I_p0_stripLengths L_p0_stripLengths, oEn (A_p0 9) I_p0_stripPlaces L_p0_stripPlaces] H := hP
  have hD : va_D A [oX a_p0 A_p0, oEn (A_p0 8) I_p0_entry L_p0_entry, oSt (A_p0 0) A_p0_file I_p0_file, gz cI (A_p0_file 0) 900 f_p0_file_bytes, oLy (A_p0 4) I_p0_layout, oEn (A_p0 10) I_p0_stripLengths L_p0_stripLengths, oEn (A_p0 9) I_p0_stripPlaces L_p0_stripPlaces] := hD
  refine lv_if_ne hx hb d_X_readLayout_5 rfl (fun hc => ?_) (fun hc => ?_)
  · have hw := hw.2 hc
    refine lv_aload_n hx hb d_X_readLayout_10 rfl (lv_at hl 0 rfl) ?_
    refine lv_iload_n hx hb d_X_readLayout_11 rfl (lv_at hl 1 rfl) ?_
    refine lv_sipush (v := 256) hx hb d_X_readLayout_12 (by decide) ?_
    refine gc_l (wn := fun u => [oX a_p0 A_p0, oEn (A_p0 8) u.1 u.2, oSt (A_p0 0) A_p0_file I_p0_file, gz cI (A_p0_file 0) 900 f_p0_file_bytes, oLy (A_p0 4) I_p0_layout, oEn (A_p0 10) I_p0_stripLengths L_p0_stripLengths, oEn (A_p0 9) I_p0_stripPlaces L_p0_stripPlaces]) (wr := [oLy (A_p0 4) I_p0_layout, oEn (A_p0 10) I_p0_stripLengths L_p0_stripLengths, oEn (A_p0 9) I_p0_stripPlaces L_p0_stripPlaces]) (gr_V (As := [.int x1, .int 256]) (rest := []) ⟨hx, hb, hml, hown, hg⟩ (c_X_onlyNumber l dC dI cI a_p0 A_p0 A_p0_file I_p0_file f_p0_file_bytes I_p0_entry L_p0_entry x1 256 hw _) (cwV 2 hg (gg_V t_658 t_660 t_18 t_60 t_661) rfl rfl rfl (by decide +kernel) ⟨Nat.le_of_ble_eq_true rfl, Nat.le_of_ble_eq_true rfl⟩) hK hN hP hD [0, 1, 2, 3] (by decide) rfl 0 9 rfl rfl rfl rfl hl.1 rfl (Nat.le_of_ble_eq_true rfl) d_X_readLayout_15 ⟨Nat.le_of_ble_eq_true rfl, Nat.le_of_ble_eq_true rfl⟩) rfl rfl hP hD hS hA [0, 1, 2, 3] [4, 5, 6] [3, 4, 5, 6, 0, 1, 2] rfl rfl (by decide) (by decide) (by decide) (fun _ => rfl) ?_
    intro r15 u9 H locs hw hP hD hS
    obtain ⟨I_p0_entry_15, L_p0_entry_15⟩ := u9
    try dsimp only at hw
    have hP : va_P (dC, dI) vwCl [oX a_p0 A_p0, oEn (A_p0 8) I_p0_entry_15 L_p0_entry_15, oSt (A_p0 0) A_p0_file I_p0_file, gz cI (A_p0_file 0) 900 f_p0_file_bytes, oLy (A_p0 4) I_p0_layout, oEn (A_p0 10) I_p0_stripLengths L_p0_stripLengths, oEn (A_p0 9) I_p0_stripPlaces L_p0_stripPlaces] H := hP
    have hD : va_D A [oX a_p0 A_p0, oEn (A_p0 8) I_p0_entry_15 L_p0_entry_15, oSt (A_p0 0) A_p0_file I_p0_file, gz cI (A_p0_file 0) 900 f_p0_file_bytes, oLy (A_p0 4) I_p0_layout, oEn (A_p0 10) I_p0_stripLengths L_p0_stripLengths, oEn (A_p0 9) I_p0_stripPlaces L_p0_stripPlaces] := hD
    refine lv_lstore_n (lv' := [(2, .long r15), (0, .ref a_p0), (1, .int x1)]) hx hb d_X_readLayout_18 rfl hl (by decide) rfl (fun ls hl => ?_)
    refine lv_aload_n hx hb d_X_readLayout_19 rfl (lv_at hl 1 rfl) ?_
    refine lv_iload_n hx hb d_X_readLayout_20 rfl (lv_at hl 2 rfl) ?_
    refine lv_sipush (v := 257) hx hb d_X_readLayout_21 (by decide) ?_
    refine gc_l (wn := fun u => [oX a_p0 A_p0, oEn (A_p0 8) u.1 u.2, oSt (A_p0 0) A_p0_file I_p0_file, gz cI (A_p0_file 0) 900 f_p0_file_bytes, oLy (A_p0 4) I_p0_layout, oEn (A_p0 10) I_p0_stripLengths L_p0_stripLengths, oEn (A_p0 9) I_p0_stripPlaces L_p0_stripPlaces]) (wr := [oLy (A_p0 4) I_p0_layout, oEn (A_p0 10) I_p0_stripLengths L_p0_stripLengths, oEn (A_p0 9) I_p0_stripPlaces L_p0_stripPlaces]) (gr_V (As := [.int x1, .int 257]) (rest := []) ⟨hx, hb, hml, hown, hg⟩ (c_X_onlyNumber l dC dI cI a_p0 A_p0 A_p0_file I_p0_file f_p0_file_bytes I_p0_entry_15 L_p0_entry_15 x1 257 hw _) (cwV 2 hg (gg_V t_658 t_660 t_18 t_60 t_661) rfl rfl rfl (by decide +kernel) ⟨Nat.le_of_ble_eq_true rfl, Nat.le_of_ble_eq_true rfl⟩) hK hN hP hD [0, 1, 2, 3] (by decide) rfl 0 9 rfl rfl rfl rfl hl.1 rfl (Nat.le_of_ble_eq_true rfl) d_X_readLayout_24 ⟨Nat.le_of_ble_eq_true rfl, Nat.le_of_ble_eq_true rfl⟩) rfl rfl hP hD hS hA [0, 1, 2, 3] [4, 5, 6] [3, 4, 5, 6, 0, 1, 2] rfl rfl (by decide) (by decide) (by decide) (fun _ => rfl) ?_
    intro r24 u9 H locs hw hP hD hS
    obtain ⟨I_p0_entry_24, L_p0_entry_24⟩ := u9
    try dsimp only at hw
    have hP : va_P (dC, dI) vwCl [oX a_p0 A_p0, oEn (A_p0 8) I_p0_entry_24 L_p0_entry_24, oSt (A_p0 0) A_p0_file I_p0_file, gz cI (A_p0_file 0) 900 f_p0_file_bytes, oLy (A_p0 4) I_p0_layout, oEn (A_p0 10) I_p0_stripLengths L_p0_stripLengths, oEn (A_p0 9) I_p0_stripPlaces L_p0_stripPlaces] H := hP
    have hD : va_D A [oX a_p0 A_p0, oEn (A_p0 8) I_p0_entry_24 L_p0_entry_24, oSt (A_p0 0) A_p0_file I_p0_file, gz cI (A_p0_file 0) 900 f_p0_file_bytes, oLy (A_p0 4) I_p0_layout, oEn (A_p0 10) I_p0_stripLengths L_p0_stripLengths, oEn (A_p0 9) I_p0_stripPlaces L_p0_stripPlaces] := hD
    refine lv_lstore (lv' := [(4, .long r24), (2, .long r15), (0, .ref a_p0), (1, .int x1)]) hx hb d_X_readLayout_27 hl (by decide) rfl (fun ls hl => ?_)
    refine lv_aload_n hx hb d_X_readLayout_29 rfl (lv_at hl 2 rfl) ?_
    refine lv_iload_n hx hb d_X_readLayout_30 rfl (lv_at hl 3 rfl) ?_
    refine lv_sipush (v := 258) hx hb d_X_readLayout_31 (by decide) ?_
    refine gc_l (wn := fun u => [oX a_p0 A_p0, oEn (A_p0 8) u.1 u.2, oSt (A_p0 0) A_p0_file I_p0_file, gz cI (A_p0_file 0) 900 f_p0_file_bytes, oLy (A_p0 4) I_p0_layout, oEn (A_p0 10) I_p0_stripLengths L_p0_stripLengths, oEn (A_p0 9) I_p0_stripPlaces L_p0_stripPlaces]) (wr := [oLy (A_p0 4) I_p0_layout, oEn (A_p0 10) I_p0_stripLengths L_p0_stripLengths, oEn (A_p0 9) I_p0_stripPlaces L_p0_stripPlaces]) (gr_V (As := [.int x1, .int 258]) (rest := []) ⟨hx, hb, hml, hown, hg⟩ (c_X_onlyNumber l dC dI cI a_p0 A_p0 A_p0_file I_p0_file f_p0_file_bytes I_p0_entry_24 L_p0_entry_24 x1 258 hw _) (cwV 2 hg (gg_V t_658 t_660 t_18 t_60 t_661) rfl rfl rfl (by decide +kernel) ⟨Nat.le_of_ble_eq_true rfl, Nat.le_of_ble_eq_true rfl⟩) hK hN hP hD [0, 1, 2, 3] (by decide) rfl 0 9 rfl rfl rfl rfl hl.1 rfl (Nat.le_of_ble_eq_true rfl) d_X_readLayout_34 ⟨Nat.le_of_ble_eq_true rfl, Nat.le_of_ble_eq_true rfl⟩) rfl rfl hP hD hS hA [0, 1, 2, 3] [4, 5, 6] [3, 4, 5, 6, 0, 1, 2] rfl rfl (by decide) (by decide) (by decide) (fun _ => rfl) ?_
    intro r34 u9 H locs hw hP hD hS
    obtain ⟨I_p0_entry_34, L_p0_entry_34⟩ := u9
    try dsimp only at hw
    have hP : va_P (dC, dI) vwCl [oX a_p0 A_p0, oEn (A_p0 8) I_p0_entry_34 L_p0_entry_34, oSt (A_p0 0) A_p0_file I_p0_file, gz cI (A_p0_file 0) 900 f_p0_file_bytes, oLy (A_p0 4) I_p0_layout, oEn (A_p0 10) I_p0_stripLengths L_p0_stripLengths, oEn (A_p0 9) I_p0_stripPlaces L_p0_stripPlaces] H := hP
    have hD : va_D A [oX a_p0 A_p0, oEn (A_p0 8) I_p0_entry_34 L_p0_entry_34, oSt (A_p0 0) A_p0_file I_p0_file, gz cI (A_p0_file 0) 900 f_p0_file_bytes, oLy (A_p0 4) I_p0_layout, oEn (A_p0 10) I_p0_stripLengths L_p0_stripLengths, oEn (A_p0 9) I_p0_stripPlaces L_p0_stripPlaces] := hD
    refine lv_lstore (lv' := [(6, .long r34), (4, .long r24), (2, .long r15), (0, .ref a_p0), (1, .int x1)]) hx hb d_X_readLayout_37 hl (by decide) rfl (fun ls hl => ?_)
    refine lv_lload_n hx hb d_X_readLayout_39 rfl (lv_at hl 2 rfl) ?_
    refine gc_i (wn := fun (_ : Unit) => [oX a_p0 A_p0, oEn (A_p0 8) I_p0_entry_34 L_p0_entry_34, oSt (A_p0 0) A_p0_file I_p0_file, gz cI (A_p0_file 0) 900 f_p0_file_bytes, oLy (A_p0 4) I_p0_layout, oEn (A_p0 10) I_p0_stripLengths L_p0_stripLengths, oEn (A_p0 9) I_p0_stripPlaces L_p0_stripPlaces]) (wr := [oX a_p0 A_p0, oEn (A_p0 8) I_p0_entry_34 L_p0_entry_34, oSt (A_p0 0) A_p0_file I_p0_file, gz cI (A_p0_file 0) 900 f_p0_file_bytes, oLy (A_p0 4) I_p0_layout, oEn (A_p0 10) I_p0_stripLengths L_p0_stripLengths, oEn (A_p0 9) I_p0_stripPlaces L_p0_stripPlaces]) (gr_S (As := [.long r15]) (rest := []) ⟨hx, hb, hml, hown, hg⟩ (c_X_isSide l dC dI cI r15 hw _) (va_cwS 1 hg (gg_S t_374 t_375 t_60 t_376) rfl rfl rfl (by decide +kernel) ⟨Nat.le_of_ble_eq_true rfl, Nat.le_of_ble_eq_true rfl⟩) hK hN hP hD [] (by decide) rfl rfl hl.1 rfl (Nat.le_of_ble_eq_true rfl) d_X_readLayout_40 ⟨Nat.le_of_ble_eq_true rfl, Nat.le_of_ble_eq_true rfl⟩) rfl rfl hP hD hS hA [] [0, 1, 2, 3, 4, 5, 6] [0, 1, 2, 3, 4, 5, 6] rfl rfl (by decide) (by decide) (by decide) (fun _ => rfl) ?_
    intro r40 _ H locs hw hP hD hS
    try dsimp only at hw
    have hP : va_P (dC, dI) vwCl [oX a_p0 A_p0, oEn (A_p0 8) I_p0_entry_34 L_p0_entry_34, oSt (A_p0 0) A_p0_file I_p0_file, gz cI (A_p0_file 0) 900 f_p0_file_bytes, oLy (A_p0 4) I_p0_layout, oEn (A_p0 10) I_p0_stripLengths L_p0_stripLengths, oEn (A_p0 9) I_p0_stripPlaces L_p0_stripPlaces] H := hP
    have hD : va_D A [oX a_p0 A_p0, oEn (A_p0 8) I_p0_entry_34 L_p0_entry_34, oSt (A_p0 0) A_p0_file I_p0_file, gz cI (A_p0_file 0) 900 f_p0_file_bytes, oLy (A_p0 4) I_p0_layout, oEn (A_p0 10) I_p0_stripLengths L_p0_stripLengths, oEn (A_p0 9) I_p0_stripPlaces L_p0_stripPlaces] := hD
    refine lv_if_eq hx hb d_X_readLayout_43 rfl (fun hc => ?_) (fun hc => ?_)
    · have hw := hw.1 hc
      refine lv_iconst (v := 0) hx hb d_X_readLayout_62 (by decide) ?_
      exact hret _ _ _ _ _ (I_p0_entry_34, L_p0_entry_34, I_p0_layout, I_p0_stripLengths, L_p0_stripLengths, I_p0_stripPlaces, L_p0_stripPlaces) d_X_readLayout_63 rfl hP hD hS hw
    · have hw := hw.2 hc
      refine lv_lload hx hb d_X_readLayout_46 (lv_at hl 1 rfl) ?_
      refine gc_i (wn := fun (_ : Unit) => [oX a_p0 A_p0, oEn (A_p0 8) I_p0_entry_34 L_p0_entry_34, oSt (A_p0 0) A_p0_file I_p0_file, gz cI (A_p0_file 0) 900 f_p0_file_bytes, oLy (A_p0 4) I_p0_layout, oEn (A_p0 10) I_p0_stripLengths L_p0_stripLengths, oEn (A_p0 9) I_p0_stripPlaces L_p0_stripPlaces]) (wr := [oX a_p0 A_p0, oEn (A_p0 8) I_p0_entry_34 L_p0_entry_34, oSt (A_p0 0) A_p0_file I_p0_file, gz cI (A_p0_file 0) 900 f_p0_file_bytes, oLy (A_p0 4) I_p0_layout, oEn (A_p0 10) I_p0_stripLengths L_p0_stripLengths, oEn (A_p0 9) I_p0_stripPlaces L_p0_stripPlaces]) (gr_S (As := [.long r24]) (rest := []) ⟨hx, hb, hml, hown, hg⟩ (c_X_isSide l dC dI cI r24 hw _) (va_cwS 1 hg (gg_S t_374 t_375 t_60 t_376) rfl rfl rfl (by decide +kernel) ⟨Nat.le_of_ble_eq_true rfl, Nat.le_of_ble_eq_true rfl⟩) hK hN hP hD [] (by decide) rfl rfl hl.1 rfl (Nat.le_of_ble_eq_true rfl) d_X_readLayout_48 ⟨Nat.le_of_ble_eq_true rfl, Nat.le_of_ble_eq_true rfl⟩) rfl rfl hP hD hS hA [] [0, 1, 2, 3, 4, 5, 6] [0, 1, 2, 3, 4, 5, 6] rfl rfl (by decide) (by decide) (by decide) (fun _ => rfl) ?_
      intro r48 _ H locs hw hP hD hS
      try dsimp only at hw
      have hP : va_P (dC, dI) vwCl [oX a_p0 A_p0, oEn (A_p0 8) I_p0_entry_34 L_p0_entry_34, oSt (A_p0 0) A_p0_file I_p0_file, gz cI (A_p0_file 0) 900 f_p0_file_bytes, oLy (A_p0 4) I_p0_layout, oEn (A_p0 10) I_p0_stripLengths L_p0_stripLengths, oEn (A_p0 9) I_p0_stripPlaces L_p0_stripPlaces] H := hP
      have hD : va_D A [oX a_p0 A_p0, oEn (A_p0 8) I_p0_entry_34 L_p0_entry_34, oSt (A_p0 0) A_p0_file I_p0_file, gz cI (A_p0_file 0) 900 f_p0_file_bytes, oLy (A_p0 4) I_p0_layout, oEn (A_p0 10) I_p0_stripLengths L_p0_stripLengths, oEn (A_p0 9) I_p0_stripPlaces L_p0_stripPlaces] := hD
      refine lv_if_eq hx hb d_X_readLayout_51 rfl (fun hc => ?_) (fun hc => ?_)
      · have hw := hw.1 hc
        refine lv_iconst (v := 0) hx hb d_X_readLayout_62 (by decide) ?_
        exact hret _ _ _ _ _ (I_p0_entry_34, L_p0_entry_34, I_p0_layout, I_p0_stripLengths, L_p0_stripLengths, I_p0_stripPlaces, L_p0_stripPlaces) d_X_readLayout_63 rfl hP hD hS hw
      · have hw := hw.2 hc
        refine lv_lload hx hb d_X_readLayout_54 (lv_at hl 0 rfl) ?_
        refine gc_i (wn := fun (_ : Unit) => [oX a_p0 A_p0, oEn (A_p0 8) I_p0_entry_34 L_p0_entry_34, oSt (A_p0 0) A_p0_file I_p0_file, gz cI (A_p0_file 0) 900 f_p0_file_bytes, oLy (A_p0 4) I_p0_layout, oEn (A_p0 10) I_p0_stripLengths L_p0_stripLengths, oEn (A_p0 9) I_p0_stripPlaces L_p0_stripPlaces]) (wr := [oX a_p0 A_p0, oEn (A_p0 8) I_p0_entry_34 L_p0_entry_34, oSt (A_p0 0) A_p0_file I_p0_file, gz cI (A_p0_file 0) 900 f_p0_file_bytes, oLy (A_p0 4) I_p0_layout, oEn (A_p0 10) I_p0_stripLengths L_p0_stripLengths, oEn (A_p0 9) I_p0_stripPlaces L_p0_stripPlaces]) (gr_S (As := [.long r34]) (rest := []) ⟨hx, hb, hml, hown, hg⟩ (c_X_isDepth l dC dI cI r34 hw _) (va_cwS 1 hg (gg_S t_378 t_379 t_60 t_380) rfl rfl rfl (by decide +kernel) ⟨Nat.le_of_ble_eq_true rfl, Nat.le_of_ble_eq_true rfl⟩) hK hN hP hD [] (by decide) rfl rfl hl.1 rfl (Nat.le_of_ble_eq_true rfl) d_X_readLayout_56 ⟨Nat.le_of_ble_eq_true rfl, Nat.le_of_ble_eq_true rfl⟩) rfl rfl hP hD hS hA [] [0, 1, 2, 3, 4, 5, 6] [0, 1, 2, 3, 4, 5, 6] rfl rfl (by decide) (by decide) (by decide) (fun _ => rfl) ?_
        intro r56 _ H locs hw hP hD hS
        try dsimp only at hw
        have hP : va_P (dC, dI) vwCl [oX a_p0 A_p0, oEn (A_p0 8) I_p0_entry_34 L_p0_entry_34, oSt (A_p0 0) A_p0_file I_p0_file, gz cI (A_p0_file 0) 900 f_p0_file_bytes, oLy (A_p0 4) I_p0_layout, oEn (A_p0 10) I_p0_stripLengths L_p0_stripLengths, oEn (A_p0 9) I_p0_stripPlaces L_p0_stripPlaces] H := hP
        have hD : va_D A [oX a_p0 A_p0, oEn (A_p0 8) I_p0_entry_34 L_p0_entry_34, oSt (A_p0 0) A_p0_file I_p0_file, gz cI (A_p0_file 0) 900 f_p0_file_bytes, oLy (A_p0 4) I_p0_layout, oEn (A_p0 10) I_p0_stripLengths L_p0_stripLengths, oEn (A_p0 9) I_p0_stripPlaces L_p0_stripPlaces] := hD
        refine lv_if_ne hx hb d_X_readLayout_59 rfl (fun hc => ?_) (fun hc => ?_)
        · have hw := hw.2 hc
          refine lv_aload_n hx hb d_X_readLayout_64 rfl (lv_at hl 3 rfl) ?_
          refine lv_iload_n hx hb d_X_readLayout_65 rfl (lv_at hl 4 rfl) ?_
          refine lv_sipush (v := 259) hx hb d_X_readLayout_66 (by decide) ?_
          refine gc_l (wn := fun u => [oX a_p0 A_p0, oEn (A_p0 8) u.1 u.2, oSt (A_p0 0) A_p0_file I_p0_file, gz cI (A_p0_file 0) 900 f_p0_file_bytes, oLy (A_p0 4) I_p0_layout, oEn (A_p0 10) I_p0_stripLengths L_p0_stripLengths, oEn (A_p0 9) I_p0_stripPlaces L_p0_stripPlaces]) (wr := [oLy (A_p0 4) I_p0_layout, oEn (A_p0 10) I_p0_stripLengths L_p0_stripLengths, oEn (A_p0 9) I_p0_stripPlaces L_p0_stripPlaces]) (gr_V (As := [.int x1, .int 259]) (rest := []) ⟨hx, hb, hml, hown, hg⟩ (c_X_onlyNumber l dC dI cI a_p0 A_p0 A_p0_file I_p0_file f_p0_file_bytes I_p0_entry_34 L_p0_entry_34 x1 259 hw _) (cwV 2 hg (gg_V t_658 t_660 t_18 t_60 t_661) rfl rfl rfl (by decide +kernel) ⟨Nat.le_of_ble_eq_true rfl, Nat.le_of_ble_eq_true rfl⟩) hK hN hP hD [0, 1, 2, 3] (by decide) rfl 0 9 rfl rfl rfl rfl hl.1 rfl (Nat.le_of_ble_eq_true rfl) d_X_readLayout_69 ⟨Nat.le_of_ble_eq_true rfl, Nat.le_of_ble_eq_true rfl⟩) rfl rfl hP hD hS hA [0, 1, 2, 3] [4, 5, 6] [3, 4, 5, 6, 0, 1, 2] rfl rfl (by decide) (by decide) (by decide) (fun _ => rfl) ?_
          intro r69 u9 H locs hw hP hD hS
          obtain ⟨I_p0_entry_69, L_p0_entry_69⟩ := u9
          try dsimp only at hw
          have hP : va_P (dC, dI) vwCl [oX a_p0 A_p0, oEn (A_p0 8) I_p0_entry_69 L_p0_entry_69, oSt (A_p0 0) A_p0_file I_p0_file, gz cI (A_p0_file 0) 900 f_p0_file_bytes, oLy (A_p0 4) I_p0_layout, oEn (A_p0 10) I_p0_stripLengths L_p0_stripLengths, oEn (A_p0 9) I_p0_stripPlaces L_p0_stripPlaces] H := hP
          have hD : va_D A [oX a_p0 A_p0, oEn (A_p0 8) I_p0_entry_69 L_p0_entry_69, oSt (A_p0 0) A_p0_file I_p0_file, gz cI (A_p0_file 0) 900 f_p0_file_bytes, oLy (A_p0 4) I_p0_layout, oEn (A_p0 10) I_p0_stripLengths L_p0_stripLengths, oEn (A_p0 9) I_p0_stripPlaces L_p0_stripPlaces] := hD
          refine lv_lstore (lv' := [(8, .long r69), (6, .long r34), (4, .long r24), (2, .long r15), (0, .ref a_p0), (1, .int x1)]) hx hb d_X_readLayout_72 hl (by decide) rfl (fun ls hl => ?_)
          refine lv_lload hx hb d_X_readLayout_74 (lv_at hl 2 rfl) ?_
          refine lv_aload_n hx hb d_X_readLayout_76 rfl (lv_at hl 4 rfl) ?_
          refine lv_iload_n hx hb d_X_readLayout_77 rfl (lv_at hl 5 rfl) ?_
          refine lv_sipush (v := 278) hx hb d_X_readLayout_78 (by decide) ?_
          refine gc_l (wn := fun u => [oX a_p0 A_p0, oEn (A_p0 8) u.1 u.2, oSt (A_p0 0) A_p0_file I_p0_file, gz cI (A_p0_file 0) 900 f_p0_file_bytes, oLy (A_p0 4) I_p0_layout, oEn (A_p0 10) I_p0_stripLengths L_p0_stripLengths, oEn (A_p0 9) I_p0_stripPlaces L_p0_stripPlaces]) (wr := [oLy (A_p0 4) I_p0_layout, oEn (A_p0 10) I_p0_stripLengths L_p0_stripLengths, oEn (A_p0 9) I_p0_stripPlaces L_p0_stripPlaces]) (gr_V (As := [.int x1, .int 278]) (rest := [.long r24]) ⟨hx, hb, hml, hown, hg⟩ (c_X_onlyNumber l dC dI cI a_p0 A_p0 A_p0_file I_p0_file f_p0_file_bytes I_p0_entry_69 L_p0_entry_69 x1 278 hw _) (cwV 2 hg (gg_V t_658 t_660 t_18 t_60 t_661) rfl rfl rfl (by decide +kernel) ⟨Nat.le_of_ble_eq_true rfl, Nat.le_of_ble_eq_true rfl⟩) hK hN hP hD [0, 1, 2, 3] (by decide) rfl 0 9 rfl rfl rfl rfl hl.1 rfl (Nat.le_of_ble_eq_true rfl) d_X_readLayout_81 ⟨Nat.le_of_ble_eq_true rfl, Nat.le_of_ble_eq_true rfl⟩) rfl rfl hP hD hS hA [0, 1, 2, 3] [4, 5, 6] [3, 4, 5, 6, 0, 1, 2] rfl rfl (by decide) (by decide) (by decide) (fun _ => rfl) ?_
          intro r81 u9 H locs hw hP hD hS
          obtain ⟨I_p0_entry_81, L_p0_entry_81⟩ := u9
          try dsimp only at hw
          have hP : va_P (dC, dI) vwCl [oX a_p0 A_p0, oEn (A_p0 8) I_p0_entry_81 L_p0_entry_81, oSt (A_p0 0) A_p0_file I_p0_file, gz cI (A_p0_file 0) 900 f_p0_file_bytes, oLy (A_p0 4) I_p0_layout, oEn (A_p0 10) I_p0_stripLengths L_p0_stripLengths, oEn (A_p0 9) I_p0_stripPlaces L_p0_stripPlaces] H := hP
          have hD : va_D A [oX a_p0 A_p0, oEn (A_p0 8) I_p0_entry_81 L_p0_entry_81, oSt (A_p0 0) A_p0_file I_p0_file, gz cI (A_p0_file 0) 900 f_p0_file_bytes, oLy (A_p0 4) I_p0_layout, oEn (A_p0 10) I_p0_stripLengths L_p0_stripLengths, oEn (A_p0 9) I_p0_stripPlaces L_p0_stripPlaces] := hD
          refine va_mmin_long hx hb (hml.trans hl.1.symm) hown (hg _ t_688) (hg _ t_689) (hg _ t_72) (hg _ t_690) (Nat.le_of_ble_eq_true rfl) (Nat.le_of_ble_eq_true rfl) (Nat.le_of_ble_eq_true rfl) (Nat.le_of_ble_eq_true rfl) d_X_readLayout_84 ?_
          refine lv_lstore (lv' := [(10, .long (if r81 < r24 then r81 else r24)), (8, .long r69), (6, .long r34), (4, .long r24), (2, .long r15), (0, .ref a_p0), (1, .int x1)]) hx hb d_X_readLayout_87 hl (by decide) rfl (fun ls hl => ?_)
          refine lv_lconst (v := 1) hx hb d_X_readLayout_89 (by decide) ?_
          refine lv_lstore (lv' := [(12, .long 1), (10, .long (if r81 < r24 then r81 else r24)), (8, .long r69), (6, .long r34), (4, .long r24), (2, .long r15), (0, .ref a_p0), (1, .int x1)]) hx hb d_X_readLayout_90 hl (by decide) rfl (fun ls hl => ?_)
          refine lv_aload_n hx hb d_X_readLayout_92 rfl (lv_at hl 6 rfl) ?_
          refine va_get (D := (dC, dI)) (ci := 9) (v := .ref (A_p0 8)) (C := R_X) (T := T_X) (N := 14) hx hb hg in_X hown hK hP 0 rfl rfl 8 (by decide) (hg _ t_315) (fun _ h9 => h9) rfl d_X_readLayout_93 ?_
          refine lv_aload_n hx hb d_X_readLayout_96 rfl (lv_at hl 6 rfl) ?_
          refine va_get (D := (dC, dI)) (ci := 9) (v := .ref (A_p0 0)) (C := R_X) (T := T_X) (N := 14) hx hb hg in_X hown hK hP 0 rfl rfl 0 (by decide) (hg _ t_307) (fun _ h9 => h9) rfl d_X_readLayout_97 ?_
          refine lv_iload_n hx hb d_X_readLayout_100 rfl (lv_at hl 7 rfl) ?_
          refine lv_sipush (v := 317) hx hb d_X_readLayout_101 (by decide) ?_
          refine gc_i (wn := fun u => [oX a_p0 A_p0, oEn (A_p0 8) u.1 u.2, oSt (A_p0 0) A_p0_file I_p0_file, gz cI (A_p0_file 0) 900 f_p0_file_bytes, oLy (A_p0 4) I_p0_layout, oEn (A_p0 10) I_p0_stripLengths L_p0_stripLengths, oEn (A_p0 9) I_p0_stripPlaces L_p0_stripPlaces]) (wr := [oX a_p0 A_p0, oLy (A_p0 4) I_p0_layout, oEn (A_p0 10) I_p0_stripLengths L_p0_stripLengths, oEn (A_p0 9) I_p0_stripPlaces L_p0_stripPlaces]) (gr_V (As := [.ref (A_p0 0), .int x1, .int 317]) (rest := []) ⟨hx, hb, hml, hown, hg⟩ (c_En_find l dC dI cI (A_p0 8) (A_p0 0) A_p0_file I_p0_file f_p0_file_bytes I_p0_entry_81 L_p0_entry_81 x1 317 hw _) (cwV 3 hg (gg_V t_662 t_663 t_664 t_69 t_665) rfl rfl rfl (by decide +kernel) ⟨Nat.le_of_ble_eq_true rfl, Nat.le_of_ble_eq_true rfl⟩) hK hN hP hD [1, 2, 3] (by decide) rfl 1 1 rfl rfl rfl rfl hl.1 rfl (Nat.le_of_ble_eq_true rfl) d_X_readLayout_104 ⟨Nat.le_of_ble_eq_true rfl, Nat.le_of_ble_eq_true rfl⟩) rfl rfl hP hD hS hA [1, 2, 3] [0, 4, 5, 6] [0, 4, 5, 6, 1, 2, 3] rfl rfl (by decide) (by decide) (by decide) (fun _ => rfl) ?_
          intro r104 u9 H locs hw hP hD hS
          obtain ⟨I_p0_entry_104, L_p0_entry_104⟩ := u9
          try dsimp only at hw
          have hP : va_P (dC, dI) vwCl [oX a_p0 A_p0, oEn (A_p0 8) I_p0_entry_104 L_p0_entry_104, oSt (A_p0 0) A_p0_file I_p0_file, gz cI (A_p0_file 0) 900 f_p0_file_bytes, oLy (A_p0 4) I_p0_layout, oEn (A_p0 10) I_p0_stripLengths L_p0_stripLengths, oEn (A_p0 9) I_p0_stripPlaces L_p0_stripPlaces] H := hP
          have hD : va_D A [oX a_p0 A_p0, oEn (A_p0 8) I_p0_entry_104 L_p0_entry_104, oSt (A_p0 0) A_p0_file I_p0_file, gz cI (A_p0_file 0) 900 f_p0_file_bytes, oLy (A_p0 4) I_p0_layout, oEn (A_p0 10) I_p0_stripLengths L_p0_stripLengths, oEn (A_p0 9) I_p0_stripPlaces L_p0_stripPlaces] := hD
          refine lv_if_eq hx hb d_X_readLayout_107 rfl (fun hc => ?_) (fun hc => ?_)
          · have hw := hw.1 hc
            exact b120 _ _ _ I_p0_entry_104 L_p0_entry_104 I_p0_layout I_p0_stripLengths L_p0_stripLengths I_p0_stripPlaces L_p0_stripPlaces x1 r15 r24 r34 r69 (if r81 < r24 then r81 else r24) 1 hP hD hS (lv_sub hl [6, 7, 5, 4, 3, 2, 1, 0] rfl) hw
          · have hw := hw.2 hc
            refine lv_aload_n hx hb d_X_readLayout_110 rfl (lv_at hl 6 rfl) ?_
            refine lv_iload_n hx hb d_X_readLayout_111 rfl (lv_at hl 7 rfl) ?_
            refine lv_sipush (v := 317) hx hb d_X_readLayout_112 (by decide) ?_
            refine gc_l (wn := fun u => [oX a_p0 A_p0, oEn (A_p0 8) u.1 u.2, oSt (A_p0 0) A_p0_file I_p0_file, gz cI (A_p0_file 0) 900 f_p0_file_bytes, oLy (A_p0 4) I_p0_layout, oEn (A_p0 10) I_p0_stripLengths L_p0_stripLengths, oEn (A_p0 9) I_p0_stripPlaces L_p0_stripPlaces]) (wr := [oLy (A_p0 4) I_p0_layout, oEn (A_p0 10) I_p0_stripLengths L_p0_stripLengths, oEn (A_p0 9) I_p0_stripPlaces L_p0_stripPlaces]) (gr_V (As := [.int x1, .int 317]) (rest := []) ⟨hx, hb, hml, hown, hg⟩ (c_X_onlyNumber l dC dI cI a_p0 A_p0 A_p0_file I_p0_file f_p0_file_bytes I_p0_entry_104 L_p0_entry_104 x1 317 hw _) (cwV 2 hg (gg_V t_658 t_660 t_18 t_60 t_661) rfl rfl rfl (by decide +kernel) ⟨Nat.le_of_ble_eq_true rfl, Nat.le_of_ble_eq_true rfl⟩) hK hN hP hD [0, 1, 2, 3] (by decide) rfl 0 9 rfl rfl rfl rfl hl.1 rfl (Nat.le_of_ble_eq_true rfl) d_X_readLayout_115 ⟨Nat.le_of_ble_eq_true rfl, Nat.le_of_ble_eq_true rfl⟩) rfl rfl hP hD hS hA [0, 1, 2, 3] [4, 5, 6] [3, 4, 5, 6, 0, 1, 2] rfl rfl (by decide) (by decide) (by decide) (fun _ => rfl) ?_
            intro r115 u9 H locs hw hP hD hS
            obtain ⟨I_p0_entry_115, L_p0_entry_115⟩ := u9
            try dsimp only at hw
            have hP : va_P (dC, dI) vwCl [oX a_p0 A_p0, oEn (A_p0 8) I_p0_entry_115 L_p0_entry_115, oSt (A_p0 0) A_p0_file I_p0_file, gz cI (A_p0_file 0) 900 f_p0_file_bytes, oLy (A_p0 4) I_p0_layout, oEn (A_p0 10) I_p0_stripLengths L_p0_stripLengths, oEn (A_p0 9) I_p0_stripPlaces L_p0_stripPlaces] H := hP
            have hD : va_D A [oX a_p0 A_p0, oEn (A_p0 8) I_p0_entry_115 L_p0_entry_115, oSt (A_p0 0) A_p0_file I_p0_file, gz cI (A_p0_file 0) 900 f_p0_file_bytes, oLy (A_p0 4) I_p0_layout, oEn (A_p0 10) I_p0_stripLengths L_p0_stripLengths, oEn (A_p0 9) I_p0_stripPlaces L_p0_stripPlaces] := hD
            refine lv_lstore (lv' := [(12, .long r115), (10, .long (if r81 < r24 then r81 else r24)), (8, .long r69), (6, .long r34), (4, .long r24), (2, .long r15), (0, .ref a_p0), (1, .int x1)]) hx hb d_X_readLayout_118 hl (by decide) rfl (fun ls hl => ?_)
            exact b120 _ _ _ I_p0_entry_115 L_p0_entry_115 I_p0_layout I_p0_stripLengths L_p0_stripLengths I_p0_stripPlaces L_p0_stripPlaces x1 r15 r24 r34 r69 (if r81 < r24 then r81 else r24) r115 hP hD hS (lv_sub hl [6, 7, 5, 4, 3, 2, 1, 0] rfl) hw
        · have hw := hw.1 hc
          refine lv_iconst (v := 0) hx hb d_X_readLayout_62 (by decide) ?_
          exact hret _ _ _ _ _ (I_p0_entry_34, L_p0_entry_34, I_p0_layout, I_p0_stripLengths, L_p0_stripLengths, I_p0_stripPlaces, L_p0_stripPlaces) d_X_readLayout_63 rfl hP hD hS hw
  · have hw := hw.1 hc
    refine lv_iconst (v := 0) hx hb d_X_readLayout_8 (by decide) ?_
    exact hret _ _ _ _ _ (I_p0_entry, L_p0_entry, I_p0_layout, I_p0_stripLengths, L_p0_stripLengths, I_p0_stripPlaces, L_p0_stripPlaces) d_X_readLayout_9 rfl hP hD hS hw
theorem d_Da_unpack_0 : decode b_Da_unpack 0 = .ok (.iconst 0, 1) := by decide +kernel
theorem d_Da_unpack_1 : decode b_Da_unpack 1 = .ok (.istore_n 3, 1) := by decide +kernel
theorem d_Da_unpack_2 : decode b_Da_unpack 2 = .ok (.iload_n 3, 1) := by decide +kernel
theorem d_Da_unpack_3 : decode b_Da_unpack 3 = .ok (.aload_n 1, 1) := by decide +kernel
theorem d_Da_unpack_4 : decode b_Da_unpack 4 = .ok (.getfield 21, 3) := by decide +kernel
theorem d_Da_unpack_7 : decode b_Da_unpack 7 = .ok (.if_icmp .ge 109, 3) := by decide +kernel
theorem d_Da_unpack_10 : decode b_Da_unpack 10 = .ok (.iconst 0, 1) := by decide +kernel
theorem d_Da_unpack_11 : decode b_Da_unpack 11 = .ok (.istore 4, 2) := by decide +kernel
theorem d_Da_unpack_13 : decode b_Da_unpack 13 = .ok (.iload 4, 2) := by decide +kernel
theorem d_Da_unpack_15 : decode b_Da_unpack 15 = .ok (.aload_n 1, 1) := by decide +kernel
theorem d_Da_unpack_16 : decode b_Da_unpack 16 = .ok (.getfield 27, 3) := by decide +kernel
theorem d_Da_unpack_19 : decode b_Da_unpack 19 = .ok (.if_icmp .ge 91, 3) := by decide +kernel
theorem d_Da_unpack_22 : decode b_Da_unpack 22 = .ok (.iload 4, 2) := by decide +kernel
theorem d_Da_unpack_24 : decode b_Da_unpack 24 = .ok (.aload_n 1, 1) := by decide +kernel
theorem d_Da_unpack_25 : decode b_Da_unpack 25 = .ok (.getfield 43, 3) := by decide +kernel
theorem d_Da_unpack_28 : decode b_Da_unpack 28 = .ok (.imul, 1) := by decide +kernel
theorem d_Da_unpack_29 : decode b_Da_unpack 29 = .ok (.istore 5, 2) := by decide +kernel
theorem d_Da_unpack_31 : decode b_Da_unpack 31 = .ok (.iload_n 3, 1) := by decide +kernel
theorem d_Da_unpack_32 : decode b_Da_unpack 32 = .ok (.aload_n 1, 1) := by decide +kernel
theorem d_Da_unpack_33 : decode b_Da_unpack 33 = .ok (.invokevirtual 46, 3) := by decide +kernel
theorem d_Da_unpack_36 : decode b_Da_unpack 36 = .ok (.imul, 1) := by decide +kernel
theorem d_Da_unpack_37 : decode b_Da_unpack 37 = .ok (.iload 5, 2) := by decide +kernel
theorem d_Da_unpack_39 : decode b_Da_unpack 39 = .ok (.bipush 8, 2) := by decide +kernel
theorem d_Da_unpack_41 : decode b_Da_unpack 41 = .ok (.idiv, 1) := by decide +kernel
theorem d_Da_unpack_42 : decode b_Da_unpack 42 = .ok (.iadd, 1) := by decide +kernel
theorem d_Da_unpack_43 : decode b_Da_unpack 43 = .ok (.istore 6, 2) := by decide +kernel
theorem d_Da_unpack_45 : decode b_Da_unpack 45 = .ok (.aload_n 0, 1) := by decide +kernel
theorem d_Da_unpack_46 : decode b_Da_unpack 46 = .ok (.getfield 9, 3) := by decide +kernel
theorem d_Da_unpack_49 : decode b_Da_unpack 49 = .ok (.iload 6, 2) := by decide +kernel
theorem d_Da_unpack_51 : decode b_Da_unpack 51 = .ok (.iaload, 1) := by decide +kernel
theorem d_Da_unpack_52 : decode b_Da_unpack 52 = .ok (.bipush 8, 2) := by decide +kernel
theorem d_Da_unpack_54 : decode b_Da_unpack 54 = .ok (.aload_n 1, 1) := by decide +kernel
theorem d_Da_unpack_55 : decode b_Da_unpack 55 = .ok (.getfield 43, 3) := by decide +kernel
theorem d_Da_unpack_58 : decode b_Da_unpack 58 = .ok (.isub, 1) := by decide +kernel
theorem d_Da_unpack_59 : decode b_Da_unpack 59 = .ok (.iload 5, 2) := by decide +kernel
theorem d_Da_unpack_61 : decode b_Da_unpack 61 = .ok (.bipush 8, 2) := by decide +kernel
theorem d_Da_unpack_63 : decode b_Da_unpack 63 = .ok (.irem, 1) := by decide +kernel
theorem d_Da_unpack_64 : decode b_Da_unpack 64 = .ok (.isub, 1) := by decide +kernel
theorem d_Da_unpack_65 : decode b_Da_unpack 65 = .ok (.ishr, 1) := by decide +kernel
theorem d_Da_unpack_66 : decode b_Da_unpack 66 = .ok (.istore 7, 2) := by decide +kernel
theorem d_Da_unpack_68 : decode b_Da_unpack 68 = .ok (.aload_n 1, 1) := by decide +kernel
theorem d_Da_unpack_69 : decode b_Da_unpack 69 = .ok (.getfield 36, 3) := by decide +kernel
theorem d_Da_unpack_72 : decode b_Da_unpack 72 = .ok (.iconst 2, 1) := by decide +kernel
theorem d_Da_unpack_73 : decode b_Da_unpack 73 = .ok (.if_icmp .ne 22, 3) := by decide +kernel
theorem d_Da_unpack_76 : decode b_Da_unpack 76 = .ok (.iload 4, 2) := by decide +kernel
theorem d_Da_unpack_78 : decode b_Da_unpack 78 = .ok (.ifCond .le 17, 3) := by decide +kernel
theorem d_Da_unpack_81 : decode b_Da_unpack 81 = .ok (.iload 7, 2) := by decide +kernel
theorem d_Da_unpack_83 : decode b_Da_unpack 83 = .ok (.aload_n 2, 1) := by decide +kernel
theorem d_Da_unpack_84 : decode b_Da_unpack 84 = .ok (.iload 4, 2) := by decide +kernel
theorem d_Da_unpack_86 : decode b_Da_unpack 86 = .ok (.iconst 1, 1) := by decide +kernel
theorem d_Da_unpack_87 : decode b_Da_unpack 87 = .ok (.isub, 1) := by decide +kernel
theorem d_Da_unpack_88 : decode b_Da_unpack 88 = .ok (.iload_n 3, 1) := by decide +kernel
theorem d_Da_unpack_89 : decode b_Da_unpack 89 = .ok (.invokevirtual 30, 3) := by decide +kernel
theorem d_Da_unpack_92 : decode b_Da_unpack 92 = .ok (.iadd, 1) := by decide +kernel
theorem d_Da_unpack_93 : decode b_Da_unpack 93 = .ok (.istore 7, 2) := by decide +kernel
theorem d_Da_unpack_95 : decode b_Da_unpack 95 = .ok (.aload_n 2, 1) := by decide +kernel
theorem d_Da_unpack_96 : decode b_Da_unpack 96 = .ok (.iload 4, 2) := by decide +kernel
theorem d_Da_unpack_98 : decode b_Da_unpack 98 = .ok (.iload_n 3, 1) := by decide +kernel
theorem d_Da_unpack_99 : decode b_Da_unpack 99 = .ok (.iload 7, 2) := by decide +kernel
theorem d_Da_unpack_101 : decode b_Da_unpack 101 = .ok (.invokevirtual 49, 3) := by decide +kernel
theorem d_Da_unpack_104 : decode b_Da_unpack 104 = .ok (.iinc 4 1, 3) := by decide +kernel
theorem d_Da_unpack_107 : decode b_Da_unpack 107 = .ok (.goto (-94), 3) := by decide +kernel
theorem d_Da_unpack_110 : decode b_Da_unpack 110 = .ok (.iinc 3 1, 3) := by decide +kernel
theorem d_Da_unpack_113 : decode b_Da_unpack 113 = .ok (.goto (-111), 3) := by decide +kernel
theorem d_Da_unpack_116 : decode b_Da_unpack 116 = .ok (.return_, 1) := by decide +kernel
def wp_Da_unpack_b95 (post : (Nat → Int32) → Prop) (k2 : (Nat → Int32) → Int32 → Prop) (k13 : (Nat → Int32) → Int32 → Int32 → Prop) (f_p0_bytes : Nat → Int32) (I_p1 : Nat → Int32) (I_p2 : Nat → Int32) (f_p2_samples : Nat → Int32) (x3 : Int32) (x4 : Int32) (x7 : Int32) : Prop :=
  wp_Pi_put (fun (f_p2_samples_101 : Nat → Int32) =>
    k13 f_p2_samples_101 x3 (x4 + 1)) I_p2 f_p2_samples x4 x3 x7
def wp_Da_unpack_l13 (post : (Nat → Int32) → Prop) (k2 : (Nat → Int32) → Int32 → Prop) (f_p0_bytes : Nat → Int32) (I_p1 : Nat → Int32) (I_p2 : Nat → Int32) : Nat → (Nat → Int32) → Int32 → Int32 → Prop
  | 0, _, _, _ => False
  | n + 1, f_p2_samples, x3, x4 =>
    (((I_p1 0) ≤ x4 →
      k2 f_p2_samples (x3 + 1)) ∧
     (¬ (I_p1 0) ≤ x4 →
      wp_Ly_bytesARow (fun (r33 : Int32) =>
        vp_in ((x3 * r33) + ((x4 * (I_p1 2)) / 8)) 256 ∧
        ∀ v : Int32, v = ((f_p0_bytes ((x3 * r33) + ((x4 * (I_p1 2)) / 8)).toNatClampNeg) >>> (((8 - (I_p1 2)) - ((x4 * (I_p1 2)) - (x4 * (I_p1 2)) / 8 * 8)) &&& 31)) →
        (((I_p1 5) = 2 →
          ((x4 ≤ 0 →
            wp_Da_unpack_b95 post k2 (wp_Da_unpack_l13 post k2 f_p0_bytes I_p1 I_p2 n) f_p0_bytes I_p1 I_p2 f_p2_samples x3 x4 v) ∧
           (¬ x4 ≤ 0 →
            wp_Pi_get (fun (r89 : Int32) =>
              wp_Da_unpack_b95 post k2 (wp_Da_unpack_l13 post k2 f_p0_bytes I_p1 I_p2 n) f_p0_bytes I_p1 I_p2 f_p2_samples x3 x4 (v + r89)) I_p2 f_p2_samples (x4 - 1) x3))) ∧
         (¬ (I_p1 5) = 2 →
          wp_Da_unpack_b95 post k2 (wp_Da_unpack_l13 post k2 f_p0_bytes I_p1 I_p2 n) f_p0_bytes I_p1 I_p2 f_p2_samples x3 x4 v))) I_p1))
def wp_Da_unpack_l2 (post : (Nat → Int32) → Prop) (f_p0_bytes : Nat → Int32) (I_p1 : Nat → Int32) (I_p2 : Nat → Int32) : Nat → (Nat → Int32) → Int32 → Prop
  | 0, _, _ => False
  | n + 1, f_p2_samples, x3 =>
    (((I_p1 1) ≤ x3 →
      post f_p2_samples) ∧
     (¬ (I_p1 1) ≤ x3 →
      (∃ n1 : Nat, wp_Da_unpack_l13 post (wp_Da_unpack_l2 post f_p0_bytes I_p1 I_p2 n) f_p0_bytes I_p1 I_p2 n1 f_p2_samples x3 0)))
def wp_Da_unpack (post : (Nat → Int32) → Prop) (f_p0_bytes : Nat → Int32) (I_p1 : Nat → Int32) (I_p2 : Nat → Int32) (f_p2_samples : Nat → Int32) : Prop :=
  (∃ n1 : Nat, wp_Da_unpack_l2 post f_p0_bytes I_p1 I_p2 n1 f_p2_samples 0)
set_option maxRecDepth 100000 in
set_option maxHeartbeats 4000000 in
theorem c_Da_unpack (l : Launch) (dC : Nat → ClassId) (dI : Nat → Nat → Nat) (cI : ClassId) (a_p0 : Nat) (a_p1 : Nat) (a_p2 : Nat) (A_p0 : Nat → Nat) (A_p2 : Nat → Nat) (f_p0_bytes : Nat → Int32) (I_p1 : Nat → Int32) (I_p2 : Nat → Int32) (f_p2_samples : Nat → Int32) {post : (Nat → Int32) → Prop} (hw : wp_Da_unpack post f_p0_bytes I_p1 I_p2 f_p2_samples) : gm_v l y_Da_unpack ws_Da_unpack ({ frames := 2, cells := 0, slots := 0, locals := 45 } : Room) (dC, dI) vwCl [(cI, .int)] [.ref a_p0, .ref a_p1, .ref a_p2] [oDa a_p0 A_p0, gz cI (A_p0 0) 256 f_p0_bytes, oLy a_p1 I_p1, oPi a_p2 A_p2 I_p2, gz cI (A_p2 0) 256 f_p2_samples] (fun (u : (Nat → Int32)) => [oDa a_p0 A_p0, gz cI (A_p0 0) 256 f_p0_bytes, oLy a_p1 I_p1, oPi a_p2 A_p2 I_p2, gz cI (A_p2 0) 256 u]) (fun (u : (Nat → Int32)) => post  u) := by
  refine gm_vof (cc := b_Da_unpack) (maxL := 8) (by decide) rfl (Nat.le_of_ble_eq_true rfl) ?_
  intro p e s m args below meth c A Q hx hb hml hown hg hK hN hA hnm hret
  have hown : s.vm.findClass R_Da = some m.cls := hown
  have b95 : ∀ (k2 : (Nat → Int32) → Int32 → Prop), (∀ (H : Heap) (locs : List Loc) (ls : Array Slot) (f_p2_samples : Nat → Int32) (x3 : Int32), va_P (dC, dI) vwCl [oDa a_p0 A_p0, gz cI (A_p0 0) 256 f_p0_bytes, oLy a_p1 I_p1, oPi a_p2 A_p2 I_p2, gz cI (A_p2 0) 256 f_p2_samples] H → va_D A [oDa a_p0 A_p0, gz cI (A_p0 0) 256 f_p0_bytes, oLy a_p1 I_p1, oPi a_p2 A_p2 I_p2, gz cI (A_p2 0) 256 f_p2_samples] → va_S A s.heap H locs → lv_has ls 8 [(0, .ref a_p0), (1, .ref a_p1), (2, .ref a_p2), (3, .int x3)] → k2 f_p2_samples x3 → W p l e ({ frames := 2, cells := 0, slots := 0, locals := 45 } : Room) s m args below meth c H locs 0 0 Q (F0 m 2 ls [])) → ∀ (k13 : (Nat → Int32) → Int32 → Int32 → Prop), (∀ (H : Heap) (locs : List Loc) (ls : Array Slot) (f_p2_samples : Nat → Int32) (x3 : Int32) (x4 : Int32), va_P (dC, dI) vwCl [oDa a_p0 A_p0, gz cI (A_p0 0) 256 f_p0_bytes, oLy a_p1 I_p1, oPi a_p2 A_p2 I_p2, gz cI (A_p2 0) 256 f_p2_samples] H → va_D A [oDa a_p0 A_p0, gz cI (A_p0 0) 256 f_p0_bytes, oLy a_p1 I_p1, oPi a_p2 A_p2 I_p2, gz cI (A_p2 0) 256 f_p2_samples] → va_S A s.heap H locs → lv_has ls 8 [(0, .ref a_p0), (1, .ref a_p1), (2, .ref a_p2), (3, .int x3), (4, .int x4)] → k13 f_p2_samples x3 x4 → W p l e ({ frames := 2, cells := 0, slots := 0, locals := 45 } : Room) s m args below meth c H locs 0 0 Q (F0 m 13 ls [])) → ∀ (H : Heap) (locs : List Loc) (ls : Array Slot) (f_p2_samples : Nat → Int32) (x3 : Int32) (x4 : Int32) (x7 : Int32), va_P (dC, dI) vwCl [oDa a_p0 A_p0, gz cI (A_p0 0) 256 f_p0_bytes, oLy a_p1 I_p1, oPi a_p2 A_p2 I_p2, gz cI (A_p2 0) 256 f_p2_samples] H → va_D A [oDa a_p0 A_p0, gz cI (A_p0 0) 256 f_p0_bytes, oLy a_p1 I_p1, oPi a_p2 A_p2 I_p2, gz cI (A_p2 0) 256 f_p2_samples] → va_S A s.heap H locs → lv_has ls 8 [(0, .ref a_p0), (1, .ref a_p1), (2, .ref a_p2), (3, .int x3), (4, .int x4), (7, .int x7)] → wp_Da_unpack_b95 post k2 k13 f_p0_bytes I_p1 I_p2 f_p2_samples x3 x4 x7 → W p l e ({ frames := 2, cells := 0, slots := 0, locals := 45 } : Room) s m args below meth c H locs 0 0 Q (F0 m 95 ls []) := by
    intro k2 hk2 k13 hk13 H locs ls f_p2_samples x3 x4 x7 hP hD hS hl hw
    unfold wp_Da_unpack_b95 at hw
    refine lv_aload_n hx hb d_Da_unpack_95 rfl (lv_at hl 2 rfl) ?_
    refine lv_iload hx hb d_Da_unpack_96 (lv_at hl 4 rfl) ?_
    refine lv_iload_n hx hb d_Da_unpack_98 rfl (lv_at hl 3 rfl) ?_
    refine lv_iload hx hb d_Da_unpack_99 (lv_at hl 5 rfl) ?_
    refine gc_v (wn := fun u => [oDa a_p0 A_p0, gz cI (A_p0 0) 256 f_p0_bytes, oLy a_p1 I_p1, oPi a_p2 A_p2 I_p2, gz cI (A_p2 0) 256 u]) (wr := [oDa a_p0 A_p0, gz cI (A_p0 0) 256 f_p0_bytes, oLy a_p1 I_p1]) (gr_V (As := [.int x4, .int x3, .int x7]) (rest := []) ⟨hx, hb, hml, hown, hg⟩ (c_Pi_put l dC dI cI a_p2 A_p2 I_p2 f_p2_samples x4 x3 x7 hw _) (cwV 3 hg (gg_V t_735 t_402 t_403 t_63 t_404) rfl rfl rfl (by decide +kernel) ⟨Nat.le_of_ble_eq_true rfl, Nat.le_of_ble_eq_true rfl⟩) hK hN hP hD [3, 4] (by decide) rfl 3 6 rfl rfl rfl rfl hl.1 rfl (Nat.le_of_ble_eq_true rfl) d_Da_unpack_101 ⟨Nat.le_of_ble_eq_true rfl, Nat.le_of_ble_eq_true rfl⟩) rfl rfl hP hD hS hA [3, 4] [0, 1, 2] [0, 1, 2, 3, 4] rfl rfl (by decide) (by decide) (by decide) (fun _ => rfl) ?_
    intro f_p2_samples_101 H locs hw hP hD hS
    try dsimp only at hw
    have hP : va_P (dC, dI) vwCl [oDa a_p0 A_p0, gz cI (A_p0 0) 256 f_p0_bytes, oLy a_p1 I_p1, oPi a_p2 A_p2 I_p2, gz cI (A_p2 0) 256 f_p2_samples_101] H := hP
    have hD : va_D A [oDa a_p0 A_p0, gz cI (A_p0 0) 256 f_p0_bytes, oLy a_p1 I_p1, oPi a_p2 A_p2 I_p2, gz cI (A_p2 0) 256 f_p2_samples_101] := hD
    refine lv_iinc (k := 4) (v := (x4 + 1)) (lv' := [(4, .int (x4 + 1)), (0, .ref a_p0), (1, .ref a_p1), (2, .ref a_p2), (3, .int x3), (7, .int x7)]) hx hb d_Da_unpack_104 hl rfl (congrArg (fun z => x4 + z) (by decide : Int32.ofInt 1 = 1)) (by decide) rfl (fun ls hl => ?_)
    refine lv_goto hx hb d_Da_unpack_107 rfl ?_
    exact hk13 _ _ _ f_p2_samples_101 x3 (x4 + 1) hP hD hS (lv_sub hl [1, 2, 3, 4, 0] rfl) hw
  have l13 : ∀ (k2 : (Nat → Int32) → Int32 → Prop), (∀ (H : Heap) (locs : List Loc) (ls : Array Slot) (f_p2_samples : Nat → Int32) (x3 : Int32), va_P (dC, dI) vwCl [oDa a_p0 A_p0, gz cI (A_p0 0) 256 f_p0_bytes, oLy a_p1 I_p1, oPi a_p2 A_p2 I_p2, gz cI (A_p2 0) 256 f_p2_samples] H → va_D A [oDa a_p0 A_p0, gz cI (A_p0 0) 256 f_p0_bytes, oLy a_p1 I_p1, oPi a_p2 A_p2 I_p2, gz cI (A_p2 0) 256 f_p2_samples] → va_S A s.heap H locs → lv_has ls 8 [(0, .ref a_p0), (1, .ref a_p1), (2, .ref a_p2), (3, .int x3)] → k2 f_p2_samples x3 → W p l e ({ frames := 2, cells := 0, slots := 0, locals := 45 } : Room) s m args below meth c H locs 0 0 Q (F0 m 2 ls [])) → ∀ n : Nat, ∀ (H : Heap) (locs : List Loc) (ls : Array Slot) (f_p2_samples : Nat → Int32) (x3 : Int32) (x4 : Int32), va_P (dC, dI) vwCl [oDa a_p0 A_p0, gz cI (A_p0 0) 256 f_p0_bytes, oLy a_p1 I_p1, oPi a_p2 A_p2 I_p2, gz cI (A_p2 0) 256 f_p2_samples] H → va_D A [oDa a_p0 A_p0, gz cI (A_p0 0) 256 f_p0_bytes, oLy a_p1 I_p1, oPi a_p2 A_p2 I_p2, gz cI (A_p2 0) 256 f_p2_samples] → va_S A s.heap H locs → lv_has ls 8 [(0, .ref a_p0), (1, .ref a_p1), (2, .ref a_p2), (3, .int x3), (4, .int x4)] → wp_Da_unpack_l13 post k2 f_p0_bytes I_p1 I_p2 n f_p2_samples x3 x4 → W p l e ({ frames := 2, cells := 0, slots := 0, locals := 45 } : Room) s m args below meth c H locs 0 0 Q (F0 m 13 ls []) := by
    intro k2 hk2 n
    induction n with
    | zero => intro H locs ls f_p2_samples x3 x4 hP hD hS hl hw; exact hw.elim
    | succ n ih =>
      intro H locs ls f_p2_samples x3 x4 hP hD hS hl hw
      unfold wp_Da_unpack_l13 at hw
      refine lv_iload hx hb d_Da_unpack_13 (lv_at hl 4 rfl) ?_
      refine lv_aload_n hx hb d_Da_unpack_15 rfl (lv_at hl 1 rfl) ?_
      refine va_get (D := (dC, dI)) (ci := 3) (v := .int (I_p1 0)) (C := R_Ly) (T := T_Ly) (N := 6) hx hb hg in_Ly hown hK hP 2 rfl rfl 0 (by decide) (hg _ t_179) (fun _ h9 => h9) rfl d_Da_unpack_16 ?_
      refine lv_icmp_ge hx hb d_Da_unpack_19 rfl (fun hc => ?_) (fun hc => ?_)
      · have hw := hw.1 hc
        refine lv_iinc (k := 3) (v := (x3 + 1)) (lv' := [(3, .int (x3 + 1)), (0, .ref a_p0), (1, .ref a_p1), (2, .ref a_p2), (4, .int x4)]) hx hb d_Da_unpack_110 hl rfl (congrArg (fun z => x3 + z) (by decide : Int32.ofInt 1 = 1)) (by decide) rfl (fun ls hl => ?_)
        refine lv_goto hx hb d_Da_unpack_113 rfl ?_
        exact hk2 _ _ _ f_p2_samples (x3 + 1) hP hD hS (lv_sub hl [1, 2, 3, 0] rfl) hw
      · have hw := hw.2 hc
        refine lv_iload hx hb d_Da_unpack_22 (lv_at hl 4 rfl) ?_
        refine lv_aload_n hx hb d_Da_unpack_24 rfl (lv_at hl 1 rfl) ?_
        refine va_get (D := (dC, dI)) (ci := 3) (v := .int (I_p1 2)) (C := R_Ly) (T := T_Ly) (N := 6) hx hb hg in_Ly hown hK hP 2 rfl rfl 2 (by decide) (hg _ t_185) (fun _ h9 => h9) rfl d_Da_unpack_25 ?_
        refine lv_imul hx hb d_Da_unpack_28 ?_
        refine lv_istore (lv' := [(5, .int (x4 * (I_p1 2))), (0, .ref a_p0), (1, .ref a_p1), (2, .ref a_p2), (3, .int x3), (4, .int x4)]) hx hb d_Da_unpack_29 hl (by decide) rfl (fun ls hl => ?_)
        refine lv_iload_n hx hb d_Da_unpack_31 rfl (lv_at hl 4 rfl) ?_
        refine lv_aload_n hx hb d_Da_unpack_32 rfl (lv_at hl 2 rfl) ?_
        refine gc_i (wn := fun (_ : Unit) => [oDa a_p0 A_p0, gz cI (A_p0 0) 256 f_p0_bytes, oLy a_p1 I_p1, oPi a_p2 A_p2 I_p2, gz cI (A_p2 0) 256 f_p2_samples]) (wr := [oDa a_p0 A_p0, gz cI (A_p0 0) 256 f_p0_bytes, oPi a_p2 A_p2 I_p2, gz cI (A_p2 0) 256 f_p2_samples]) (gr_V (As := []) (rest := [.int x3]) ⟨hx, hb, hml, hown, hg⟩ (c_Ly_bytesARow l dC dI cI a_p1 I_p1 hw _) (cwV 0 hg (gg_V t_503 t_504 t_505 t_65 t_506) rfl rfl rfl (by decide +kernel) ⟨Nat.le_of_ble_eq_true rfl, Nat.le_of_ble_eq_true rfl⟩) hK hN hP hD [2] (by decide) rfl 2 3 rfl rfl rfl rfl hl.1 rfl (Nat.le_of_ble_eq_true rfl) d_Da_unpack_33 ⟨Nat.le_of_ble_eq_true rfl, Nat.le_of_ble_eq_true rfl⟩) rfl rfl hP hD hS hA [2] [0, 1, 3, 4] [0, 1, 4, 2, 3] rfl rfl (by decide) (by decide) (by decide) (fun _ => rfl) ?_
        intro r33 _ H locs hw hP hD hS
        try dsimp only at hw
        have hP : va_P (dC, dI) vwCl [oDa a_p0 A_p0, gz cI (A_p0 0) 256 f_p0_bytes, oLy a_p1 I_p1, oPi a_p2 A_p2 I_p2, gz cI (A_p2 0) 256 f_p2_samples] H := hP
        have hD : va_D A [oDa a_p0 A_p0, gz cI (A_p0 0) 256 f_p0_bytes, oLy a_p1 I_p1, oPi a_p2 A_p2 I_p2, gz cI (A_p2 0) 256 f_p2_samples] := hD
        refine lv_imul hx hb d_Da_unpack_36 ?_
        refine lv_iload hx hb d_Da_unpack_37 (lv_at hl 0 rfl) ?_
        refine lv_bipush (v := 8) hx hb d_Da_unpack_39 (by decide) ?_
        refine lv_idiv hx hb d_Da_unpack_41 (by decide) ?_
        refine lv_iadd hx hb d_Da_unpack_42 ?_
        refine lv_istore (lv' := [(6, .int ((x3 * r33) + ((x4 * (I_p1 2)) / 8))), (5, .int (x4 * (I_p1 2))), (0, .ref a_p0), (1, .ref a_p1), (2, .ref a_p2), (3, .int x3), (4, .int x4)]) hx hb d_Da_unpack_43 hl (by decide) rfl (fun ls hl => ?_)
        refine lv_aload_n hx hb d_Da_unpack_45 rfl (lv_at hl 2 rfl) ?_
        refine va_get (D := (dC, dI)) (ci := 0) (v := .ref (A_p0 0)) (C := R_Da) (T := T_Da) (N := 1) hx hb hg in_Da hown hK hP 0 rfl rfl 0 (by decide) (hg _ t_213) (fun _ h9 => h9) rfl d_Da_unpack_46 ?_
        refine lv_iload hx hb d_Da_unpack_49 (lv_at hl 0 rfl) ?_
        obtain ⟨hin, hw⟩ := hw
        refine va_iald hx hb hK hP 1 0 rfl rfl hin d_Da_unpack_51 ?_
        refine lv_bipush (v := 8) hx hb d_Da_unpack_52 (by decide) ?_
        refine lv_aload_n hx hb d_Da_unpack_54 rfl (lv_at hl 3 rfl) ?_
        refine va_get (D := (dC, dI)) (ci := 3) (v := .int (I_p1 2)) (C := R_Ly) (T := T_Ly) (N := 6) hx hb hg in_Ly hown hK hP 2 rfl rfl 2 (by decide) (hg _ t_185) (fun _ h9 => h9) rfl d_Da_unpack_55 ?_
        refine lv_isub hx hb d_Da_unpack_58 ?_
        refine lv_iload hx hb d_Da_unpack_59 (lv_at hl 1 rfl) ?_
        refine lv_bipush (v := 8) hx hb d_Da_unpack_61 (by decide) ?_
        refine lv_irem hx hb d_Da_unpack_63 (by decide) ?_
        refine lv_isub hx hb d_Da_unpack_64 ?_
        refine lv_ishr hx hb d_Da_unpack_65 ?_
        refine lv_topi (fun v e_v => ?_)
        have hw := hw v e_v
        refine lv_istore (lv' := [(7, .int v), (6, .int ((x3 * r33) + ((x4 * (I_p1 2)) / 8))), (5, .int (x4 * (I_p1 2))), (0, .ref a_p0), (1, .ref a_p1), (2, .ref a_p2), (3, .int x3), (4, .int x4)]) hx hb d_Da_unpack_66 hl (by decide) rfl (fun ls hl => ?_)
        refine lv_aload_n hx hb d_Da_unpack_68 rfl (lv_at hl 4 rfl) ?_
        refine va_get (D := (dC, dI)) (ci := 3) (v := .int (I_p1 5)) (C := R_Ly) (T := T_Ly) (N := 6) hx hb hg in_Ly hown hK hP 2 rfl rfl 5 (by decide) (hg _ t_192) (fun _ h9 => h9) rfl d_Da_unpack_69 ?_
        refine lv_iconst (v := 2) hx hb d_Da_unpack_72 (by decide) ?_
        refine lv_icmp_ne hx hb d_Da_unpack_73 rfl (fun hc => ?_) (fun hc => ?_)
        · have hw := hw.2 hc
          exact b95 _ hk2 _ ih _ _ _ f_p2_samples x3 x4 v hP hD hS (lv_sub hl [3, 4, 5, 6, 7, 0] rfl) hw
        · have hw := hw.1 hc
          refine lv_iload hx hb d_Da_unpack_76 (lv_at hl 7 rfl) ?_
          refine lv_if_le hx hb d_Da_unpack_78 rfl (fun hc => ?_) (fun hc => ?_)
          · have hw := hw.1 hc
            exact b95 _ hk2 _ ih _ _ _ f_p2_samples x3 x4 v hP hD hS (lv_sub hl [3, 4, 5, 6, 7, 0] rfl) hw
          · have hw := hw.2 hc
            refine lv_iload hx hb d_Da_unpack_81 (lv_at hl 0 rfl) ?_
            refine lv_aload_n hx hb d_Da_unpack_83 rfl (lv_at hl 5 rfl) ?_
            refine lv_iload hx hb d_Da_unpack_84 (lv_at hl 7 rfl) ?_
            refine lv_iconst (v := 1) hx hb d_Da_unpack_86 (by decide) ?_
            refine lv_isub hx hb d_Da_unpack_87 ?_
            refine lv_iload_n hx hb d_Da_unpack_88 rfl (lv_at hl 6 rfl) ?_
            refine gc_i (wn := fun (_ : Unit) => [oDa a_p0 A_p0, gz cI (A_p0 0) 256 f_p0_bytes, oLy a_p1 I_p1, oPi a_p2 A_p2 I_p2, gz cI (A_p2 0) 256 f_p2_samples]) (wr := [oDa a_p0 A_p0, gz cI (A_p0 0) 256 f_p0_bytes, oLy a_p1 I_p1]) (gr_V (As := [.int (x4 - 1), .int x3]) (rest := [.int v]) ⟨hx, hb, hml, hown, hg⟩ (c_Pi_get l dC dI cI a_p2 A_p2 I_p2 f_p2_samples (x4 - 1) x3 hw _) (cwV 2 hg (gg_V t_501 t_412 t_413 t_63 t_414) rfl rfl rfl (by decide +kernel) ⟨Nat.le_of_ble_eq_true rfl, Nat.le_of_ble_eq_true rfl⟩) hK hN hP hD [3, 4] (by decide) rfl 3 6 rfl rfl rfl rfl hl.1 rfl (Nat.le_of_ble_eq_true rfl) d_Da_unpack_89 ⟨Nat.le_of_ble_eq_true rfl, Nat.le_of_ble_eq_true rfl⟩) rfl rfl hP hD hS hA [3, 4] [0, 1, 2] [0, 1, 2, 3, 4] rfl rfl (by decide) (by decide) (by decide) (fun _ => rfl) ?_
            intro r89 _ H locs hw hP hD hS
            try dsimp only at hw
            have hP : va_P (dC, dI) vwCl [oDa a_p0 A_p0, gz cI (A_p0 0) 256 f_p0_bytes, oLy a_p1 I_p1, oPi a_p2 A_p2 I_p2, gz cI (A_p2 0) 256 f_p2_samples] H := hP
            have hD : va_D A [oDa a_p0 A_p0, gz cI (A_p0 0) 256 f_p0_bytes, oLy a_p1 I_p1, oPi a_p2 A_p2 I_p2, gz cI (A_p2 0) 256 f_p2_samples] := hD
            refine lv_iadd hx hb d_Da_unpack_92 ?_
            refine lv_istore (lv' := [(7, .int (v + r89)), (6, .int ((x3 * r33) + ((x4 * (I_p1 2)) / 8))), (5, .int (x4 * (I_p1 2))), (0, .ref a_p0), (1, .ref a_p1), (2, .ref a_p2), (3, .int x3), (4, .int x4)]) hx hb d_Da_unpack_93 hl (by decide) rfl (fun ls hl => ?_)
            exact b95 _ hk2 _ ih _ _ _ f_p2_samples x3 x4 (v + r89) hP hD hS (lv_sub hl [3, 4, 5, 6, 7, 0] rfl) hw
  have l2 : ∀ n : Nat, ∀ (H : Heap) (locs : List Loc) (ls : Array Slot) (f_p2_samples : Nat → Int32) (x3 : Int32), va_P (dC, dI) vwCl [oDa a_p0 A_p0, gz cI (A_p0 0) 256 f_p0_bytes, oLy a_p1 I_p1, oPi a_p2 A_p2 I_p2, gz cI (A_p2 0) 256 f_p2_samples] H → va_D A [oDa a_p0 A_p0, gz cI (A_p0 0) 256 f_p0_bytes, oLy a_p1 I_p1, oPi a_p2 A_p2 I_p2, gz cI (A_p2 0) 256 f_p2_samples] → va_S A s.heap H locs → lv_has ls 8 [(0, .ref a_p0), (1, .ref a_p1), (2, .ref a_p2), (3, .int x3)] → wp_Da_unpack_l2 post f_p0_bytes I_p1 I_p2 n f_p2_samples x3 → W p l e ({ frames := 2, cells := 0, slots := 0, locals := 45 } : Room) s m args below meth c H locs 0 0 Q (F0 m 2 ls []) := by
    intro n
    induction n with
    | zero => intro H locs ls f_p2_samples x3 hP hD hS hl hw; exact hw.elim
    | succ n ih =>
      intro H locs ls f_p2_samples x3 hP hD hS hl hw
      unfold wp_Da_unpack_l2 at hw
      refine lv_iload_n hx hb d_Da_unpack_2 rfl (lv_at hl 3 rfl) ?_
      refine lv_aload_n hx hb d_Da_unpack_3 rfl (lv_at hl 1 rfl) ?_
      refine va_get (D := (dC, dI)) (ci := 3) (v := .int (I_p1 1)) (C := R_Ly) (T := T_Ly) (N := 6) hx hb hg in_Ly hown hK hP 2 rfl rfl 1 (by decide) (hg _ t_182) (fun _ h9 => h9) rfl d_Da_unpack_4 ?_
      refine lv_icmp_ge hx hb d_Da_unpack_7 rfl (fun hc => ?_) (fun hc => ?_)
      · have hw := hw.1 hc
        exact hret _ _ _ _ f_p2_samples d_Da_unpack_116 hP hD hS hw
      · have hw := hw.2 hc
        refine lv_iconst (v := 0) hx hb d_Da_unpack_10 (by decide) ?_
        refine lv_istore (lv' := [(4, .int 0), (0, .ref a_p0), (1, .ref a_p1), (2, .ref a_p2), (3, .int x3)]) hx hb d_Da_unpack_11 hl (by decide) rfl (fun ls hl => ?_)
        obtain ⟨n1, hw⟩ := hw
        exact l13 _ ih n1 _ _ _ f_p2_samples x3 0 hP hD hS (lv_sub hl [1, 2, 3, 4, 0] rfl) hw
  intro ls hl hP hD hS
  have hl : lv_has ls 8 [(0, .ref a_p0), (1, .ref a_p1), (2, .ref a_p2)] := hl
  unfold wp_Da_unpack at hw
  refine lv_iconst (v := 0) hx hb d_Da_unpack_0 (by decide) ?_
  refine lv_istore_n (lv' := [(3, .int 0), (0, .ref a_p0), (1, .ref a_p1), (2, .ref a_p2)]) hx hb d_Da_unpack_1 rfl hl (by decide) rfl (fun ls hl => ?_)
  obtain ⟨n1, hw⟩ := hw
  exact l2 n1 _ _ _ f_p2_samples 0 hP hD hS (lv_sub hl [1, 2, 3, 0] rfl) hw
