theorem d_X_appendDirectory_0 : decode b_X_appendDirectory 0 = .ok (.aload_n 0, 1) := by decide +kernel
theorem d_X_appendDirectory_1 : decode b_X_appendDirectory 1 = .ok (.getfield 10, 3) := by decide +kernel
theorem d_X_appendDirectory_4 : decode b_X_appendDirectory 4 = .ok (.invokevirtual 255, 3) := by decide +kernel
theorem d_X_appendDirectory_7 : decode b_X_appendDirectory 7 = .ok (.aload_n 0, 1) := by decide +kernel
theorem d_X_appendDirectory_8 : decode b_X_appendDirectory 8 = .ok (.getfield 10, 3) := by decide +kernel
theorem d_X_appendDirectory_11 : decode b_X_appendDirectory 11 = .ok (.getfield 174, 3) := by decide +kernel
theorem d_X_appendDirectory_14 : decode b_X_appendDirectory 14 = .ok (.istore_n 3, 1) := by decide +kernel
theorem d_X_appendDirectory_15 : decode b_X_appendDirectory 15 = .ok (.aload_n 0, 1) := by decide +kernel
theorem d_X_appendDirectory_16 : decode b_X_appendDirectory 16 = .ok (.getfield 10, 3) := by decide +kernel
theorem d_X_appendDirectory_19 : decode b_X_appendDirectory 19 = .ok (.bipush 8, 2) := by decide +kernel
theorem d_X_appendDirectory_21 : decode b_X_appendDirectory 21 = .ok (.aload_n 0, 1) := by decide +kernel
theorem d_X_appendDirectory_22 : decode b_X_appendDirectory 22 = .ok (.getfield 33, 3) := by decide +kernel
theorem d_X_appendDirectory_25 : decode b_X_appendDirectory 25 = .ok (.getfield 144, 3) := by decide +kernel
theorem d_X_appendDirectory_28 : decode b_X_appendDirectory 28 = .ok (.iadd, 1) := by decide +kernel
theorem d_X_appendDirectory_29 : decode b_X_appendDirectory 29 = .ok (.invokevirtual 299, 3) := by decide +kernel
theorem d_X_appendDirectory_32 : decode b_X_appendDirectory 32 = .ok (.aload_n 0, 1) := by decide +kernel
theorem d_X_appendDirectory_33 : decode b_X_appendDirectory 33 = .ok (.sipush 256, 3) := by decide +kernel
theorem d_X_appendDirectory_36 : decode b_X_appendDirectory 36 = .ok (.aload_n 0, 1) := by decide +kernel
theorem d_X_appendDirectory_37 : decode b_X_appendDirectory 37 = .ok (.getfield 40, 3) := by decide +kernel
theorem d_X_appendDirectory_40 : decode b_X_appendDirectory 40 = .ok (.getfield 203, 3) := by decide +kernel
theorem d_X_appendDirectory_43 : decode b_X_appendDirectory 43 = .ok (.invokevirtual 302, 3) := by decide +kernel
theorem d_X_appendDirectory_46 : decode b_X_appendDirectory 46 = .ok (.aload_n 0, 1) := by decide +kernel
theorem d_X_appendDirectory_47 : decode b_X_appendDirectory 47 = .ok (.sipush 257, 3) := by decide +kernel
theorem d_X_appendDirectory_50 : decode b_X_appendDirectory 50 = .ok (.aload_n 0, 1) := by decide +kernel
theorem d_X_appendDirectory_51 : decode b_X_appendDirectory 51 = .ok (.getfield 40, 3) := by decide +kernel
theorem d_X_appendDirectory_54 : decode b_X_appendDirectory 54 = .ok (.getfield 204, 3) := by decide +kernel
theorem d_X_appendDirectory_57 : decode b_X_appendDirectory 57 = .ok (.invokevirtual 302, 3) := by decide +kernel
theorem d_X_appendDirectory_60 : decode b_X_appendDirectory 60 = .ok (.aload_n 0, 1) := by decide +kernel
theorem d_X_appendDirectory_61 : decode b_X_appendDirectory 61 = .ok (.sipush 258, 3) := by decide +kernel
theorem d_X_appendDirectory_64 : decode b_X_appendDirectory 64 = .ok (.aload_n 0, 1) := by decide +kernel
theorem d_X_appendDirectory_65 : decode b_X_appendDirectory 65 = .ok (.getfield 40, 3) := by decide +kernel
theorem d_X_appendDirectory_68 : decode b_X_appendDirectory 68 = .ok (.getfield 205, 3) := by decide +kernel
theorem d_X_appendDirectory_71 : decode b_X_appendDirectory 71 = .ok (.invokevirtual 302, 3) := by decide +kernel
theorem d_X_appendDirectory_74 : decode b_X_appendDirectory 74 = .ok (.aload_n 0, 1) := by decide +kernel
theorem d_X_appendDirectory_75 : decode b_X_appendDirectory 75 = .ok (.sipush 259, 3) := by decide +kernel
theorem d_X_appendDirectory_78 : decode b_X_appendDirectory 78 = .ok (.aload_n 0, 1) := by decide +kernel
theorem d_X_appendDirectory_79 : decode b_X_appendDirectory 79 = .ok (.getfield 40, 3) := by decide +kernel
theorem d_X_appendDirectory_82 : decode b_X_appendDirectory 82 = .ok (.getfield 258, 3) := by decide +kernel
theorem d_X_appendDirectory_85 : decode b_X_appendDirectory 85 = .ok (.invokevirtual 302, 3) := by decide +kernel
theorem d_X_appendDirectory_88 : decode b_X_appendDirectory 88 = .ok (.aload_n 0, 1) := by decide +kernel
theorem d_X_appendDirectory_89 : decode b_X_appendDirectory 89 = .ok (.sipush 273, 3) := by decide +kernel
theorem d_X_appendDirectory_92 : decode b_X_appendDirectory 92 = .ok (.iload_n 1, 1) := by decide +kernel
theorem d_X_appendDirectory_93 : decode b_X_appendDirectory 93 = .ok (.invokevirtual 305, 3) := by decide +kernel
theorem d_X_appendDirectory_96 : decode b_X_appendDirectory 96 = .ok (.aload_n 0, 1) := by decide +kernel
theorem d_X_appendDirectory_97 : decode b_X_appendDirectory 97 = .ok (.sipush 278, 3) := by decide +kernel
theorem d_X_appendDirectory_100 : decode b_X_appendDirectory 100 = .ok (.aload_n 0, 1) := by decide +kernel
theorem d_X_appendDirectory_101 : decode b_X_appendDirectory 101 = .ok (.getfield 40, 3) := by decide +kernel
theorem d_X_appendDirectory_104 : decode b_X_appendDirectory 104 = .ok (.getfield 308, 3) := by decide +kernel
theorem d_X_appendDirectory_107 : decode b_X_appendDirectory 107 = .ok (.invokevirtual 302, 3) := by decide +kernel
theorem d_X_appendDirectory_110 : decode b_X_appendDirectory 110 = .ok (.aload_n 0, 1) := by decide +kernel
theorem d_X_appendDirectory_111 : decode b_X_appendDirectory 111 = .ok (.sipush 279, 3) := by decide +kernel
theorem d_X_appendDirectory_114 : decode b_X_appendDirectory 114 = .ok (.iload_n 2, 1) := by decide +kernel
theorem d_X_appendDirectory_115 : decode b_X_appendDirectory 115 = .ok (.invokevirtual 305, 3) := by decide +kernel
theorem d_X_appendDirectory_118 : decode b_X_appendDirectory 118 = .ok (.aload_n 0, 1) := by decide +kernel
theorem d_X_appendDirectory_119 : decode b_X_appendDirectory 119 = .ok (.sipush 317, 3) := by decide +kernel
theorem d_X_appendDirectory_122 : decode b_X_appendDirectory 122 = .ok (.aload_n 0, 1) := by decide +kernel
theorem d_X_appendDirectory_123 : decode b_X_appendDirectory 123 = .ok (.getfield 40, 3) := by decide +kernel
theorem d_X_appendDirectory_126 : decode b_X_appendDirectory 126 = .ok (.getfield 311, 3) := by decide +kernel
theorem d_X_appendDirectory_129 : decode b_X_appendDirectory 129 = .ok (.invokevirtual 302, 3) := by decide +kernel
theorem d_X_appendDirectory_132 : decode b_X_appendDirectory 132 = .ok (.iconst 0, 1) := by decide +kernel
theorem d_X_appendDirectory_133 : decode b_X_appendDirectory 133 = .ok (.istore 4, 2) := by decide +kernel
theorem d_X_appendDirectory_135 : decode b_X_appendDirectory 135 = .ok (.iload 4, 2) := by decide +kernel
theorem d_X_appendDirectory_137 : decode b_X_appendDirectory 137 = .ok (.aload_n 0, 1) := by decide +kernel
theorem d_X_appendDirectory_138 : decode b_X_appendDirectory 138 = .ok (.getfield 33, 3) := by decide +kernel
theorem d_X_appendDirectory_141 : decode b_X_appendDirectory 141 = .ok (.getfield 144, 3) := by decide +kernel
theorem d_X_appendDirectory_144 : decode b_X_appendDirectory 144 = .ok (.if_icmp .ge 22, 3) := by decide +kernel
theorem d_X_appendDirectory_147 : decode b_X_appendDirectory 147 = .ok (.aload_n 0, 1) := by decide +kernel
theorem d_X_appendDirectory_148 : decode b_X_appendDirectory 148 = .ok (.aload_n 0, 1) := by decide +kernel
theorem d_X_appendDirectory_149 : decode b_X_appendDirectory 149 = .ok (.getfield 33, 3) := by decide +kernel
theorem d_X_appendDirectory_152 : decode b_X_appendDirectory 152 = .ok (.iload 4, 2) := by decide +kernel
theorem d_X_appendDirectory_154 : decode b_X_appendDirectory 154 = .ok (.invokevirtual 290, 3) := by decide +kernel
theorem d_X_appendDirectory_157 : decode b_X_appendDirectory 157 = .ok (.invokevirtual 314, 3) := by decide +kernel
theorem d_X_appendDirectory_160 : decode b_X_appendDirectory 160 = .ok (.iinc 4 1, 3) := by decide +kernel
theorem d_X_appendDirectory_163 : decode b_X_appendDirectory 163 = .ok (.goto (-28), 3) := by decide +kernel
theorem d_X_appendDirectory_166 : decode b_X_appendDirectory 166 = .ok (.aload_n 0, 1) := by decide +kernel
theorem d_X_appendDirectory_167 : decode b_X_appendDirectory 167 = .ok (.getfield 10, 3) := by decide +kernel
theorem d_X_appendDirectory_170 : decode b_X_appendDirectory 170 = .ok (.iconst 0, 1) := by decide +kernel
theorem d_X_appendDirectory_171 : decode b_X_appendDirectory 171 = .ok (.invokevirtual 286, 3) := by decide +kernel
theorem d_X_appendDirectory_174 : decode b_X_appendDirectory 174 = .ok (.iload_n 3, 1) := by decide +kernel
theorem d_X_appendDirectory_175 : decode b_X_appendDirectory 175 = .ok (.ireturn, 1) := by decide +kernel
def wp_X_appendDirectory_l135 (post : Int32 → (Nat → Int32) → (Nat → Int32) → Prop) (I_p0_labels : Nat → Int32) (f_p0_labels_characters : Nat → Int32) (f_p0_labels_sizes : Nat → Int32) (f_p0_labels_tags : Nat → Int32) (I_p0_layout : Nat → Int32) (f_p0_writtenTexts : Nat → Int32) : Nat → (Nat → Int32) → (Nat → Int32) → Int32 → Int32 → Prop
  | 0, _, _, _, _ => False
  | n + 1, I_p0_file, f_p0_file_bytes, x3, x4 =>
    (((I_p0_labels 3) ≤ x4 →
      wp_St_appendLong (fun (I_p0_file_171 : Nat → Int32) (f_p0_file_bytes_171 : Nat → Int32) =>
        post x3 I_p0_file_171 f_p0_file_bytes_171) I_p0_file f_p0_file_bytes 0) ∧
     (¬ (I_p0_labels 3) ≤ x4 →
      wp_Lb_inOrder (fun (r154 : Int32) =>
        wp_X_appendTextEntry (fun (I_p0_file_157 : Nat → Int32) (f_p0_file_bytes_157 : Nat → Int32) =>
          wp_X_appendDirectory_l135 post I_p0_labels f_p0_labels_characters f_p0_labels_sizes f_p0_labels_tags I_p0_layout f_p0_writtenTexts n I_p0_file_157 f_p0_file_bytes_157 x3 (x4 + 1)) I_p0_labels f_p0_labels_characters f_p0_labels_sizes f_p0_labels_tags f_p0_writtenTexts I_p0_file f_p0_file_bytes r154) I_p0_labels f_p0_labels_tags x4))
def wp_X_appendDirectory (post : Int32 → (Nat → Int32) → (Nat → Int32) → Prop) (I_p0_labels : Nat → Int32) (f_p0_labels_characters : Nat → Int32) (f_p0_labels_sizes : Nat → Int32) (f_p0_labels_tags : Nat → Int32) (I_p0_layout : Nat → Int32) (f_p0_writtenTexts : Nat → Int32) (I_p0_file : Nat → Int32) (f_p0_file_bytes : Nat → Int32) (x1 : Int32) (x2 : Int32) : Prop :=
  wp_St_appendToEven (fun (I_p0_file_4 : Nat → Int32) (f_p0_file_bytes_4 : Nat → Int32) =>
    wp_St_appendShort (fun (I_p0_file_29 : Nat → Int32) (f_p0_file_bytes_29 : Nat → Int32) =>
      wp_X_appendShortEntry (fun (I_p0_file_43 : Nat → Int32) (f_p0_file_bytes_43 : Nat → Int32) =>
        wp_X_appendShortEntry (fun (I_p0_file_57 : Nat → Int32) (f_p0_file_bytes_57 : Nat → Int32) =>
          wp_X_appendShortEntry (fun (I_p0_file_71 : Nat → Int32) (f_p0_file_bytes_71 : Nat → Int32) =>
            wp_X_appendShortEntry (fun (I_p0_file_85 : Nat → Int32) (f_p0_file_bytes_85 : Nat → Int32) =>
              wp_X_appendStripsEntry (fun (I_p0_file_93 : Nat → Int32) (f_p0_file_bytes_93 : Nat → Int32) =>
                wp_X_appendShortEntry (fun (I_p0_file_107 : Nat → Int32) (f_p0_file_bytes_107 : Nat → Int32) =>
                  wp_X_appendStripsEntry (fun (I_p0_file_115 : Nat → Int32) (f_p0_file_bytes_115 : Nat → Int32) =>
                    wp_X_appendShortEntry (fun (I_p0_file_129 : Nat → Int32) (f_p0_file_bytes_129 : Nat → Int32) =>
                      (∃ n1 : Nat, wp_X_appendDirectory_l135 post I_p0_labels f_p0_labels_characters f_p0_labels_sizes f_p0_labels_tags I_p0_layout f_p0_writtenTexts n1 I_p0_file_129 f_p0_file_bytes_129 (I_p0_file_4 2) 0)) I_p0_file_115 f_p0_file_bytes_115 317 (I_p0_layout 5)) I_p0_layout I_p0_file_107 f_p0_file_bytes_107 279 x2) I_p0_file_93 f_p0_file_bytes_93 278 (I_p0_layout 4)) I_p0_layout I_p0_file_85 f_p0_file_bytes_85 273 x1) I_p0_file_71 f_p0_file_bytes_71 259 (I_p0_layout 3)) I_p0_file_57 f_p0_file_bytes_57 258 (I_p0_layout 2)) I_p0_file_43 f_p0_file_bytes_43 257 (I_p0_layout 1)) I_p0_file_29 f_p0_file_bytes_29 256 (I_p0_layout 0)) I_p0_file_4 f_p0_file_bytes_4 (8 + (I_p0_labels 3))) I_p0_file f_p0_file_bytes
set_option maxRecDepth 100000 in
set_option maxHeartbeats 4000000 in
theorem c_X_appendDirectory (l : Launch) (dC : Nat → ClassId) (dI : Nat → Nat → Nat) (cI : ClassId) (a_p0 : Nat) (A_p0 : Nat → Nat) (A_p0_file : Nat → Nat) (A_p0_labels : Nat → Nat) (I_p0_labels : Nat → Int32) (f_p0_labels_characters : Nat → Int32) (f_p0_labels_sizes : Nat → Int32) (f_p0_labels_tags : Nat → Int32) (I_p0_layout : Nat → Int32) (f_p0_writtenTexts : Nat → Int32) (I_p0_file : Nat → Int32) (f_p0_file_bytes : Nat → Int32) (x1 : Int32) (x2 : Int32) {post : Int32 → (Nat → Int32) → (Nat → Int32) → Prop} (hw : wp_X_appendDirectory post I_p0_labels f_p0_labels_characters f_p0_labels_sizes f_p0_labels_tags I_p0_layout f_p0_writtenTexts I_p0_file f_p0_file_bytes x1 x2) : gm_i l y_X_appendDirectory ws_X_appendDirectory ({ frames := 3, cells := 0, slots := 0, locals := 68 } : Room) (dC, dI) vwCl [(cI, .int)] [.ref a_p0, .int x1, .int x2] [oX a_p0 A_p0, oSt (A_p0 0) A_p0_file I_p0_file, gz cI (A_p0_file 0) 900 f_p0_file_bytes, oLb (A_p0 3) A_p0_labels I_p0_labels, gz cI (A_p0_labels 2) 24 f_p0_labels_characters, gz cI (A_p0_labels 1) 2 f_p0_labels_sizes, gz cI (A_p0_labels 0) 2 f_p0_labels_tags, oLy (A_p0 4) I_p0_layout, gz cI (A_p0 13) 2 f_p0_writtenTexts] (fun (u : (Nat → Int32) × (Nat → Int32)) => [oX a_p0 A_p0, oSt (A_p0 0) A_p0_file u.1, gz cI (A_p0_file 0) 900 u.2, oLb (A_p0 3) A_p0_labels I_p0_labels, gz cI (A_p0_labels 2) 24 f_p0_labels_characters, gz cI (A_p0_labels 1) 2 f_p0_labels_sizes, gz cI (A_p0_labels 0) 2 f_p0_labels_tags, oLy (A_p0 4) I_p0_layout, gz cI (A_p0 13) 2 f_p0_writtenTexts]) (fun (r : Int32) (u : (Nat → Int32) × (Nat → Int32)) => post r u.1 u.2) := by
  refine gm_iof (cc := b_X_appendDirectory) (maxL := 5) (ty := .int) (by decide) rfl (Nat.le_of_ble_eq_true rfl) ?_
  intro p e s m args below meth c A Q hx hb hml hown hg hK hN hA hret
  have hown : s.vm.findClass R_X = some m.cls := hown
  have l135 : ∀ n : Nat, ∀ (H : Heap) (locs : List Loc) (ls : Array Slot) (I_p0_file : Nat → Int32) (f_p0_file_bytes : Nat → Int32) (x3 : Int32) (x4 : Int32), va_P (dC, dI) vwCl [oX a_p0 A_p0, oSt (A_p0 0) A_p0_file I_p0_file, gz cI (A_p0_file 0) 900 f_p0_file_bytes, oLb (A_p0 3) A_p0_labels I_p0_labels, gz cI (A_p0_labels 2) 24 f_p0_labels_characters, gz cI (A_p0_labels 1) 2 f_p0_labels_sizes, gz cI (A_p0_labels 0) 2 f_p0_labels_tags, oLy (A_p0 4) I_p0_layout, gz cI (A_p0 13) 2 f_p0_writtenTexts] H → va_D A [oX a_p0 A_p0, oSt (A_p0 0) A_p0_file I_p0_file, gz cI (A_p0_file 0) 900 f_p0_file_bytes, oLb (A_p0 3) A_p0_labels I_p0_labels, gz cI (A_p0_labels 2) 24 f_p0_labels_characters, gz cI (A_p0_labels 1) 2 f_p0_labels_sizes, gz cI (A_p0_labels 0) 2 f_p0_labels_tags, oLy (A_p0 4) I_p0_layout, gz cI (A_p0 13) 2 f_p0_writtenTexts] → va_S A s.heap H locs → lv_has ls 5 [(0, .ref a_p0), (3, .int x3), (4, .int x4)] → wp_X_appendDirectory_l135 post I_p0_labels f_p0_labels_characters f_p0_labels_sizes f_p0_labels_tags I_p0_layout f_p0_writtenTexts n I_p0_file f_p0_file_bytes x3 x4 → W p l e ({ frames := 3, cells := 0, slots := 0, locals := 68 } : Room) s m args below meth c H locs 0 0 Q (F0 m 135 ls []) := by
    intro n
    induction n with
    | zero => intro H locs ls I_p0_file f_p0_file_bytes x3 x4 hP hD hS hl hw; exact hw.elim
    | succ n ih =>
      intro H locs ls I_p0_file f_p0_file_bytes x3 x4 hP hD hS hl hw
      unfold wp_X_appendDirectory_l135 at hw
      refine lv_iload hx hb d_X_appendDirectory_135 (lv_at hl 2 rfl) ?_
      refine lv_aload_n hx hb d_X_appendDirectory_137 rfl (lv_at hl 0 rfl) ?_
      refine va_get (D := (dC, dI)) (ci := 9) (v := .ref (A_p0 3)) (C := R_X) (T := T_X) (N := 14) hx hb hg in_X hown hK hP 0 rfl rfl 3 (by decide) (hg _ t_310) (fun _ h9 => h9) rfl d_X_appendDirectory_138 ?_
      refine va_get (D := (dC, dI)) (ci := 2) (v := .int (I_p0_labels 3)) (C := R_Lb) (T := T_Lb) (N := 4) hx hb hg in_Lb hown hK hP 3 rfl rfl 3 (by decide) (hg _ t_162) (fun _ h9 => h9) rfl d_X_appendDirectory_141 ?_
      refine lv_icmp_ge hx hb d_X_appendDirectory_144 rfl (fun hc => ?_) (fun hc => ?_)
      · have hw := hw.1 hc
        refine lv_aload_n hx hb d_X_appendDirectory_166 rfl (lv_at hl 0 rfl) ?_
        refine va_get (D := (dC, dI)) (ci := 9) (v := .ref (A_p0 0)) (C := R_X) (T := T_X) (N := 14) hx hb hg in_X hown hK hP 0 rfl rfl 0 (by decide) (hg _ t_307) (fun _ h9 => h9) rfl d_X_appendDirectory_167 ?_
        refine lv_iconst (v := 0) hx hb d_X_appendDirectory_170 (by decide) ?_
        refine gc_v (wn := fun u => [oX a_p0 A_p0, oSt (A_p0 0) A_p0_file u.1, gz cI (A_p0_file 0) 900 u.2, oLb (A_p0 3) A_p0_labels I_p0_labels, gz cI (A_p0_labels 2) 24 f_p0_labels_characters, gz cI (A_p0_labels 1) 2 f_p0_labels_sizes, gz cI (A_p0_labels 0) 2 f_p0_labels_tags, oLy (A_p0 4) I_p0_layout, gz cI (A_p0 13) 2 f_p0_writtenTexts]) (wr := [oX a_p0 A_p0, oLb (A_p0 3) A_p0_labels I_p0_labels, gz cI (A_p0_labels 2) 24 f_p0_labels_characters, gz cI (A_p0_labels 1) 2 f_p0_labels_sizes, gz cI (A_p0_labels 0) 2 f_p0_labels_tags, oLy (A_p0 4) I_p0_layout, gz cI (A_p0 13) 2 f_p0_writtenTexts]) (gr_V (As := [.int 0]) (rest := []) ⟨hx, hb, hml, hown, hg⟩ (c_St_appendLong l dC dI cI (A_p0 0) A_p0_file I_p0_file f_p0_file_bytes 0 hw _) (cwV 1 hg (gg_V t_588 t_293 t_294 t_61 t_295) rfl rfl rfl (by decide +kernel) ⟨Nat.le_of_ble_eq_true rfl, Nat.le_of_ble_eq_true rfl⟩) hK hN hP hD [1, 2] (by decide) rfl 1 7 rfl rfl rfl rfl hl.1 rfl (Nat.le_of_ble_eq_true rfl) d_X_appendDirectory_171 ⟨Nat.le_of_ble_eq_true rfl, Nat.le_of_ble_eq_true rfl⟩) rfl rfl hP hD hS hA [1, 2] [0, 3, 4, 5, 6, 7, 8] [0, 7, 8, 1, 2, 3, 4, 5, 6] rfl rfl (by decide) (by decide) (by decide) (fun _ => rfl) ?_
        intro u9 H locs hw hP hD hS
        obtain ⟨I_p0_file_171, f_p0_file_bytes_171⟩ := u9
        try dsimp only at hw
        have hP : va_P (dC, dI) vwCl [oX a_p0 A_p0, oSt (A_p0 0) A_p0_file I_p0_file_171, gz cI (A_p0_file 0) 900 f_p0_file_bytes_171, oLb (A_p0 3) A_p0_labels I_p0_labels, gz cI (A_p0_labels 2) 24 f_p0_labels_characters, gz cI (A_p0_labels 1) 2 f_p0_labels_sizes, gz cI (A_p0_labels 0) 2 f_p0_labels_tags, oLy (A_p0 4) I_p0_layout, gz cI (A_p0 13) 2 f_p0_writtenTexts] H := hP
        have hD : va_D A [oX a_p0 A_p0, oSt (A_p0 0) A_p0_file I_p0_file_171, gz cI (A_p0_file 0) 900 f_p0_file_bytes_171, oLb (A_p0 3) A_p0_labels I_p0_labels, gz cI (A_p0_labels 2) 24 f_p0_labels_characters, gz cI (A_p0_labels 1) 2 f_p0_labels_sizes, gz cI (A_p0_labels 0) 2 f_p0_labels_tags, oLy (A_p0 4) I_p0_layout, gz cI (A_p0 13) 2 f_p0_writtenTexts] := hD
        refine lv_iload_n hx hb d_X_appendDirectory_174 rfl (lv_at hl 1 rfl) ?_
        exact hret _ _ _ _ _ (I_p0_file_171, f_p0_file_bytes_171) d_X_appendDirectory_175 rfl hP hD hS hw
      · have hw := hw.2 hc
        refine lv_aload_n hx hb d_X_appendDirectory_147 rfl (lv_at hl 0 rfl) ?_
        refine lv_aload_n hx hb d_X_appendDirectory_148 rfl (lv_at hl 0 rfl) ?_
        refine va_get (D := (dC, dI)) (ci := 9) (v := .ref (A_p0 3)) (C := R_X) (T := T_X) (N := 14) hx hb hg in_X hown hK hP 0 rfl rfl 3 (by decide) (hg _ t_310) (fun _ h9 => h9) rfl d_X_appendDirectory_149 ?_
        refine lv_iload hx hb d_X_appendDirectory_152 (lv_at hl 2 rfl) ?_
        refine gc_i (wn := fun (_ : Unit) => [oX a_p0 A_p0, oSt (A_p0 0) A_p0_file I_p0_file, gz cI (A_p0_file 0) 900 f_p0_file_bytes, oLb (A_p0 3) A_p0_labels I_p0_labels, gz cI (A_p0_labels 2) 24 f_p0_labels_characters, gz cI (A_p0_labels 1) 2 f_p0_labels_sizes, gz cI (A_p0_labels 0) 2 f_p0_labels_tags, oLy (A_p0 4) I_p0_layout, gz cI (A_p0 13) 2 f_p0_writtenTexts]) (wr := [oX a_p0 A_p0, oSt (A_p0 0) A_p0_file I_p0_file, gz cI (A_p0_file 0) 900 f_p0_file_bytes, gz cI (A_p0_labels 2) 24 f_p0_labels_characters, gz cI (A_p0_labels 1) 2 f_p0_labels_sizes, oLy (A_p0 4) I_p0_layout, gz cI (A_p0 13) 2 f_p0_writtenTexts]) (gr_V (As := [.int x4]) (rest := [.ref a_p0]) ⟨hx, hb, hml, hown, hg⟩ (c_Lb_inOrder l dC dI cI (A_p0 3) A_p0_labels I_p0_labels f_p0_labels_tags x4 hw _) (cwV 1 hg (gg_V t_593 t_594 t_595 t_64 t_596) rfl rfl rfl (by decide +kernel) ⟨Nat.le_of_ble_eq_true rfl, Nat.le_of_ble_eq_true rfl⟩) hK hN hP hD [3, 6] (by decide) rfl 3 2 rfl rfl rfl rfl hl.1 rfl (Nat.le_of_ble_eq_true rfl) d_X_appendDirectory_154 ⟨Nat.le_of_ble_eq_true rfl, Nat.le_of_ble_eq_true rfl⟩) rfl rfl hP hD hS hA [3, 6] [0, 1, 2, 4, 5, 7, 8] [0, 1, 2, 7, 3, 4, 8, 5, 6] rfl rfl (by decide) (by decide) (by decide) (fun _ => rfl) ?_
        intro r154 _ H locs hw hP hD hS
        try dsimp only at hw
        have hP : va_P (dC, dI) vwCl [oX a_p0 A_p0, oSt (A_p0 0) A_p0_file I_p0_file, gz cI (A_p0_file 0) 900 f_p0_file_bytes, oLb (A_p0 3) A_p0_labels I_p0_labels, gz cI (A_p0_labels 2) 24 f_p0_labels_characters, gz cI (A_p0_labels 1) 2 f_p0_labels_sizes, gz cI (A_p0_labels 0) 2 f_p0_labels_tags, oLy (A_p0 4) I_p0_layout, gz cI (A_p0 13) 2 f_p0_writtenTexts] H := hP
        have hD : va_D A [oX a_p0 A_p0, oSt (A_p0 0) A_p0_file I_p0_file, gz cI (A_p0_file 0) 900 f_p0_file_bytes, oLb (A_p0 3) A_p0_labels I_p0_labels, gz cI (A_p0_labels 2) 24 f_p0_labels_characters, gz cI (A_p0_labels 1) 2 f_p0_labels_sizes, gz cI (A_p0_labels 0) 2 f_p0_labels_tags, oLy (A_p0 4) I_p0_layout, gz cI (A_p0 13) 2 f_p0_writtenTexts] := hD
        refine gc_v (wn := fun u => [oX a_p0 A_p0, oSt (A_p0 0) A_p0_file u.1, gz cI (A_p0_file 0) 900 u.2, oLb (A_p0 3) A_p0_labels I_p0_labels, gz cI (A_p0_labels 2) 24 f_p0_labels_characters, gz cI (A_p0_labels 1) 2 f_p0_labels_sizes, gz cI (A_p0_labels 0) 2 f_p0_labels_tags, oLy (A_p0 4) I_p0_layout, gz cI (A_p0 13) 2 f_p0_writtenTexts]) (wr := [oLy (A_p0 4) I_p0_layout]) (gr_V (As := [.int r154]) (rest := []) ⟨hx, hb, hml, hown, hg⟩ (c_X_appendTextEntry l dC dI cI a_p0 A_p0 A_p0_file A_p0_labels I_p0_labels f_p0_labels_characters f_p0_labels_sizes f_p0_labels_tags f_p0_writtenTexts I_p0_file f_p0_file_bytes r154 hw _) (cwV 1 hg (gg_V t_619 t_621 t_15 t_60 t_622) rfl rfl rfl (by decide +kernel) ⟨Nat.le_of_ble_eq_true rfl, Nat.le_of_ble_eq_true rfl⟩) hK hN hP hD [0, 1, 2, 3, 4, 5, 6, 8] (by decide) rfl 0 9 rfl rfl rfl rfl hl.1 rfl (Nat.le_of_ble_eq_true rfl) d_X_appendDirectory_157 ⟨Nat.le_of_ble_eq_true rfl, Nat.le_of_ble_eq_true rfl⟩) rfl rfl hP hD hS hA [0, 1, 2, 3, 4, 5, 6, 8] [7] [1, 2, 3, 4, 5, 6, 7, 0, 8] rfl rfl (by decide) (by decide) (by decide) (fun _ => rfl) ?_
        intro u9 H locs hw hP hD hS
        obtain ⟨I_p0_file_157, f_p0_file_bytes_157⟩ := u9
        try dsimp only at hw
        have hP : va_P (dC, dI) vwCl [oX a_p0 A_p0, oSt (A_p0 0) A_p0_file I_p0_file_157, gz cI (A_p0_file 0) 900 f_p0_file_bytes_157, oLb (A_p0 3) A_p0_labels I_p0_labels, gz cI (A_p0_labels 2) 24 f_p0_labels_characters, gz cI (A_p0_labels 1) 2 f_p0_labels_sizes, gz cI (A_p0_labels 0) 2 f_p0_labels_tags, oLy (A_p0 4) I_p0_layout, gz cI (A_p0 13) 2 f_p0_writtenTexts] H := hP
        have hD : va_D A [oX a_p0 A_p0, oSt (A_p0 0) A_p0_file I_p0_file_157, gz cI (A_p0_file 0) 900 f_p0_file_bytes_157, oLb (A_p0 3) A_p0_labels I_p0_labels, gz cI (A_p0_labels 2) 24 f_p0_labels_characters, gz cI (A_p0_labels 1) 2 f_p0_labels_sizes, gz cI (A_p0_labels 0) 2 f_p0_labels_tags, oLy (A_p0 4) I_p0_layout, gz cI (A_p0 13) 2 f_p0_writtenTexts] := hD
        refine lv_iinc (k := 2) (v := (x4 + 1)) (lv' := [(4, .int (x4 + 1)), (0, .ref a_p0), (3, .int x3)]) hx hb d_X_appendDirectory_160 hl rfl (congrArg (fun z => x4 + z) (by decide : Int32.ofInt 1 = 1)) (by decide) rfl (fun ls hl => ?_)
        refine lv_goto hx hb d_X_appendDirectory_163 rfl ?_
        exact ih _ _ _ I_p0_file_157 f_p0_file_bytes_157 x3 (x4 + 1) hP hD hS (lv_sub hl [1, 2, 0] rfl) hw
  intro ls hl hP hD hS
  have hl : lv_has ls 5 [(0, .ref a_p0), (1, .int x1), (2, .int x2)] := hl
  unfold wp_X_appendDirectory at hw
  refine lv_aload_n hx hb d_X_appendDirectory_0 rfl (lv_at hl 0 rfl) ?_
  refine va_get (D := (dC, dI)) (ci := 9) (v := .ref (A_p0 0)) (C := R_X) (T := T_X) (N := 14) hx hb hg in_X hown hK hP 0 rfl rfl 0 (by decide) (hg _ t_307) (fun _ h9 => h9) rfl d_X_appendDirectory_1 ?_
  refine gc_v (wn := fun u => [oX a_p0 A_p0, oSt (A_p0 0) A_p0_file u.1, gz cI (A_p0_file 0) 900 u.2, oLb (A_p0 3) A_p0_labels I_p0_labels, gz cI (A_p0_labels 2) 24 f_p0_labels_characters, gz cI (A_p0_labels 1) 2 f_p0_labels_sizes, gz cI (A_p0_labels 0) 2 f_p0_labels_tags, oLy (A_p0 4) I_p0_layout, gz cI (A_p0 13) 2 f_p0_writtenTexts]) (wr := [oX a_p0 A_p0, oLb (A_p0 3) A_p0_labels I_p0_labels, gz cI (A_p0_labels 2) 24 f_p0_labels_characters, gz cI (A_p0_labels 1) 2 f_p0_labels_sizes, gz cI (A_p0_labels 0) 2 f_p0_labels_tags, oLy (A_p0 4) I_p0_layout, gz cI (A_p0 13) 2 f_p0_writtenTexts]) (gr_V (As := []) (rest := []) ⟨hx, hb, hml, hown, hg⟩ (c_St_appendToEven l dC dI cI (A_p0 0) A_p0_file I_p0_file f_p0_file_bytes hw _) (cwV 0 hg (gg_V t_527 t_528 t_529 t_61 t_530) rfl rfl rfl (by decide +kernel) ⟨Nat.le_of_ble_eq_true rfl, Nat.le_of_ble_eq_true rfl⟩) hK hN hP hD [1, 2] (by decide) rfl 1 7 rfl rfl rfl rfl hl.1 rfl (Nat.le_of_ble_eq_true rfl) d_X_appendDirectory_4 ⟨Nat.le_of_ble_eq_true rfl, Nat.le_of_ble_eq_true rfl⟩) rfl rfl hP hD hS hA [1, 2] [0, 3, 4, 5, 6, 7, 8] [0, 7, 8, 1, 2, 3, 4, 5, 6] rfl rfl (by decide) (by decide) (by decide) (fun _ => rfl) ?_
  intro u9 H locs hw hP hD hS
  obtain ⟨I_p0_file_4, f_p0_file_bytes_4⟩ := u9
  try dsimp only at hw
  have hP : va_P (dC, dI) vwCl [oX a_p0 A_p0, oSt (A_p0 0) A_p0_file I_p0_file_4, gz cI (A_p0_file 0) 900 f_p0_file_bytes_4, oLb (A_p0 3) A_p0_labels I_p0_labels, gz cI (A_p0_labels 2) 24 f_p0_labels_characters, gz cI (A_p0_labels 1) 2 f_p0_labels_sizes, gz cI (A_p0_labels 0) 2 f_p0_labels_tags, oLy (A_p0 4) I_p0_layout, gz cI (A_p0 13) 2 f_p0_writtenTexts] H := hP
  have hD : va_D A [oX a_p0 A_p0, oSt (A_p0 0) A_p0_file I_p0_file_4, gz cI (A_p0_file 0) 900 f_p0_file_bytes_4, oLb (A_p0 3) A_p0_labels I_p0_labels, gz cI (A_p0_labels 2) 24 f_p0_labels_characters, gz cI (A_p0_labels 1) 2 f_p0_labels_sizes, gz cI (A_p0_labels 0) 2 f_p0_labels_tags, oLy (A_p0 4) I_p0_layout, gz cI (A_p0 13) 2 f_p0_writtenTexts] := hD
  refine lv_aload_n hx hb d_X_appendDirectory_7 rfl (lv_at hl 0 rfl) ?_
  refine va_get (D := (dC, dI)) (ci := 9) (v := .ref (A_p0 0)) (C := R_X) (T := T_X) (N := 14) hx hb hg in_X hown hK hP 0 rfl rfl 0 (by decide) (hg _ t_307) (fun _ h9 => h9) rfl d_X_appendDirectory_8 ?_
  refine va_get (D := (dC, dI)) (ci := 7) (v := .int (I_p0_file_4 2)) (C := R_St) (T := T_St) (N := 3) hx hb hg in_St hown hK hP 1 rfl rfl 2 (by decide) (hg _ t_97) (fun _ h9 => h9) rfl d_X_appendDirectory_11 ?_
  refine lv_istore_n (lv' := [(3, .int (I_p0_file_4 2)), (0, .ref a_p0), (1, .int x1), (2, .int x2)]) hx hb d_X_appendDirectory_14 rfl hl (by decide) rfl (fun ls hl => ?_)
  refine lv_aload_n hx hb d_X_appendDirectory_15 rfl (lv_at hl 1 rfl) ?_
  refine va_get (D := (dC, dI)) (ci := 9) (v := .ref (A_p0 0)) (C := R_X) (T := T_X) (N := 14) hx hb hg in_X hown hK hP 0 rfl rfl 0 (by decide) (hg _ t_307) (fun _ h9 => h9) rfl d_X_appendDirectory_16 ?_
  refine lv_bipush (v := 8) hx hb d_X_appendDirectory_19 (by decide) ?_
  refine lv_aload_n hx hb d_X_appendDirectory_21 rfl (lv_at hl 1 rfl) ?_
  refine va_get (D := (dC, dI)) (ci := 9) (v := .ref (A_p0 3)) (C := R_X) (T := T_X) (N := 14) hx hb hg in_X hown hK hP 0 rfl rfl 3 (by decide) (hg _ t_310) (fun _ h9 => h9) rfl d_X_appendDirectory_22 ?_
  refine va_get (D := (dC, dI)) (ci := 2) (v := .int (I_p0_labels 3)) (C := R_Lb) (T := T_Lb) (N := 4) hx hb hg in_Lb hown hK hP 3 rfl rfl 3 (by decide) (hg _ t_162) (fun _ h9 => h9) rfl d_X_appendDirectory_25 ?_
  refine lv_iadd hx hb d_X_appendDirectory_28 ?_
  refine gc_v (wn := fun u => [oX a_p0 A_p0, oSt (A_p0 0) A_p0_file u.1, gz cI (A_p0_file 0) 900 u.2, oLb (A_p0 3) A_p0_labels I_p0_labels, gz cI (A_p0_labels 2) 24 f_p0_labels_characters, gz cI (A_p0_labels 1) 2 f_p0_labels_sizes, gz cI (A_p0_labels 0) 2 f_p0_labels_tags, oLy (A_p0 4) I_p0_layout, gz cI (A_p0 13) 2 f_p0_writtenTexts]) (wr := [oX a_p0 A_p0, oLb (A_p0 3) A_p0_labels I_p0_labels, gz cI (A_p0_labels 2) 24 f_p0_labels_characters, gz cI (A_p0_labels 1) 2 f_p0_labels_sizes, gz cI (A_p0_labels 0) 2 f_p0_labels_tags, oLy (A_p0 4) I_p0_layout, gz cI (A_p0 13) 2 f_p0_writtenTexts]) (gr_V (As := [.int (8 + (I_p0_labels 3))]) (rest := []) ⟨hx, hb, hml, hown, hg⟩ (c_St_appendShort l dC dI cI (A_p0 0) A_p0_file I_p0_file_4 f_p0_file_bytes_4 (8 + (I_p0_labels 3)) hw _) (cwV 1 hg (gg_V t_610 t_289 t_290 t_61 t_291) rfl rfl rfl (by decide +kernel) ⟨Nat.le_of_ble_eq_true rfl, Nat.le_of_ble_eq_true rfl⟩) hK hN hP hD [1, 2] (by decide) rfl 1 7 rfl rfl rfl rfl hl.1 rfl (Nat.le_of_ble_eq_true rfl) d_X_appendDirectory_29 ⟨Nat.le_of_ble_eq_true rfl, Nat.le_of_ble_eq_true rfl⟩) rfl rfl hP hD hS hA [1, 2] [0, 3, 4, 5, 6, 7, 8] [0, 7, 8, 1, 2, 3, 4, 5, 6] rfl rfl (by decide) (by decide) (by decide) (fun _ => rfl) ?_
  intro u9 H locs hw hP hD hS
  obtain ⟨I_p0_file_29, f_p0_file_bytes_29⟩ := u9
  try dsimp only at hw
  have hP : va_P (dC, dI) vwCl [oX a_p0 A_p0, oSt (A_p0 0) A_p0_file I_p0_file_29, gz cI (A_p0_file 0) 900 f_p0_file_bytes_29, oLb (A_p0 3) A_p0_labels I_p0_labels, gz cI (A_p0_labels 2) 24 f_p0_labels_characters, gz cI (A_p0_labels 1) 2 f_p0_labels_sizes, gz cI (A_p0_labels 0) 2 f_p0_labels_tags, oLy (A_p0 4) I_p0_layout, gz cI (A_p0 13) 2 f_p0_writtenTexts] H := hP
  have hD : va_D A [oX a_p0 A_p0, oSt (A_p0 0) A_p0_file I_p0_file_29, gz cI (A_p0_file 0) 900 f_p0_file_bytes_29, oLb (A_p0 3) A_p0_labels I_p0_labels, gz cI (A_p0_labels 2) 24 f_p0_labels_characters, gz cI (A_p0_labels 1) 2 f_p0_labels_sizes, gz cI (A_p0_labels 0) 2 f_p0_labels_tags, oLy (A_p0 4) I_p0_layout, gz cI (A_p0 13) 2 f_p0_writtenTexts] := hD
  refine lv_aload_n hx hb d_X_appendDirectory_32 rfl (lv_at hl 1 rfl) ?_
  refine lv_sipush (v := 256) hx hb d_X_appendDirectory_33 (by decide) ?_
  refine lv_aload_n hx hb d_X_appendDirectory_36 rfl (lv_at hl 1 rfl) ?_
  refine va_get (D := (dC, dI)) (ci := 9) (v := .ref (A_p0 4)) (C := R_X) (T := T_X) (N := 14) hx hb hg in_X hown hK hP 0 rfl rfl 4 (by decide) (hg _ t_311) (fun _ h9 => h9) rfl d_X_appendDirectory_37 ?_
  refine va_get (D := (dC, dI)) (ci := 3) (v := .int (I_p0_layout 0)) (C := R_Ly) (T := T_Ly) (N := 6) hx hb hg in_Ly hown hK hP 7 rfl rfl 0 (by decide) (hg _ t_180) (fun _ h9 => h9) rfl d_X_appendDirectory_40 ?_
  refine gc_v (wn := fun u => [oX a_p0 A_p0, oSt (A_p0 0) A_p0_file u.1, gz cI (A_p0_file 0) 900 u.2, oLb (A_p0 3) A_p0_labels I_p0_labels, gz cI (A_p0_labels 2) 24 f_p0_labels_characters, gz cI (A_p0_labels 1) 2 f_p0_labels_sizes, gz cI (A_p0_labels 0) 2 f_p0_labels_tags, oLy (A_p0 4) I_p0_layout, gz cI (A_p0 13) 2 f_p0_writtenTexts]) (wr := [oLb (A_p0 3) A_p0_labels I_p0_labels, gz cI (A_p0_labels 2) 24 f_p0_labels_characters, gz cI (A_p0_labels 1) 2 f_p0_labels_sizes, gz cI (A_p0_labels 0) 2 f_p0_labels_tags, oLy (A_p0 4) I_p0_layout, gz cI (A_p0 13) 2 f_p0_writtenTexts]) (gr_V (As := [.int 256, .int (I_p0_layout 0)]) (rest := []) ⟨hx, hb, hml, hown, hg⟩ (c_X_appendShortEntry l dC dI cI a_p0 A_p0 A_p0_file I_p0_file_29 f_p0_file_bytes_29 256 (I_p0_layout 0) hw _) (cwV 2 hg (gg_V t_611 t_613 t_13 t_60 t_614) rfl rfl rfl (by decide +kernel) ⟨Nat.le_of_ble_eq_true rfl, Nat.le_of_ble_eq_true rfl⟩) hK hN hP hD [0, 1, 2] (by decide) rfl 0 9 rfl rfl rfl rfl hl.1 rfl (Nat.le_of_ble_eq_true rfl) d_X_appendDirectory_43 ⟨Nat.le_of_ble_eq_true rfl, Nat.le_of_ble_eq_true rfl⟩) rfl rfl hP hD hS hA [0, 1, 2] [3, 4, 5, 6, 7, 8] [6, 7, 8, 0, 1, 2, 3, 4, 5] rfl rfl (by decide) (by decide) (by decide) (fun _ => rfl) ?_
  intro u9 H locs hw hP hD hS
  obtain ⟨I_p0_file_43, f_p0_file_bytes_43⟩ := u9
  try dsimp only at hw
  have hP : va_P (dC, dI) vwCl [oX a_p0 A_p0, oSt (A_p0 0) A_p0_file I_p0_file_43, gz cI (A_p0_file 0) 900 f_p0_file_bytes_43, oLb (A_p0 3) A_p0_labels I_p0_labels, gz cI (A_p0_labels 2) 24 f_p0_labels_characters, gz cI (A_p0_labels 1) 2 f_p0_labels_sizes, gz cI (A_p0_labels 0) 2 f_p0_labels_tags, oLy (A_p0 4) I_p0_layout, gz cI (A_p0 13) 2 f_p0_writtenTexts] H := hP
  have hD : va_D A [oX a_p0 A_p0, oSt (A_p0 0) A_p0_file I_p0_file_43, gz cI (A_p0_file 0) 900 f_p0_file_bytes_43, oLb (A_p0 3) A_p0_labels I_p0_labels, gz cI (A_p0_labels 2) 24 f_p0_labels_characters, gz cI (A_p0_labels 1) 2 f_p0_labels_sizes, gz cI (A_p0_labels 0) 2 f_p0_labels_tags, oLy (A_p0 4) I_p0_layout, gz cI (A_p0 13) 2 f_p0_writtenTexts] := hD
  refine lv_aload_n hx hb d_X_appendDirectory_46 rfl (lv_at hl 1 rfl) ?_
  refine lv_sipush (v := 257) hx hb d_X_appendDirectory_47 (by decide) ?_
  refine lv_aload_n hx hb d_X_appendDirectory_50 rfl (lv_at hl 1 rfl) ?_
  refine va_get (D := (dC, dI)) (ci := 9) (v := .ref (A_p0 4)) (C := R_X) (T := T_X) (N := 14) hx hb hg in_X hown hK hP 0 rfl rfl 4 (by decide) (hg _ t_311) (fun _ h9 => h9) rfl d_X_appendDirectory_51 ?_
  refine va_get (D := (dC, dI)) (ci := 3) (v := .int (I_p0_layout 1)) (C := R_Ly) (T := T_Ly) (N := 6) hx hb hg in_Ly hown hK hP 7 rfl rfl 1 (by decide) (hg _ t_183) (fun _ h9 => h9) rfl d_X_appendDirectory_54 ?_
  refine gc_v (wn := fun u => [oX a_p0 A_p0, oSt (A_p0 0) A_p0_file u.1, gz cI (A_p0_file 0) 900 u.2, oLb (A_p0 3) A_p0_labels I_p0_labels, gz cI (A_p0_labels 2) 24 f_p0_labels_characters, gz cI (A_p0_labels 1) 2 f_p0_labels_sizes, gz cI (A_p0_labels 0) 2 f_p0_labels_tags, oLy (A_p0 4) I_p0_layout, gz cI (A_p0 13) 2 f_p0_writtenTexts]) (wr := [oLb (A_p0 3) A_p0_labels I_p0_labels, gz cI (A_p0_labels 2) 24 f_p0_labels_characters, gz cI (A_p0_labels 1) 2 f_p0_labels_sizes, gz cI (A_p0_labels 0) 2 f_p0_labels_tags, oLy (A_p0 4) I_p0_layout, gz cI (A_p0 13) 2 f_p0_writtenTexts]) (gr_V (As := [.int 257, .int (I_p0_layout 1)]) (rest := []) ⟨hx, hb, hml, hown, hg⟩ (c_X_appendShortEntry l dC dI cI a_p0 A_p0 A_p0_file I_p0_file_43 f_p0_file_bytes_43 257 (I_p0_layout 1) hw _) (cwV 2 hg (gg_V t_611 t_613 t_13 t_60 t_614) rfl rfl rfl (by decide +kernel) ⟨Nat.le_of_ble_eq_true rfl, Nat.le_of_ble_eq_true rfl⟩) hK hN hP hD [0, 1, 2] (by decide) rfl 0 9 rfl rfl rfl rfl hl.1 rfl (Nat.le_of_ble_eq_true rfl) d_X_appendDirectory_57 ⟨Nat.le_of_ble_eq_true rfl, Nat.le_of_ble_eq_true rfl⟩) rfl rfl hP hD hS hA [0, 1, 2] [3, 4, 5, 6, 7, 8] [6, 7, 8, 0, 1, 2, 3, 4, 5] rfl rfl (by decide) (by decide) (by decide) (fun _ => rfl) ?_
  intro u9 H locs hw hP hD hS
  obtain ⟨I_p0_file_57, f_p0_file_bytes_57⟩ := u9
  try dsimp only at hw
  have hP : va_P (dC, dI) vwCl [oX a_p0 A_p0, oSt (A_p0 0) A_p0_file I_p0_file_57, gz cI (A_p0_file 0) 900 f_p0_file_bytes_57, oLb (A_p0 3) A_p0_labels I_p0_labels, gz cI (A_p0_labels 2) 24 f_p0_labels_characters, gz cI (A_p0_labels 1) 2 f_p0_labels_sizes, gz cI (A_p0_labels 0) 2 f_p0_labels_tags, oLy (A_p0 4) I_p0_layout, gz cI (A_p0 13) 2 f_p0_writtenTexts] H := hP
  have hD : va_D A [oX a_p0 A_p0, oSt (A_p0 0) A_p0_file I_p0_file_57, gz cI (A_p0_file 0) 900 f_p0_file_bytes_57, oLb (A_p0 3) A_p0_labels I_p0_labels, gz cI (A_p0_labels 2) 24 f_p0_labels_characters, gz cI (A_p0_labels 1) 2 f_p0_labels_sizes, gz cI (A_p0_labels 0) 2 f_p0_labels_tags, oLy (A_p0 4) I_p0_layout, gz cI (A_p0 13) 2 f_p0_writtenTexts] := hD
  refine lv_aload_n hx hb d_X_appendDirectory_60 rfl (lv_at hl 1 rfl) ?_
  refine lv_sipush (v := 258) hx hb d_X_appendDirectory_61 (by decide) ?_
  refine lv_aload_n hx hb d_X_appendDirectory_64 rfl (lv_at hl 1 rfl) ?_
  refine va_get (D := (dC, dI)) (ci := 9) (v := .ref (A_p0 4)) (C := R_X) (T := T_X) (N := 14) hx hb hg in_X hown hK hP 0 rfl rfl 4 (by decide) (hg _ t_311) (fun _ h9 => h9) rfl d_X_appendDirectory_65 ?_
  refine va_get (D := (dC, dI)) (ci := 3) (v := .int (I_p0_layout 2)) (C := R_Ly) (T := T_Ly) (N := 6) hx hb hg in_Ly hown hK hP 7 rfl rfl 2 (by decide) (hg _ t_186) (fun _ h9 => h9) rfl d_X_appendDirectory_68 ?_
  refine gc_v (wn := fun u => [oX a_p0 A_p0, oSt (A_p0 0) A_p0_file u.1, gz cI (A_p0_file 0) 900 u.2, oLb (A_p0 3) A_p0_labels I_p0_labels, gz cI (A_p0_labels 2) 24 f_p0_labels_characters, gz cI (A_p0_labels 1) 2 f_p0_labels_sizes, gz cI (A_p0_labels 0) 2 f_p0_labels_tags, oLy (A_p0 4) I_p0_layout, gz cI (A_p0 13) 2 f_p0_writtenTexts]) (wr := [oLb (A_p0 3) A_p0_labels I_p0_labels, gz cI (A_p0_labels 2) 24 f_p0_labels_characters, gz cI (A_p0_labels 1) 2 f_p0_labels_sizes, gz cI (A_p0_labels 0) 2 f_p0_labels_tags, oLy (A_p0 4) I_p0_layout, gz cI (A_p0 13) 2 f_p0_writtenTexts]) (gr_V (As := [.int 258, .int (I_p0_layout 2)]) (rest := []) ⟨hx, hb, hml, hown, hg⟩ (c_X_appendShortEntry l dC dI cI a_p0 A_p0 A_p0_file I_p0_file_57 f_p0_file_bytes_57 258 (I_p0_layout 2) hw _) (cwV 2 hg (gg_V t_611 t_613 t_13 t_60 t_614) rfl rfl rfl (by decide +kernel) ⟨Nat.le_of_ble_eq_true rfl, Nat.le_of_ble_eq_true rfl⟩) hK hN hP hD [0, 1, 2] (by decide) rfl 0 9 rfl rfl rfl rfl hl.1 rfl (Nat.le_of_ble_eq_true rfl) d_X_appendDirectory_71 ⟨Nat.le_of_ble_eq_true rfl, Nat.le_of_ble_eq_true rfl⟩) rfl rfl hP hD hS hA [0, 1, 2] [3, 4, 5, 6, 7, 8] [6, 7, 8, 0, 1, 2, 3, 4, 5] rfl rfl (by decide) (by decide) (by decide) (fun _ => rfl) ?_
  intro u9 H locs hw hP hD hS
  obtain ⟨I_p0_file_71, f_p0_file_bytes_71⟩ := u9
  try dsimp only at hw
  have hP : va_P (dC, dI) vwCl [oX a_p0 A_p0, oSt (A_p0 0) A_p0_file I_p0_file_71, gz cI (A_p0_file 0) 900 f_p0_file_bytes_71, oLb (A_p0 3) A_p0_labels I_p0_labels, gz cI (A_p0_labels 2) 24 f_p0_labels_characters, gz cI (A_p0_labels 1) 2 f_p0_labels_sizes, gz cI (A_p0_labels 0) 2 f_p0_labels_tags, oLy (A_p0 4) I_p0_layout, gz cI (A_p0 13) 2 f_p0_writtenTexts] H := hP
  have hD : va_D A [oX a_p0 A_p0, oSt (A_p0 0) A_p0_file I_p0_file_71, gz cI (A_p0_file 0) 900 f_p0_file_bytes_71, oLb (A_p0 3) A_p0_labels I_p0_labels, gz cI (A_p0_labels 2) 24 f_p0_labels_characters, gz cI (A_p0_labels 1) 2 f_p0_labels_sizes, gz cI (A_p0_labels 0) 2 f_p0_labels_tags, oLy (A_p0 4) I_p0_layout, gz cI (A_p0 13) 2 f_p0_writtenTexts] := hD
  refine lv_aload_n hx hb d_X_appendDirectory_74 rfl (lv_at hl 1 rfl) ?_
  refine lv_sipush (v := 259) hx hb d_X_appendDirectory_75 (by decide) ?_
  refine lv_aload_n hx hb d_X_appendDirectory_78 rfl (lv_at hl 1 rfl) ?_
  refine va_get (D := (dC, dI)) (ci := 9) (v := .ref (A_p0 4)) (C := R_X) (T := T_X) (N := 14) hx hb hg in_X hown hK hP 0 rfl rfl 4 (by decide) (hg _ t_311) (fun _ h9 => h9) rfl d_X_appendDirectory_79 ?_
  refine va_get (D := (dC, dI)) (ci := 3) (v := .int (I_p0_layout 3)) (C := R_Ly) (T := T_Ly) (N := 6) hx hb hg in_Ly hown hK hP 7 rfl rfl 3 (by decide) (hg _ t_188) (fun _ h9 => h9) rfl d_X_appendDirectory_82 ?_
  refine gc_v (wn := fun u => [oX a_p0 A_p0, oSt (A_p0 0) A_p0_file u.1, gz cI (A_p0_file 0) 900 u.2, oLb (A_p0 3) A_p0_labels I_p0_labels, gz cI (A_p0_labels 2) 24 f_p0_labels_characters, gz cI (A_p0_labels 1) 2 f_p0_labels_sizes, gz cI (A_p0_labels 0) 2 f_p0_labels_tags, oLy (A_p0 4) I_p0_layout, gz cI (A_p0 13) 2 f_p0_writtenTexts]) (wr := [oLb (A_p0 3) A_p0_labels I_p0_labels, gz cI (A_p0_labels 2) 24 f_p0_labels_characters, gz cI (A_p0_labels 1) 2 f_p0_labels_sizes, gz cI (A_p0_labels 0) 2 f_p0_labels_tags, oLy (A_p0 4) I_p0_layout, gz cI (A_p0 13) 2 f_p0_writtenTexts]) (gr_V (As := [.int 259, .int (I_p0_layout 3)]) (rest := []) ⟨hx, hb, hml, hown, hg⟩ (c_X_appendShortEntry l dC dI cI a_p0 A_p0 A_p0_file I_p0_file_71 f_p0_file_bytes_71 259 (I_p0_layout 3) hw _) (cwV 2 hg (gg_V t_611 t_613 t_13 t_60 t_614) rfl rfl rfl (by decide +kernel) ⟨Nat.le_of_ble_eq_true rfl, Nat.le_of_ble_eq_true rfl⟩) hK hN hP hD [0, 1, 2] (by decide) rfl 0 9 rfl rfl rfl rfl hl.1 rfl (Nat.le_of_ble_eq_true rfl) d_X_appendDirectory_85 ⟨Nat.le_of_ble_eq_true rfl, Nat.le_of_ble_eq_true rfl⟩) rfl rfl hP hD hS hA [0, 1, 2] [3, 4, 5, 6, 7, 8] [6, 7, 8, 0, 1, 2, 3, 4, 5] rfl rfl (by decide) (by decide) (by decide) (fun _ => rfl) ?_
  intro u9 H locs hw hP hD hS
  obtain ⟨I_p0_file_85, f_p0_file_bytes_85⟩ := u9
  try dsimp only at hw
  have hP : va_P (dC, dI) vwCl [oX a_p0 A_p0, oSt (A_p0 0) A_p0_file I_p0_file_85, gz cI (A_p0_file 0) 900 f_p0_file_bytes_85, oLb (A_p0 3) A_p0_labels I_p0_labels, gz cI (A_p0_labels 2) 24 f_p0_labels_characters, gz cI (A_p0_labels 1) 2 f_p0_labels_sizes, gz cI (A_p0_labels 0) 2 f_p0_labels_tags, oLy (A_p0 4) I_p0_layout, gz cI (A_p0 13) 2 f_p0_writtenTexts] H := hP
  have hD : va_D A [oX a_p0 A_p0, oSt (A_p0 0) A_p0_file I_p0_file_85, gz cI (A_p0_file 0) 900 f_p0_file_bytes_85, oLb (A_p0 3) A_p0_labels I_p0_labels, gz cI (A_p0_labels 2) 24 f_p0_labels_characters, gz cI (A_p0_labels 1) 2 f_p0_labels_sizes, gz cI (A_p0_labels 0) 2 f_p0_labels_tags, oLy (A_p0 4) I_p0_layout, gz cI (A_p0 13) 2 f_p0_writtenTexts] := hD
  refine lv_aload_n hx hb d_X_appendDirectory_88 rfl (lv_at hl 1 rfl) ?_
  refine lv_sipush (v := 273) hx hb d_X_appendDirectory_89 (by decide) ?_
  refine lv_iload_n hx hb d_X_appendDirectory_92 rfl (lv_at hl 2 rfl) ?_
  refine gc_v (wn := fun u => [oX a_p0 A_p0, oSt (A_p0 0) A_p0_file u.1, gz cI (A_p0_file 0) 900 u.2, oLb (A_p0 3) A_p0_labels I_p0_labels, gz cI (A_p0_labels 2) 24 f_p0_labels_characters, gz cI (A_p0_labels 1) 2 f_p0_labels_sizes, gz cI (A_p0_labels 0) 2 f_p0_labels_tags, oLy (A_p0 4) I_p0_layout, gz cI (A_p0 13) 2 f_p0_writtenTexts]) (wr := [oLb (A_p0 3) A_p0_labels I_p0_labels, gz cI (A_p0_labels 2) 24 f_p0_labels_characters, gz cI (A_p0_labels 1) 2 f_p0_labels_sizes, gz cI (A_p0_labels 0) 2 f_p0_labels_tags, gz cI (A_p0 13) 2 f_p0_writtenTexts]) (gr_V (As := [.int 273, .int x1]) (rest := []) ⟨hx, hb, hml, hown, hg⟩ (c_X_appendStripsEntry l dC dI cI a_p0 A_p0 A_p0_file I_p0_layout I_p0_file_85 f_p0_file_bytes_85 273 x1 hw _) (cwV 2 hg (gg_V t_615 t_617 t_14 t_60 t_618) rfl rfl rfl (by decide +kernel) ⟨Nat.le_of_ble_eq_true rfl, Nat.le_of_ble_eq_true rfl⟩) hK hN hP hD [0, 1, 2, 7] (by decide) rfl 0 9 rfl rfl rfl rfl hl.1 rfl (Nat.le_of_ble_eq_true rfl) d_X_appendDirectory_93 ⟨Nat.le_of_ble_eq_true rfl, Nat.le_of_ble_eq_true rfl⟩) rfl rfl hP hD hS hA [0, 1, 2, 7] [3, 4, 5, 6, 8] [5, 6, 7, 0, 1, 2, 3, 8, 4] rfl rfl (by decide) (by decide) (by decide) (fun _ => rfl) ?_
  intro u9 H locs hw hP hD hS
  obtain ⟨I_p0_file_93, f_p0_file_bytes_93⟩ := u9
  try dsimp only at hw
  have hP : va_P (dC, dI) vwCl [oX a_p0 A_p0, oSt (A_p0 0) A_p0_file I_p0_file_93, gz cI (A_p0_file 0) 900 f_p0_file_bytes_93, oLb (A_p0 3) A_p0_labels I_p0_labels, gz cI (A_p0_labels 2) 24 f_p0_labels_characters, gz cI (A_p0_labels 1) 2 f_p0_labels_sizes, gz cI (A_p0_labels 0) 2 f_p0_labels_tags, oLy (A_p0 4) I_p0_layout, gz cI (A_p0 13) 2 f_p0_writtenTexts] H := hP
  have hD : va_D A [oX a_p0 A_p0, oSt (A_p0 0) A_p0_file I_p0_file_93, gz cI (A_p0_file 0) 900 f_p0_file_bytes_93, oLb (A_p0 3) A_p0_labels I_p0_labels, gz cI (A_p0_labels 2) 24 f_p0_labels_characters, gz cI (A_p0_labels 1) 2 f_p0_labels_sizes, gz cI (A_p0_labels 0) 2 f_p0_labels_tags, oLy (A_p0 4) I_p0_layout, gz cI (A_p0 13) 2 f_p0_writtenTexts] := hD
  refine lv_aload_n hx hb d_X_appendDirectory_96 rfl (lv_at hl 1 rfl) ?_
  refine lv_sipush (v := 278) hx hb d_X_appendDirectory_97 (by decide) ?_
  refine lv_aload_n hx hb d_X_appendDirectory_100 rfl (lv_at hl 1 rfl) ?_
  refine va_get (D := (dC, dI)) (ci := 9) (v := .ref (A_p0 4)) (C := R_X) (T := T_X) (N := 14) hx hb hg in_X hown hK hP 0 rfl rfl 4 (by decide) (hg _ t_311) (fun _ h9 => h9) rfl d_X_appendDirectory_101 ?_
  refine va_get (D := (dC, dI)) (ci := 3) (v := .int (I_p0_layout 4)) (C := R_Ly) (T := T_Ly) (N := 6) hx hb hg in_Ly hown hK hP 7 rfl rfl 4 (by decide) (hg _ t_190) (fun _ h9 => h9) rfl d_X_appendDirectory_104 ?_
  refine gc_v (wn := fun u => [oX a_p0 A_p0, oSt (A_p0 0) A_p0_file u.1, gz cI (A_p0_file 0) 900 u.2, oLb (A_p0 3) A_p0_labels I_p0_labels, gz cI (A_p0_labels 2) 24 f_p0_labels_characters, gz cI (A_p0_labels 1) 2 f_p0_labels_sizes, gz cI (A_p0_labels 0) 2 f_p0_labels_tags, oLy (A_p0 4) I_p0_layout, gz cI (A_p0 13) 2 f_p0_writtenTexts]) (wr := [oLb (A_p0 3) A_p0_labels I_p0_labels, gz cI (A_p0_labels 2) 24 f_p0_labels_characters, gz cI (A_p0_labels 1) 2 f_p0_labels_sizes, gz cI (A_p0_labels 0) 2 f_p0_labels_tags, oLy (A_p0 4) I_p0_layout, gz cI (A_p0 13) 2 f_p0_writtenTexts]) (gr_V (As := [.int 278, .int (I_p0_layout 4)]) (rest := []) ⟨hx, hb, hml, hown, hg⟩ (c_X_appendShortEntry l dC dI cI a_p0 A_p0 A_p0_file I_p0_file_93 f_p0_file_bytes_93 278 (I_p0_layout 4) hw _) (cwV 2 hg (gg_V t_611 t_613 t_13 t_60 t_614) rfl rfl rfl (by decide +kernel) ⟨Nat.le_of_ble_eq_true rfl, Nat.le_of_ble_eq_true rfl⟩) hK hN hP hD [0, 1, 2] (by decide) rfl 0 9 rfl rfl rfl rfl hl.1 rfl (Nat.le_of_ble_eq_true rfl) d_X_appendDirectory_107 ⟨Nat.le_of_ble_eq_true rfl, Nat.le_of_ble_eq_true rfl⟩) rfl rfl hP hD hS hA [0, 1, 2] [3, 4, 5, 6, 7, 8] [6, 7, 8, 0, 1, 2, 3, 4, 5] rfl rfl (by decide) (by decide) (by decide) (fun _ => rfl) ?_
  intro u9 H locs hw hP hD hS
  obtain ⟨I_p0_file_107, f_p0_file_bytes_107⟩ := u9
  try dsimp only at hw
  have hP : va_P (dC, dI) vwCl [oX a_p0 A_p0, oSt (A_p0 0) A_p0_file I_p0_file_107, gz cI (A_p0_file 0) 900 f_p0_file_bytes_107, oLb (A_p0 3) A_p0_labels I_p0_labels, gz cI (A_p0_labels 2) 24 f_p0_labels_characters, gz cI (A_p0_labels 1) 2 f_p0_labels_sizes, gz cI (A_p0_labels 0) 2 f_p0_labels_tags, oLy (A_p0 4) I_p0_layout, gz cI (A_p0 13) 2 f_p0_writtenTexts] H := hP
  have hD : va_D A [oX a_p0 A_p0, oSt (A_p0 0) A_p0_file I_p0_file_107, gz cI (A_p0_file 0) 900 f_p0_file_bytes_107, oLb (A_p0 3) A_p0_labels I_p0_labels, gz cI (A_p0_labels 2) 24 f_p0_labels_characters, gz cI (A_p0_labels 1) 2 f_p0_labels_sizes, gz cI (A_p0_labels 0) 2 f_p0_labels_tags, oLy (A_p0 4) I_p0_layout, gz cI (A_p0 13) 2 f_p0_writtenTexts] := hD
  refine lv_aload_n hx hb d_X_appendDirectory_110 rfl (lv_at hl 1 rfl) ?_
  refine lv_sipush (v := 279) hx hb d_X_appendDirectory_111 (by decide) ?_
  refine lv_iload_n hx hb d_X_appendDirectory_114 rfl (lv_at hl 3 rfl) ?_
  refine gc_v (wn := fun u => [oX a_p0 A_p0, oSt (A_p0 0) A_p0_file u.1, gz cI (A_p0_file 0) 900 u.2, oLb (A_p0 3) A_p0_labels I_p0_labels, gz cI (A_p0_labels 2) 24 f_p0_labels_characters, gz cI (A_p0_labels 1) 2 f_p0_labels_sizes, gz cI (A_p0_labels 0) 2 f_p0_labels_tags, oLy (A_p0 4) I_p0_layout, gz cI (A_p0 13) 2 f_p0_writtenTexts]) (wr := [oLb (A_p0 3) A_p0_labels I_p0_labels, gz cI (A_p0_labels 2) 24 f_p0_labels_characters, gz cI (A_p0_labels 1) 2 f_p0_labels_sizes, gz cI (A_p0_labels 0) 2 f_p0_labels_tags, gz cI (A_p0 13) 2 f_p0_writtenTexts]) (gr_V (As := [.int 279, .int x2]) (rest := []) ⟨hx, hb, hml, hown, hg⟩ (c_X_appendStripsEntry l dC dI cI a_p0 A_p0 A_p0_file I_p0_layout I_p0_file_107 f_p0_file_bytes_107 279 x2 hw _) (cwV 2 hg (gg_V t_615 t_617 t_14 t_60 t_618) rfl rfl rfl (by decide +kernel) ⟨Nat.le_of_ble_eq_true rfl, Nat.le_of_ble_eq_true rfl⟩) hK hN hP hD [0, 1, 2, 7] (by decide) rfl 0 9 rfl rfl rfl rfl hl.1 rfl (Nat.le_of_ble_eq_true rfl) d_X_appendDirectory_115 ⟨Nat.le_of_ble_eq_true rfl, Nat.le_of_ble_eq_true rfl⟩) rfl rfl hP hD hS hA [0, 1, 2, 7] [3, 4, 5, 6, 8] [5, 6, 7, 0, 1, 2, 3, 8, 4] rfl rfl (by decide) (by decide) (by decide) (fun _ => rfl) ?_
  intro u9 H locs hw hP hD hS
  obtain ⟨I_p0_file_115, f_p0_file_bytes_115⟩ := u9
  try dsimp only at hw
  have hP : va_P (dC, dI) vwCl [oX a_p0 A_p0, oSt (A_p0 0) A_p0_file I_p0_file_115, gz cI (A_p0_file 0) 900 f_p0_file_bytes_115, oLb (A_p0 3) A_p0_labels I_p0_labels, gz cI (A_p0_labels 2) 24 f_p0_labels_characters, gz cI (A_p0_labels 1) 2 f_p0_labels_sizes, gz cI (A_p0_labels 0) 2 f_p0_labels_tags, oLy (A_p0 4) I_p0_layout, gz cI (A_p0 13) 2 f_p0_writtenTexts] H := hP
  have hD : va_D A [oX a_p0 A_p0, oSt (A_p0 0) A_p0_file I_p0_file_115, gz cI (A_p0_file 0) 900 f_p0_file_bytes_115, oLb (A_p0 3) A_p0_labels I_p0_labels, gz cI (A_p0_labels 2) 24 f_p0_labels_characters, gz cI (A_p0_labels 1) 2 f_p0_labels_sizes, gz cI (A_p0_labels 0) 2 f_p0_labels_tags, oLy (A_p0 4) I_p0_layout, gz cI (A_p0 13) 2 f_p0_writtenTexts] := hD
  refine lv_aload_n hx hb d_X_appendDirectory_118 rfl (lv_at hl 1 rfl) ?_
  refine lv_sipush (v := 317) hx hb d_X_appendDirectory_119 (by decide) ?_
  refine lv_aload_n hx hb d_X_appendDirectory_122 rfl (lv_at hl 1 rfl) ?_
  refine va_get (D := (dC, dI)) (ci := 9) (v := .ref (A_p0 4)) (C := R_X) (T := T_X) (N := 14) hx hb hg in_X hown hK hP 0 rfl rfl 4 (by decide) (hg _ t_311) (fun _ h9 => h9) rfl d_X_appendDirectory_123 ?_
  refine va_get (D := (dC, dI)) (ci := 3) (v := .int (I_p0_layout 5)) (C := R_Ly) (T := T_Ly) (N := 6) hx hb hg in_Ly hown hK hP 7 rfl rfl 5 (by decide) (hg _ t_193) (fun _ h9 => h9) rfl d_X_appendDirectory_126 ?_
  refine gc_v (wn := fun u => [oX a_p0 A_p0, oSt (A_p0 0) A_p0_file u.1, gz cI (A_p0_file 0) 900 u.2, oLb (A_p0 3) A_p0_labels I_p0_labels, gz cI (A_p0_labels 2) 24 f_p0_labels_characters, gz cI (A_p0_labels 1) 2 f_p0_labels_sizes, gz cI (A_p0_labels 0) 2 f_p0_labels_tags, oLy (A_p0 4) I_p0_layout, gz cI (A_p0 13) 2 f_p0_writtenTexts]) (wr := [oLb (A_p0 3) A_p0_labels I_p0_labels, gz cI (A_p0_labels 2) 24 f_p0_labels_characters, gz cI (A_p0_labels 1) 2 f_p0_labels_sizes, gz cI (A_p0_labels 0) 2 f_p0_labels_tags, oLy (A_p0 4) I_p0_layout, gz cI (A_p0 13) 2 f_p0_writtenTexts]) (gr_V (As := [.int 317, .int (I_p0_layout 5)]) (rest := []) ⟨hx, hb, hml, hown, hg⟩ (c_X_appendShortEntry l dC dI cI a_p0 A_p0 A_p0_file I_p0_file_115 f_p0_file_bytes_115 317 (I_p0_layout 5) hw _) (cwV 2 hg (gg_V t_611 t_613 t_13 t_60 t_614) rfl rfl rfl (by decide +kernel) ⟨Nat.le_of_ble_eq_true rfl, Nat.le_of_ble_eq_true rfl⟩) hK hN hP hD [0, 1, 2] (by decide) rfl 0 9 rfl rfl rfl rfl hl.1 rfl (Nat.le_of_ble_eq_true rfl) d_X_appendDirectory_129 ⟨Nat.le_of_ble_eq_true rfl, Nat.le_of_ble_eq_true rfl⟩) rfl rfl hP hD hS hA [0, 1, 2] [3, 4, 5, 6, 7, 8] [6, 7, 8, 0, 1, 2, 3, 4, 5] rfl rfl (by decide) (by decide) (by decide) (fun _ => rfl) ?_
  intro u9 H locs hw hP hD hS
  obtain ⟨I_p0_file_129, f_p0_file_bytes_129⟩ := u9
  try dsimp only at hw
  have hP : va_P (dC, dI) vwCl [oX a_p0 A_p0, oSt (A_p0 0) A_p0_file I_p0_file_129, gz cI (A_p0_file 0) 900 f_p0_file_bytes_129, oLb (A_p0 3) A_p0_labels I_p0_labels, gz cI (A_p0_labels 2) 24 f_p0_labels_characters, gz cI (A_p0_labels 1) 2 f_p0_labels_sizes, gz cI (A_p0_labels 0) 2 f_p0_labels_tags, oLy (A_p0 4) I_p0_layout, gz cI (A_p0 13) 2 f_p0_writtenTexts] H := hP
  have hD : va_D A [oX a_p0 A_p0, oSt (A_p0 0) A_p0_file I_p0_file_129, gz cI (A_p0_file 0) 900 f_p0_file_bytes_129, oLb (A_p0 3) A_p0_labels I_p0_labels, gz cI (A_p0_labels 2) 24 f_p0_labels_characters, gz cI (A_p0_labels 1) 2 f_p0_labels_sizes, gz cI (A_p0_labels 0) 2 f_p0_labels_tags, oLy (A_p0 4) I_p0_layout, gz cI (A_p0 13) 2 f_p0_writtenTexts] := hD
  refine lv_iconst (v := 0) hx hb d_X_appendDirectory_132 (by decide) ?_
  refine lv_istore (lv' := [(4, .int 0), (3, .int (I_p0_file_4 2)), (0, .ref a_p0), (1, .int x1), (2, .int x2)]) hx hb d_X_appendDirectory_133 hl (by decide) rfl (fun ls hl => ?_)
  obtain ⟨n1, hw⟩ := hw
  exact l135 n1 _ _ _ I_p0_file_129 f_p0_file_bytes_129 (I_p0_file_4 2) 0 hP hD hS (lv_sub hl [2, 1, 0] rfl) hw
theorem d_X_appendLongTexts_0 : decode b_X_appendLongTexts 0 = .ok (.iconst 0, 1) := by decide +kernel
theorem d_X_appendLongTexts_1 : decode b_X_appendLongTexts 1 = .ok (.istore_n 1, 1) := by decide +kernel
theorem d_X_appendLongTexts_2 : decode b_X_appendLongTexts 2 = .ok (.iload_n 1, 1) := by decide +kernel
theorem d_X_appendLongTexts_3 : decode b_X_appendLongTexts 3 = .ok (.aload_n 0, 1) := by decide +kernel
theorem d_X_appendLongTexts_4 : decode b_X_appendLongTexts 4 = .ok (.getfield 33, 3) := by decide +kernel
theorem d_X_appendLongTexts_7 : decode b_X_appendLongTexts 7 = .ok (.getfield 144, 3) := by decide +kernel
theorem d_X_appendLongTexts_10 : decode b_X_appendLongTexts 10 = .ok (.if_icmp .ge 70, 3) := by decide +kernel
theorem d_X_appendLongTexts_13 : decode b_X_appendLongTexts 13 = .ok (.aload_n 0, 1) := by decide +kernel
theorem d_X_appendLongTexts_14 : decode b_X_appendLongTexts 14 = .ok (.getfield 33, 3) := by decide +kernel
theorem d_X_appendLongTexts_17 : decode b_X_appendLongTexts 17 = .ok (.iload_n 1, 1) := by decide +kernel
theorem d_X_appendLongTexts_18 : decode b_X_appendLongTexts 18 = .ok (.invokevirtual 290, 3) := by decide +kernel
theorem d_X_appendLongTexts_21 : decode b_X_appendLongTexts 21 = .ok (.istore_n 2, 1) := by decide +kernel
theorem d_X_appendLongTexts_22 : decode b_X_appendLongTexts 22 = .ok (.aload_n 0, 1) := by decide +kernel
theorem d_X_appendLongTexts_23 : decode b_X_appendLongTexts 23 = .ok (.getfield 33, 3) := by decide +kernel
theorem d_X_appendLongTexts_26 : decode b_X_appendLongTexts 26 = .ok (.iload_n 2, 1) := by decide +kernel
theorem d_X_appendLongTexts_27 : decode b_X_appendLongTexts 27 = .ok (.invokevirtual 293, 3) := by decide +kernel
theorem d_X_appendLongTexts_30 : decode b_X_appendLongTexts 30 = .ok (.iconst 4, 1) := by decide +kernel
theorem d_X_appendLongTexts_31 : decode b_X_appendLongTexts 31 = .ok (.if_icmp .le 43, 3) := by decide +kernel
theorem d_X_appendLongTexts_34 : decode b_X_appendLongTexts 34 = .ok (.aload_n 0, 1) := by decide +kernel
theorem d_X_appendLongTexts_35 : decode b_X_appendLongTexts 35 = .ok (.getfield 10, 3) := by decide +kernel
theorem d_X_appendLongTexts_38 : decode b_X_appendLongTexts 38 = .ok (.invokevirtual 255, 3) := by decide +kernel
theorem d_X_appendLongTexts_41 : decode b_X_appendLongTexts 41 = .ok (.aload_n 0, 1) := by decide +kernel
theorem d_X_appendLongTexts_42 : decode b_X_appendLongTexts 42 = .ok (.getfield 85, 3) := by decide +kernel
theorem d_X_appendLongTexts_45 : decode b_X_appendLongTexts 45 = .ok (.iload_n 2, 1) := by decide +kernel
theorem d_X_appendLongTexts_46 : decode b_X_appendLongTexts 46 = .ok (.aload_n 0, 1) := by decide +kernel
theorem d_X_appendLongTexts_47 : decode b_X_appendLongTexts 47 = .ok (.getfield 10, 3) := by decide +kernel
theorem d_X_appendLongTexts_50 : decode b_X_appendLongTexts 50 = .ok (.getfield 174, 3) := by decide +kernel
theorem d_X_appendLongTexts_53 : decode b_X_appendLongTexts 53 = .ok (.iastore, 1) := by decide +kernel
theorem d_X_appendLongTexts_54 : decode b_X_appendLongTexts 54 = .ok (.aload_n 0, 1) := by decide +kernel
theorem d_X_appendLongTexts_55 : decode b_X_appendLongTexts 55 = .ok (.getfield 33, 3) := by decide +kernel
theorem d_X_appendLongTexts_58 : decode b_X_appendLongTexts 58 = .ok (.iload_n 2, 1) := by decide +kernel
theorem d_X_appendLongTexts_59 : decode b_X_appendLongTexts 59 = .ok (.aload_n 0, 1) := by decide +kernel
theorem d_X_appendLongTexts_60 : decode b_X_appendLongTexts 60 = .ok (.getfield 33, 3) := by decide +kernel
theorem d_X_appendLongTexts_63 : decode b_X_appendLongTexts 63 = .ok (.iload_n 2, 1) := by decide +kernel
theorem d_X_appendLongTexts_64 : decode b_X_appendLongTexts 64 = .ok (.invokevirtual 293, 3) := by decide +kernel
theorem d_X_appendLongTexts_67 : decode b_X_appendLongTexts 67 = .ok (.aload_n 0, 1) := by decide +kernel
theorem d_X_appendLongTexts_68 : decode b_X_appendLongTexts 68 = .ok (.getfield 10, 3) := by decide +kernel
theorem d_X_appendLongTexts_71 : decode b_X_appendLongTexts 71 = .ok (.invokevirtual 296, 3) := by decide +kernel
theorem d_X_appendLongTexts_74 : decode b_X_appendLongTexts 74 = .ok (.iinc 1 1, 3) := by decide +kernel
theorem d_X_appendLongTexts_77 : decode b_X_appendLongTexts 77 = .ok (.goto (-75), 3) := by decide +kernel
theorem d_X_appendLongTexts_80 : decode b_X_appendLongTexts 80 = .ok (.return_, 1) := by decide +kernel
def wp_X_appendLongTexts_b74 (post : (Nat → Int32) → (Nat → Int32) → (Nat → Int32) → Prop) (k2 : (Nat → Int32) → (Nat → Int32) → (Nat → Int32) → Int32 → Prop) (I_p0_labels : Nat → Int32) (f_p0_labels_characters : Nat → Int32) (f_p0_labels_sizes : Nat → Int32) (f_p0_labels_tags : Nat → Int32) (I_p0_file : Nat → Int32) (f_p0_file_bytes : Nat → Int32) (f_p0_writtenTexts : Nat → Int32) (x1 : Int32) : Prop :=
  k2 I_p0_file f_p0_file_bytes f_p0_writtenTexts (x1 + 1)
def wp_X_appendLongTexts_l2 (post : (Nat → Int32) → (Nat → Int32) → (Nat → Int32) → Prop) (I_p0_labels : Nat → Int32) (f_p0_labels_characters : Nat → Int32) (f_p0_labels_sizes : Nat → Int32) (f_p0_labels_tags : Nat → Int32) : Nat → (Nat → Int32) → (Nat → Int32) → (Nat → Int32) → Int32 → Prop
  | 0, _, _, _, _ => False
  | n + 1, I_p0_file, f_p0_file_bytes, f_p0_writtenTexts, x1 =>
    (((I_p0_labels 3) ≤ x1 →
      post I_p0_file f_p0_file_bytes f_p0_writtenTexts) ∧
     (¬ (I_p0_labels 3) ≤ x1 →
      wp_Lb_inOrder (fun (r18 : Int32) =>
        wp_Lb_bytesOf (fun (r27 : Int32) =>
          ((r27 ≤ 4 →
            wp_X_appendLongTexts_b74 post (wp_X_appendLongTexts_l2 post I_p0_labels f_p0_labels_characters f_p0_labels_sizes f_p0_labels_tags n) I_p0_labels f_p0_labels_characters f_p0_labels_sizes f_p0_labels_tags I_p0_file f_p0_file_bytes f_p0_writtenTexts x1) ∧
           (¬ r27 ≤ 4 →
            wp_St_appendToEven (fun (I_p0_file_38 : Nat → Int32) (f_p0_file_bytes_38 : Nat → Int32) =>
              vp_in r18 2 ∧
              wp_Lb_bytesOf (fun (r64 : Int32) =>
                wp_Lb_appendText (fun (I_p0_file_71 : Nat → Int32) (f_p0_file_bytes_71 : Nat → Int32) =>
                  wp_X_appendLongTexts_b74 post (wp_X_appendLongTexts_l2 post I_p0_labels f_p0_labels_characters f_p0_labels_sizes f_p0_labels_tags n) I_p0_labels f_p0_labels_characters f_p0_labels_sizes f_p0_labels_tags I_p0_file_71 f_p0_file_bytes_71 (upd f_p0_writtenTexts (r18).toNatClampNeg (I_p0_file_38 2)) x1) I_p0_labels f_p0_labels_characters f_p0_labels_sizes I_p0_file_38 f_p0_file_bytes_38 r18 r64) I_p0_labels f_p0_labels_sizes r18) I_p0_file f_p0_file_bytes))) I_p0_labels f_p0_labels_sizes r18) I_p0_labels f_p0_labels_tags x1))
def wp_X_appendLongTexts (post : (Nat → Int32) → (Nat → Int32) → (Nat → Int32) → Prop) (I_p0_labels : Nat → Int32) (f_p0_labels_characters : Nat → Int32) (f_p0_labels_sizes : Nat → Int32) (f_p0_labels_tags : Nat → Int32) (I_p0_file : Nat → Int32) (f_p0_file_bytes : Nat → Int32) (f_p0_writtenTexts : Nat → Int32) : Prop :=
  (∃ n1 : Nat, wp_X_appendLongTexts_l2 post I_p0_labels f_p0_labels_characters f_p0_labels_sizes f_p0_labels_tags n1 I_p0_file f_p0_file_bytes f_p0_writtenTexts 0)
set_option maxRecDepth 100000 in
set_option maxHeartbeats 4000000 in
theorem c_X_appendLongTexts (l : Launch) (dC : Nat → ClassId) (dI : Nat → Nat → Nat) (cI : ClassId) (a_p0 : Nat) (A_p0 : Nat → Nat) (A_p0_file : Nat → Nat) (A_p0_labels : Nat → Nat) (I_p0_labels : Nat → Int32) (f_p0_labels_characters : Nat → Int32) (f_p0_labels_sizes : Nat → Int32) (f_p0_labels_tags : Nat → Int32) (I_p0_file : Nat → Int32) (f_p0_file_bytes : Nat → Int32) (f_p0_writtenTexts : Nat → Int32) {post : (Nat → Int32) → (Nat → Int32) → (Nat → Int32) → Prop} (hw : wp_X_appendLongTexts post I_p0_labels f_p0_labels_characters f_p0_labels_sizes f_p0_labels_tags I_p0_file f_p0_file_bytes f_p0_writtenTexts) : gm_v l y_X_appendLongTexts ws_X_appendLongTexts ({ frames := 2, cells := 0, slots := 0, locals := 46 } : Room) (dC, dI) vwCl [(cI, .int)] [.ref a_p0] [oX a_p0 A_p0, oSt (A_p0 0) A_p0_file I_p0_file, gz cI (A_p0_file 0) 900 f_p0_file_bytes, oLb (A_p0 3) A_p0_labels I_p0_labels, gz cI (A_p0_labels 2) 24 f_p0_labels_characters, gz cI (A_p0_labels 1) 2 f_p0_labels_sizes, gz cI (A_p0_labels 0) 2 f_p0_labels_tags, gz cI (A_p0 13) 2 f_p0_writtenTexts] (fun (u : (Nat → Int32) × (Nat → Int32) × (Nat → Int32)) => [oX a_p0 A_p0, oSt (A_p0 0) A_p0_file u.1, gz cI (A_p0_file 0) 900 u.2.1, oLb (A_p0 3) A_p0_labels I_p0_labels, gz cI (A_p0_labels 2) 24 f_p0_labels_characters, gz cI (A_p0_labels 1) 2 f_p0_labels_sizes, gz cI (A_p0_labels 0) 2 f_p0_labels_tags, gz cI (A_p0 13) 2 u.2.2]) (fun (u : (Nat → Int32) × (Nat → Int32) × (Nat → Int32)) => post  u.1 u.2.1 u.2.2) := by
  refine gm_vof (cc := b_X_appendLongTexts) (maxL := 3) (by decide) rfl (Nat.le_of_ble_eq_true rfl) ?_
  intro p e s m args below meth c A Q hx hb hml hown hg hK hN hA hnm hret
  have hown : s.vm.findClass R_X = some m.cls := hown
  have b74 : ∀ (k2 : (Nat → Int32) → (Nat → Int32) → (Nat → Int32) → Int32 → Prop), (∀ (H : Heap) (locs : List Loc) (ls : Array Slot) (I_p0_file : Nat → Int32) (f_p0_file_bytes : Nat → Int32) (f_p0_writtenTexts : Nat → Int32) (x1 : Int32), va_P (dC, dI) vwCl [oX a_p0 A_p0, oSt (A_p0 0) A_p0_file I_p0_file, gz cI (A_p0_file 0) 900 f_p0_file_bytes, oLb (A_p0 3) A_p0_labels I_p0_labels, gz cI (A_p0_labels 2) 24 f_p0_labels_characters, gz cI (A_p0_labels 1) 2 f_p0_labels_sizes, gz cI (A_p0_labels 0) 2 f_p0_labels_tags, gz cI (A_p0 13) 2 f_p0_writtenTexts] H → va_D A [oX a_p0 A_p0, oSt (A_p0 0) A_p0_file I_p0_file, gz cI (A_p0_file 0) 900 f_p0_file_bytes, oLb (A_p0 3) A_p0_labels I_p0_labels, gz cI (A_p0_labels 2) 24 f_p0_labels_characters, gz cI (A_p0_labels 1) 2 f_p0_labels_sizes, gz cI (A_p0_labels 0) 2 f_p0_labels_tags, gz cI (A_p0 13) 2 f_p0_writtenTexts] → va_S A s.heap H locs → lv_has ls 3 [(0, .ref a_p0), (1, .int x1)] → k2 I_p0_file f_p0_file_bytes f_p0_writtenTexts x1 → W p l e ({ frames := 2, cells := 0, slots := 0, locals := 46 } : Room) s m args below meth c H locs 0 0 Q (F0 m 2 ls [])) → ∀ (H : Heap) (locs : List Loc) (ls : Array Slot) (I_p0_file : Nat → Int32) (f_p0_file_bytes : Nat → Int32) (f_p0_writtenTexts : Nat → Int32) (x1 : Int32), va_P (dC, dI) vwCl [oX a_p0 A_p0, oSt (A_p0 0) A_p0_file I_p0_file, gz cI (A_p0_file 0) 900 f_p0_file_bytes, oLb (A_p0 3) A_p0_labels I_p0_labels, gz cI (A_p0_labels 2) 24 f_p0_labels_characters, gz cI (A_p0_labels 1) 2 f_p0_labels_sizes, gz cI (A_p0_labels 0) 2 f_p0_labels_tags, gz cI (A_p0 13) 2 f_p0_writtenTexts] H → va_D A [oX a_p0 A_p0, oSt (A_p0 0) A_p0_file I_p0_file, gz cI (A_p0_file 0) 900 f_p0_file_bytes, oLb (A_p0 3) A_p0_labels I_p0_labels, gz cI (A_p0_labels 2) 24 f_p0_labels_characters, gz cI (A_p0_labels 1) 2 f_p0_labels_sizes, gz cI (A_p0_labels 0) 2 f_p0_labels_tags, gz cI (A_p0 13) 2 f_p0_writtenTexts] → va_S A s.heap H locs → lv_has ls 3 [(0, .ref a_p0), (1, .int x1)] → wp_X_appendLongTexts_b74 post k2 I_p0_labels f_p0_labels_characters f_p0_labels_sizes f_p0_labels_tags I_p0_file f_p0_file_bytes f_p0_writtenTexts x1 → W p l e ({ frames := 2, cells := 0, slots := 0, locals := 46 } : Room) s m args below meth c H locs 0 0 Q (F0 m 74 ls []) := by
    intro k2 hk2 H locs ls I_p0_file f_p0_file_bytes f_p0_writtenTexts x1 hP hD hS hl hw
    unfold wp_X_appendLongTexts_b74 at hw
    refine lv_iinc (k := 1) (v := (x1 + 1)) (lv' := [(1, .int (x1 + 1)), (0, .ref a_p0)]) hx hb d_X_appendLongTexts_74 hl rfl (congrArg (fun z => x1 + z) (by decide : Int32.ofInt 1 = 1)) (by decide) rfl (fun ls hl => ?_)
    refine lv_goto hx hb d_X_appendLongTexts_77 rfl ?_
    exact hk2 _ _ _ I_p0_file f_p0_file_bytes f_p0_writtenTexts (x1 + 1) hP hD hS (lv_sub hl [1, 0] rfl) hw
  have l2 : ∀ n : Nat, ∀ (H : Heap) (locs : List Loc) (ls : Array Slot) (I_p0_file : Nat → Int32) (f_p0_file_bytes : Nat → Int32) (f_p0_writtenTexts : Nat → Int32) (x1 : Int32), va_P (dC, dI) vwCl [oX a_p0 A_p0, oSt (A_p0 0) A_p0_file I_p0_file, gz cI (A_p0_file 0) 900 f_p0_file_bytes, oLb (A_p0 3) A_p0_labels I_p0_labels, gz cI (A_p0_labels 2) 24 f_p0_labels_characters, gz cI (A_p0_labels 1) 2 f_p0_labels_sizes, gz cI (A_p0_labels 0) 2 f_p0_labels_tags, gz cI (A_p0 13) 2 f_p0_writtenTexts] H → va_D A [oX a_p0 A_p0, oSt (A_p0 0) A_p0_file I_p0_file, gz cI (A_p0_file 0) 900 f_p0_file_bytes, oLb (A_p0 3) A_p0_labels I_p0_labels, gz cI (A_p0_labels 2) 24 f_p0_labels_characters, gz cI (A_p0_labels 1) 2 f_p0_labels_sizes, gz cI (A_p0_labels 0) 2 f_p0_labels_tags, gz cI (A_p0 13) 2 f_p0_writtenTexts] → va_S A s.heap H locs → lv_has ls 3 [(0, .ref a_p0), (1, .int x1)] → wp_X_appendLongTexts_l2 post I_p0_labels f_p0_labels_characters f_p0_labels_sizes f_p0_labels_tags n I_p0_file f_p0_file_bytes f_p0_writtenTexts x1 → W p l e ({ frames := 2, cells := 0, slots := 0, locals := 46 } : Room) s m args below meth c H locs 0 0 Q (F0 m 2 ls []) := by
    intro n
    induction n with
    | zero => intro H locs ls I_p0_file f_p0_file_bytes f_p0_writtenTexts x1 hP hD hS hl hw; exact hw.elim
    | succ n ih =>
      intro H locs ls I_p0_file f_p0_file_bytes f_p0_writtenTexts x1 hP hD hS hl hw
      unfold wp_X_appendLongTexts_l2 at hw
      refine lv_iload_n hx hb d_X_appendLongTexts_2 rfl (lv_at hl 1 rfl) ?_
      refine lv_aload_n hx hb d_X_appendLongTexts_3 rfl (lv_at hl 0 rfl) ?_
      refine va_get (D := (dC, dI)) (ci := 9) (v := .ref (A_p0 3)) (C := R_X) (T := T_X) (N := 14) hx hb hg in_X hown hK hP 0 rfl rfl 3 (by decide) (hg _ t_310) (fun _ h9 => h9) rfl d_X_appendLongTexts_4 ?_
      refine va_get (D := (dC, dI)) (ci := 2) (v := .int (I_p0_labels 3)) (C := R_Lb) (T := T_Lb) (N := 4) hx hb hg in_Lb hown hK hP 3 rfl rfl 3 (by decide) (hg _ t_162) (fun _ h9 => h9) rfl d_X_appendLongTexts_7 ?_
      refine lv_icmp_ge hx hb d_X_appendLongTexts_10 rfl (fun hc => ?_) (fun hc => ?_)
      · have hw := hw.1 hc
        exact hret _ _ _ _ (I_p0_file, f_p0_file_bytes, f_p0_writtenTexts) d_X_appendLongTexts_80 hP hD hS hw
      · have hw := hw.2 hc
        refine lv_aload_n hx hb d_X_appendLongTexts_13 rfl (lv_at hl 0 rfl) ?_
        refine va_get (D := (dC, dI)) (ci := 9) (v := .ref (A_p0 3)) (C := R_X) (T := T_X) (N := 14) hx hb hg in_X hown hK hP 0 rfl rfl 3 (by decide) (hg _ t_310) (fun _ h9 => h9) rfl d_X_appendLongTexts_14 ?_
        refine lv_iload_n hx hb d_X_appendLongTexts_17 rfl (lv_at hl 1 rfl) ?_
        refine gc_i (wn := fun (_ : Unit) => [oX a_p0 A_p0, oSt (A_p0 0) A_p0_file I_p0_file, gz cI (A_p0_file 0) 900 f_p0_file_bytes, oLb (A_p0 3) A_p0_labels I_p0_labels, gz cI (A_p0_labels 2) 24 f_p0_labels_characters, gz cI (A_p0_labels 1) 2 f_p0_labels_sizes, gz cI (A_p0_labels 0) 2 f_p0_labels_tags, gz cI (A_p0 13) 2 f_p0_writtenTexts]) (wr := [oX a_p0 A_p0, oSt (A_p0 0) A_p0_file I_p0_file, gz cI (A_p0_file 0) 900 f_p0_file_bytes, gz cI (A_p0_labels 2) 24 f_p0_labels_characters, gz cI (A_p0_labels 1) 2 f_p0_labels_sizes, gz cI (A_p0 13) 2 f_p0_writtenTexts]) (gr_V (As := [.int x1]) (rest := []) ⟨hx, hb, hml, hown, hg⟩ (c_Lb_inOrder l dC dI cI (A_p0 3) A_p0_labels I_p0_labels f_p0_labels_tags x1 hw _) (cwV 1 hg (gg_V t_593 t_594 t_595 t_64 t_596) rfl rfl rfl (by decide +kernel) ⟨Nat.le_of_ble_eq_true rfl, Nat.le_of_ble_eq_true rfl⟩) hK hN hP hD [3, 6] (by decide) rfl 3 2 rfl rfl rfl rfl hl.1 rfl (Nat.le_of_ble_eq_true rfl) d_X_appendLongTexts_18 ⟨Nat.le_of_ble_eq_true rfl, Nat.le_of_ble_eq_true rfl⟩) rfl rfl hP hD hS hA [3, 6] [0, 1, 2, 4, 5, 7] [0, 1, 2, 6, 3, 4, 7, 5] rfl rfl (by decide) (by decide) (by decide) (fun _ => rfl) ?_
        intro r18 _ H locs hw hP hD hS
        try dsimp only at hw
        have hP : va_P (dC, dI) vwCl [oX a_p0 A_p0, oSt (A_p0 0) A_p0_file I_p0_file, gz cI (A_p0_file 0) 900 f_p0_file_bytes, oLb (A_p0 3) A_p0_labels I_p0_labels, gz cI (A_p0_labels 2) 24 f_p0_labels_characters, gz cI (A_p0_labels 1) 2 f_p0_labels_sizes, gz cI (A_p0_labels 0) 2 f_p0_labels_tags, gz cI (A_p0 13) 2 f_p0_writtenTexts] H := hP
        have hD : va_D A [oX a_p0 A_p0, oSt (A_p0 0) A_p0_file I_p0_file, gz cI (A_p0_file 0) 900 f_p0_file_bytes, oLb (A_p0 3) A_p0_labels I_p0_labels, gz cI (A_p0_labels 2) 24 f_p0_labels_characters, gz cI (A_p0_labels 1) 2 f_p0_labels_sizes, gz cI (A_p0_labels 0) 2 f_p0_labels_tags, gz cI (A_p0 13) 2 f_p0_writtenTexts] := hD
        refine lv_istore_n (lv' := [(2, .int r18), (0, .ref a_p0), (1, .int x1)]) hx hb d_X_appendLongTexts_21 rfl hl (by decide) rfl (fun ls hl => ?_)
        refine lv_aload_n hx hb d_X_appendLongTexts_22 rfl (lv_at hl 1 rfl) ?_
        refine va_get (D := (dC, dI)) (ci := 9) (v := .ref (A_p0 3)) (C := R_X) (T := T_X) (N := 14) hx hb hg in_X hown hK hP 0 rfl rfl 3 (by decide) (hg _ t_310) (fun _ h9 => h9) rfl d_X_appendLongTexts_23 ?_
        refine lv_iload_n hx hb d_X_appendLongTexts_26 rfl (lv_at hl 0 rfl) ?_
        refine gc_i (wn := fun (_ : Unit) => [oX a_p0 A_p0, oSt (A_p0 0) A_p0_file I_p0_file, gz cI (A_p0_file 0) 900 f_p0_file_bytes, oLb (A_p0 3) A_p0_labels I_p0_labels, gz cI (A_p0_labels 2) 24 f_p0_labels_characters, gz cI (A_p0_labels 1) 2 f_p0_labels_sizes, gz cI (A_p0_labels 0) 2 f_p0_labels_tags, gz cI (A_p0 13) 2 f_p0_writtenTexts]) (wr := [oX a_p0 A_p0, oSt (A_p0 0) A_p0_file I_p0_file, gz cI (A_p0_file 0) 900 f_p0_file_bytes, gz cI (A_p0_labels 2) 24 f_p0_labels_characters, gz cI (A_p0_labels 0) 2 f_p0_labels_tags, gz cI (A_p0 13) 2 f_p0_writtenTexts]) (gr_V (As := [.int r18]) (rest := []) ⟨hx, hb, hml, hown, hg⟩ (c_Lb_bytesOf l dC dI cI (A_p0 3) A_p0_labels I_p0_labels f_p0_labels_sizes r18 hw _) (cwV 1 hg (gg_V t_597 t_598 t_599 t_64 t_600) rfl rfl rfl (by decide +kernel) ⟨Nat.le_of_ble_eq_true rfl, Nat.le_of_ble_eq_true rfl⟩) hK hN hP hD [3, 5] (by decide) rfl 3 2 rfl rfl rfl rfl hl.1 rfl (Nat.le_of_ble_eq_true rfl) d_X_appendLongTexts_27 ⟨Nat.le_of_ble_eq_true rfl, Nat.le_of_ble_eq_true rfl⟩) rfl rfl hP hD hS hA [3, 5] [0, 1, 2, 4, 6, 7] [0, 1, 2, 6, 3, 7, 4, 5] rfl rfl (by decide) (by decide) (by decide) (fun _ => rfl) ?_
        intro r27 _ H locs hw hP hD hS
        try dsimp only at hw
        have hP : va_P (dC, dI) vwCl [oX a_p0 A_p0, oSt (A_p0 0) A_p0_file I_p0_file, gz cI (A_p0_file 0) 900 f_p0_file_bytes, oLb (A_p0 3) A_p0_labels I_p0_labels, gz cI (A_p0_labels 2) 24 f_p0_labels_characters, gz cI (A_p0_labels 1) 2 f_p0_labels_sizes, gz cI (A_p0_labels 0) 2 f_p0_labels_tags, gz cI (A_p0 13) 2 f_p0_writtenTexts] H := hP
        have hD : va_D A [oX a_p0 A_p0, oSt (A_p0 0) A_p0_file I_p0_file, gz cI (A_p0_file 0) 900 f_p0_file_bytes, oLb (A_p0 3) A_p0_labels I_p0_labels, gz cI (A_p0_labels 2) 24 f_p0_labels_characters, gz cI (A_p0_labels 1) 2 f_p0_labels_sizes, gz cI (A_p0_labels 0) 2 f_p0_labels_tags, gz cI (A_p0 13) 2 f_p0_writtenTexts] := hD
        refine lv_iconst (v := 4) hx hb d_X_appendLongTexts_30 (by decide) ?_
        refine lv_icmp_le hx hb d_X_appendLongTexts_31 rfl (fun hc => ?_) (fun hc => ?_)
        · have hw := hw.1 hc
          exact b74 _ ih _ _ _ I_p0_file f_p0_file_bytes f_p0_writtenTexts x1 hP hD hS (lv_sub hl [1, 2] rfl) hw
        · have hw := hw.2 hc
          refine lv_aload_n hx hb d_X_appendLongTexts_34 rfl (lv_at hl 1 rfl) ?_
          refine va_get (D := (dC, dI)) (ci := 9) (v := .ref (A_p0 0)) (C := R_X) (T := T_X) (N := 14) hx hb hg in_X hown hK hP 0 rfl rfl 0 (by decide) (hg _ t_307) (fun _ h9 => h9) rfl d_X_appendLongTexts_35 ?_
          refine gc_v (wn := fun u => [oX a_p0 A_p0, oSt (A_p0 0) A_p0_file u.1, gz cI (A_p0_file 0) 900 u.2, oLb (A_p0 3) A_p0_labels I_p0_labels, gz cI (A_p0_labels 2) 24 f_p0_labels_characters, gz cI (A_p0_labels 1) 2 f_p0_labels_sizes, gz cI (A_p0_labels 0) 2 f_p0_labels_tags, gz cI (A_p0 13) 2 f_p0_writtenTexts]) (wr := [oX a_p0 A_p0, oLb (A_p0 3) A_p0_labels I_p0_labels, gz cI (A_p0_labels 2) 24 f_p0_labels_characters, gz cI (A_p0_labels 1) 2 f_p0_labels_sizes, gz cI (A_p0_labels 0) 2 f_p0_labels_tags, gz cI (A_p0 13) 2 f_p0_writtenTexts]) (gr_V (As := []) (rest := []) ⟨hx, hb, hml, hown, hg⟩ (c_St_appendToEven l dC dI cI (A_p0 0) A_p0_file I_p0_file f_p0_file_bytes hw _) (cwV 0 hg (gg_V t_527 t_528 t_529 t_61 t_530) rfl rfl rfl (by decide +kernel) ⟨Nat.le_of_ble_eq_true rfl, Nat.le_of_ble_eq_true rfl⟩) hK hN hP hD [1, 2] (by decide) rfl 1 7 rfl rfl rfl rfl hl.1 rfl (Nat.le_of_ble_eq_true rfl) d_X_appendLongTexts_38 ⟨Nat.le_of_ble_eq_true rfl, Nat.le_of_ble_eq_true rfl⟩) rfl rfl hP hD hS hA [1, 2] [0, 3, 4, 5, 6, 7] [0, 6, 7, 1, 2, 3, 4, 5] rfl rfl (by decide) (by decide) (by decide) (fun _ => rfl) ?_
          intro u9 H locs hw hP hD hS
          obtain ⟨I_p0_file_38, f_p0_file_bytes_38⟩ := u9
          try dsimp only at hw
          have hP : va_P (dC, dI) vwCl [oX a_p0 A_p0, oSt (A_p0 0) A_p0_file I_p0_file_38, gz cI (A_p0_file 0) 900 f_p0_file_bytes_38, oLb (A_p0 3) A_p0_labels I_p0_labels, gz cI (A_p0_labels 2) 24 f_p0_labels_characters, gz cI (A_p0_labels 1) 2 f_p0_labels_sizes, gz cI (A_p0_labels 0) 2 f_p0_labels_tags, gz cI (A_p0 13) 2 f_p0_writtenTexts] H := hP
          have hD : va_D A [oX a_p0 A_p0, oSt (A_p0 0) A_p0_file I_p0_file_38, gz cI (A_p0_file 0) 900 f_p0_file_bytes_38, oLb (A_p0 3) A_p0_labels I_p0_labels, gz cI (A_p0_labels 2) 24 f_p0_labels_characters, gz cI (A_p0_labels 1) 2 f_p0_labels_sizes, gz cI (A_p0_labels 0) 2 f_p0_labels_tags, gz cI (A_p0 13) 2 f_p0_writtenTexts] := hD
          refine lv_aload_n hx hb d_X_appendLongTexts_41 rfl (lv_at hl 1 rfl) ?_
          refine va_get (D := (dC, dI)) (ci := 9) (v := .ref (A_p0 13)) (C := R_X) (T := T_X) (N := 14) hx hb hg in_X hown hK hP 0 rfl rfl 13 (by decide) (hg _ t_320) (fun _ h9 => h9) rfl d_X_appendLongTexts_42 ?_
          refine lv_iload_n hx hb d_X_appendLongTexts_45 rfl (lv_at hl 0 rfl) ?_
          refine lv_aload_n hx hb d_X_appendLongTexts_46 rfl (lv_at hl 1 rfl) ?_
          refine va_get (D := (dC, dI)) (ci := 9) (v := .ref (A_p0 0)) (C := R_X) (T := T_X) (N := 14) hx hb hg in_X hown hK hP 0 rfl rfl 0 (by decide) (hg _ t_307) (fun _ h9 => h9) rfl d_X_appendLongTexts_47 ?_
          refine va_get (D := (dC, dI)) (ci := 7) (v := .int (I_p0_file_38 2)) (C := R_St) (T := T_St) (N := 3) hx hb hg in_St hown hK hP 1 rfl rfl 2 (by decide) (hg _ t_97) (fun _ h9 => h9) rfl d_X_appendLongTexts_50 ?_
          obtain ⟨hin, hw⟩ := hw
          refine va_iast hx hb hK hP hD hS 7 0 rfl rfl hin d_X_appendLongTexts_53 (fun H locs hP hD hS => ?_)
          have hP : va_P (dC, dI) vwCl [oX a_p0 A_p0, oSt (A_p0 0) A_p0_file I_p0_file_38, gz cI (A_p0_file 0) 900 f_p0_file_bytes_38, oLb (A_p0 3) A_p0_labels I_p0_labels, gz cI (A_p0_labels 2) 24 f_p0_labels_characters, gz cI (A_p0_labels 1) 2 f_p0_labels_sizes, gz cI (A_p0_labels 0) 2 f_p0_labels_tags, gz cI (A_p0 13) 2 (upd f_p0_writtenTexts (r18).toNatClampNeg (I_p0_file_38 2))] H := hP
          have hD : va_D A [oX a_p0 A_p0, oSt (A_p0 0) A_p0_file I_p0_file_38, gz cI (A_p0_file 0) 900 f_p0_file_bytes_38, oLb (A_p0 3) A_p0_labels I_p0_labels, gz cI (A_p0_labels 2) 24 f_p0_labels_characters, gz cI (A_p0_labels 1) 2 f_p0_labels_sizes, gz cI (A_p0_labels 0) 2 f_p0_labels_tags, gz cI (A_p0 13) 2 (upd f_p0_writtenTexts (r18).toNatClampNeg (I_p0_file_38 2))] := hD
          refine lv_aload_n hx hb d_X_appendLongTexts_54 rfl (lv_at hl 1 rfl) ?_
          refine va_get (D := (dC, dI)) (ci := 9) (v := .ref (A_p0 3)) (C := R_X) (T := T_X) (N := 14) hx hb hg in_X hown hK hP 0 rfl rfl 3 (by decide) (hg _ t_310) (fun _ h9 => h9) rfl d_X_appendLongTexts_55 ?_
          refine lv_iload_n hx hb d_X_appendLongTexts_58 rfl (lv_at hl 0 rfl) ?_
          refine lv_aload_n hx hb d_X_appendLongTexts_59 rfl (lv_at hl 1 rfl) ?_
          refine va_get (D := (dC, dI)) (ci := 9) (v := .ref (A_p0 3)) (C := R_X) (T := T_X) (N := 14) hx hb hg in_X hown hK hP 0 rfl rfl 3 (by decide) (hg _ t_310) (fun _ h9 => h9) rfl d_X_appendLongTexts_60 ?_
          refine lv_iload_n hx hb d_X_appendLongTexts_63 rfl (lv_at hl 0 rfl) ?_
          refine gc_i (wn := fun (_ : Unit) => [oX a_p0 A_p0, oSt (A_p0 0) A_p0_file I_p0_file_38, gz cI (A_p0_file 0) 900 f_p0_file_bytes_38, oLb (A_p0 3) A_p0_labels I_p0_labels, gz cI (A_p0_labels 2) 24 f_p0_labels_characters, gz cI (A_p0_labels 1) 2 f_p0_labels_sizes, gz cI (A_p0_labels 0) 2 f_p0_labels_tags, gz cI (A_p0 13) 2 (upd f_p0_writtenTexts (r18).toNatClampNeg (I_p0_file_38 2))]) (wr := [oX a_p0 A_p0, oSt (A_p0 0) A_p0_file I_p0_file_38, gz cI (A_p0_file 0) 900 f_p0_file_bytes_38, gz cI (A_p0_labels 2) 24 f_p0_labels_characters, gz cI (A_p0_labels 0) 2 f_p0_labels_tags, gz cI (A_p0 13) 2 (upd f_p0_writtenTexts (r18).toNatClampNeg (I_p0_file_38 2))]) (gr_V (As := [.int r18]) (rest := [.int r18, .ref (A_p0 3)]) ⟨hx, hb, hml, hown, hg⟩ (c_Lb_bytesOf l dC dI cI (A_p0 3) A_p0_labels I_p0_labels f_p0_labels_sizes r18 hw _) (cwV 1 hg (gg_V t_597 t_598 t_599 t_64 t_600) rfl rfl rfl (by decide +kernel) ⟨Nat.le_of_ble_eq_true rfl, Nat.le_of_ble_eq_true rfl⟩) hK hN hP hD [3, 5] (by decide) rfl 3 2 rfl rfl rfl rfl hl.1 rfl (Nat.le_of_ble_eq_true rfl) d_X_appendLongTexts_64 ⟨Nat.le_of_ble_eq_true rfl, Nat.le_of_ble_eq_true rfl⟩) rfl rfl hP hD hS hA [3, 5] [0, 1, 2, 4, 6, 7] [0, 1, 2, 6, 3, 7, 4, 5] rfl rfl (by decide) (by decide) (by decide) (fun _ => rfl) ?_
          intro r64 _ H locs hw hP hD hS
          try dsimp only at hw
          have hP : va_P (dC, dI) vwCl [oX a_p0 A_p0, oSt (A_p0 0) A_p0_file I_p0_file_38, gz cI (A_p0_file 0) 900 f_p0_file_bytes_38, oLb (A_p0 3) A_p0_labels I_p0_labels, gz cI (A_p0_labels 2) 24 f_p0_labels_characters, gz cI (A_p0_labels 1) 2 f_p0_labels_sizes, gz cI (A_p0_labels 0) 2 f_p0_labels_tags, gz cI (A_p0 13) 2 (upd f_p0_writtenTexts (r18).toNatClampNeg (I_p0_file_38 2))] H := hP
          have hD : va_D A [oX a_p0 A_p0, oSt (A_p0 0) A_p0_file I_p0_file_38, gz cI (A_p0_file 0) 900 f_p0_file_bytes_38, oLb (A_p0 3) A_p0_labels I_p0_labels, gz cI (A_p0_labels 2) 24 f_p0_labels_characters, gz cI (A_p0_labels 1) 2 f_p0_labels_sizes, gz cI (A_p0_labels 0) 2 f_p0_labels_tags, gz cI (A_p0 13) 2 (upd f_p0_writtenTexts (r18).toNatClampNeg (I_p0_file_38 2))] := hD
          refine lv_aload_n hx hb d_X_appendLongTexts_67 rfl (lv_at hl 1 rfl) ?_
          refine va_get (D := (dC, dI)) (ci := 9) (v := .ref (A_p0 0)) (C := R_X) (T := T_X) (N := 14) hx hb hg in_X hown hK hP 0 rfl rfl 0 (by decide) (hg _ t_307) (fun _ h9 => h9) rfl d_X_appendLongTexts_68 ?_
          refine gc_v (wn := fun u => [oX a_p0 A_p0, oSt (A_p0 0) A_p0_file u.1, gz cI (A_p0_file 0) 900 u.2, oLb (A_p0 3) A_p0_labels I_p0_labels, gz cI (A_p0_labels 2) 24 f_p0_labels_characters, gz cI (A_p0_labels 1) 2 f_p0_labels_sizes, gz cI (A_p0_labels 0) 2 f_p0_labels_tags, gz cI (A_p0 13) 2 (upd f_p0_writtenTexts (r18).toNatClampNeg (I_p0_file_38 2))]) (wr := [oX a_p0 A_p0, gz cI (A_p0_labels 0) 2 f_p0_labels_tags, gz cI (A_p0 13) 2 (upd f_p0_writtenTexts (r18).toNatClampNeg (I_p0_file_38 2))]) (gr_V (As := [.int r18, .int r64, .ref (A_p0 0)]) (rest := []) ⟨hx, hb, hml, hown, hg⟩ (c_Lb_appendText l dC dI cI (A_p0 3) (A_p0 0) A_p0_labels A_p0_file I_p0_labels f_p0_labels_characters f_p0_labels_sizes I_p0_file_38 f_p0_file_bytes_38 r18 r64 hw _) (cwV 3 hg (gg_V t_601 t_602 t_603 t_64 t_604) rfl rfl rfl (by decide +kernel) ⟨Nat.le_of_ble_eq_true rfl, Nat.le_of_ble_eq_true rfl⟩) hK hN hP hD [3, 4, 5, 1, 2] (by decide) rfl 3 2 rfl rfl rfl rfl hl.1 rfl (Nat.le_of_ble_eq_true rfl) d_X_appendLongTexts_71 ⟨Nat.le_of_ble_eq_true rfl, Nat.le_of_ble_eq_true rfl⟩) rfl rfl hP hD hS hA [3, 4, 5, 1, 2] [0, 6, 7] [0, 6, 7, 3, 4, 5, 1, 2] rfl rfl (by decide) (by decide) (by decide) (fun _ => rfl) ?_
          intro u9 H locs hw hP hD hS
          obtain ⟨I_p0_file_71, f_p0_file_bytes_71⟩ := u9
          try dsimp only at hw
          have hP : va_P (dC, dI) vwCl [oX a_p0 A_p0, oSt (A_p0 0) A_p0_file I_p0_file_71, gz cI (A_p0_file 0) 900 f_p0_file_bytes_71, oLb (A_p0 3) A_p0_labels I_p0_labels, gz cI (A_p0_labels 2) 24 f_p0_labels_characters, gz cI (A_p0_labels 1) 2 f_p0_labels_sizes, gz cI (A_p0_labels 0) 2 f_p0_labels_tags, gz cI (A_p0 13) 2 (upd f_p0_writtenTexts (r18).toNatClampNeg (I_p0_file_38 2))] H := hP
          have hD : va_D A [oX a_p0 A_p0, oSt (A_p0 0) A_p0_file I_p0_file_71, gz cI (A_p0_file 0) 900 f_p0_file_bytes_71, oLb (A_p0 3) A_p0_labels I_p0_labels, gz cI (A_p0_labels 2) 24 f_p0_labels_characters, gz cI (A_p0_labels 1) 2 f_p0_labels_sizes, gz cI (A_p0_labels 0) 2 f_p0_labels_tags, gz cI (A_p0 13) 2 (upd f_p0_writtenTexts (r18).toNatClampNeg (I_p0_file_38 2))] := hD
          exact b74 _ ih _ _ _ I_p0_file_71 f_p0_file_bytes_71 (upd f_p0_writtenTexts (r18).toNatClampNeg (I_p0_file_38 2)) x1 hP hD hS (lv_sub hl [1, 2] rfl) hw
  intro ls hl hP hD hS
  have hl : lv_has ls 3 [(0, .ref a_p0)] := hl
  unfold wp_X_appendLongTexts at hw
  refine lv_iconst (v := 0) hx hb d_X_appendLongTexts_0 (by decide) ?_
  refine lv_istore_n (lv' := [(1, .int 0), (0, .ref a_p0)]) hx hb d_X_appendLongTexts_1 rfl hl (by decide) rfl (fun ls hl => ?_)
  obtain ⟨n1, hw⟩ := hw
  exact l2 n1 _ _ _ I_p0_file f_p0_file_bytes f_p0_writtenTexts 0 hP hD hS (lv_sub hl [1, 0] rfl) hw
theorem d_Pi_has_0 : decode b_Pi_has 0 = .ok (.iload_n 1, 1) := by decide +kernel
theorem d_Pi_has_1 : decode b_Pi_has 1 = .ok (.ifCond .lt 27, 3) := by decide +kernel
theorem d_Pi_has_4 : decode b_Pi_has 4 = .ok (.iload_n 1, 1) := by decide +kernel
theorem d_Pi_has_5 : decode b_Pi_has 5 = .ok (.aload_n 0, 1) := by decide +kernel
theorem d_Pi_has_6 : decode b_Pi_has 6 = .ok (.getfield 15, 3) := by decide +kernel
theorem d_Pi_has_9 : decode b_Pi_has 9 = .ok (.if_icmp .ge 19, 3) := by decide +kernel
theorem d_Pi_has_12 : decode b_Pi_has 12 = .ok (.iload_n 2, 1) := by decide +kernel
theorem d_Pi_has_13 : decode b_Pi_has 13 = .ok (.ifCond .lt 15, 3) := by decide +kernel
theorem d_Pi_has_16 : decode b_Pi_has 16 = .ok (.iload_n 2, 1) := by decide +kernel
theorem d_Pi_has_17 : decode b_Pi_has 17 = .ok (.aload_n 0, 1) := by decide +kernel
theorem d_Pi_has_18 : decode b_Pi_has 18 = .ok (.getfield 19, 3) := by decide +kernel
theorem d_Pi_has_21 : decode b_Pi_has 21 = .ok (.if_icmp .ge 7, 3) := by decide +kernel
theorem d_Pi_has_24 : decode b_Pi_has 24 = .ok (.iconst 1, 1) := by decide +kernel
theorem d_Pi_has_25 : decode b_Pi_has 25 = .ok (.goto 4, 3) := by decide +kernel
theorem d_Pi_has_28 : decode b_Pi_has 28 = .ok (.iconst 0, 1) := by decide +kernel
theorem d_Pi_has_29 : decode b_Pi_has 29 = .ok (.ireturn, 1) := by decide +kernel
def wp_Pi_has_b28 (post : Int32 → Prop) (I_p0 : Nat → Int32) : Prop :=
  post 0
def wp_Pi_has (post : Int32 → Prop) (I_p0 : Nat → Int32) (x1 : Int32) (x2 : Int32) : Prop :=
  ((x1 < 0 →
    wp_Pi_has_b28 post I_p0) ∧
   (¬ x1 < 0 →
    (((I_p0 1) ≤ x1 →
      wp_Pi_has_b28 post I_p0) ∧
     (¬ (I_p0 1) ≤ x1 →
      ((x2 < 0 →
        wp_Pi_has_b28 post I_p0) ∧
       (¬ x2 < 0 →
        (((I_p0 2) ≤ x2 →
          wp_Pi_has_b28 post I_p0) ∧
         (¬ (I_p0 2) ≤ x2 →
          post 1))))))))
set_option maxRecDepth 100000 in
set_option maxHeartbeats 4000000 in
theorem c_Pi_has (l : Launch) (dC : Nat → ClassId) (dI : Nat → Nat → Nat) (cI : ClassId) (a_p0 : Nat) (A_p0 : Nat → Nat) (I_p0 : Nat → Int32) (x1 : Int32) (x2 : Int32) {post : Int32 → Prop} (hw : wp_Pi_has post I_p0 x1 x2) : gm_i l y_Pi_has ws_Pi_has ({ frames := 0, cells := 0, slots := 0, locals := 0 } : Room) (dC, dI) vwCl [(cI, .int)] [.ref a_p0, .int x1, .int x2] [oPi a_p0 A_p0 I_p0] (fun (_ : Unit) => [oPi a_p0 A_p0 I_p0]) (fun (r : Int32) (_ : Unit) => post r) := by
  refine gm_iof (cc := b_Pi_has) (maxL := 3) (ty := .boolean) (by decide) rfl (Nat.le_of_ble_eq_true rfl) ?_
  intro p e s m args below meth c A Q hx hb hml hown hg hK hN hA hret
  have hown : s.vm.findClass R_Pi = some m.cls := hown
  have b28 : ∀ (H : Heap) (locs : List Loc) (ls : Array Slot), va_P (dC, dI) vwCl [oPi a_p0 A_p0 I_p0] H → va_D A [oPi a_p0 A_p0 I_p0] → va_S A s.heap H locs → lv_has ls 3 [] → wp_Pi_has_b28 post I_p0 → W p l e ({ frames := 0, cells := 0, slots := 0, locals := 0 } : Room) s m args below meth c H locs 0 0 Q (F0 m 28 ls []) := by
    intro H locs ls hP hD hS hl hw
    unfold wp_Pi_has_b28 at hw
    refine lv_iconst (v := 0) hx hb d_Pi_has_28 (by decide) ?_
    exact hret _ _ _ _ _ () d_Pi_has_29 rfl hP hD hS hw
  intro ls hl hP hD hS
  have hl : lv_has ls 3 [(0, .ref a_p0), (1, .int x1), (2, .int x2)] := hl
  unfold wp_Pi_has at hw
  refine lv_iload_n hx hb d_Pi_has_0 rfl (lv_at hl 1 rfl) ?_
  refine lv_if_lt hx hb d_Pi_has_1 rfl (fun hc => ?_) (fun hc => ?_)
  · have hw := hw.1 hc
    exact b28 _ _ _ hP hD hS (lv_sub hl [] rfl) hw
  · have hw := hw.2 hc
    refine lv_iload_n hx hb d_Pi_has_4 rfl (lv_at hl 1 rfl) ?_
    refine lv_aload_n hx hb d_Pi_has_5 rfl (lv_at hl 0 rfl) ?_
    refine va_get (D := (dC, dI)) (ci := 6) (v := .int (I_p0 1)) (C := R_Pi) (T := T_Pi) (N := 4) hx hb hg in_Pi hown hK hP 0 rfl rfl 1 (by decide) (hg _ t_136) (fun _ h9 => h9) rfl d_Pi_has_6 ?_
    refine lv_icmp_ge hx hb d_Pi_has_9 rfl (fun hc => ?_) (fun hc => ?_)
    · have hw := hw.1 hc
      exact b28 _ _ _ hP hD hS (lv_sub hl [] rfl) hw
    · have hw := hw.2 hc
      refine lv_iload_n hx hb d_Pi_has_12 rfl (lv_at hl 2 rfl) ?_
      refine lv_if_lt hx hb d_Pi_has_13 rfl (fun hc => ?_) (fun hc => ?_)
      · have hw := hw.1 hc
        exact b28 _ _ _ hP hD hS (lv_sub hl [] rfl) hw
      · have hw := hw.2 hc
        refine lv_iload_n hx hb d_Pi_has_16 rfl (lv_at hl 2 rfl) ?_
        refine lv_aload_n hx hb d_Pi_has_17 rfl (lv_at hl 0 rfl) ?_
        refine va_get (D := (dC, dI)) (ci := 6) (v := .int (I_p0 2)) (C := R_Pi) (T := T_Pi) (N := 4) hx hb hg in_Pi hown hK hP 0 rfl rfl 2 (by decide) (hg _ t_138) (fun _ h9 => h9) rfl d_Pi_has_18 ?_
        refine lv_icmp_ge hx hb d_Pi_has_21 rfl (fun hc => ?_) (fun hc => ?_)
        · have hw := hw.1 hc
          exact b28 _ _ _ hP hD hS (lv_sub hl [] rfl) hw
        · have hw := hw.2 hc
          refine lv_iconst (v := 1) hx hb d_Pi_has_24 (by decide) ?_
          refine lv_goto hx hb d_Pi_has_25 rfl ?_
          exact hret _ _ _ _ _ () d_Pi_has_29 rfl hP hD hS hw
theorem d_Pi_get_0 : decode b_Pi_get 0 = .ok (.aload_n 0, 1) := by decide +kernel
theorem d_Pi_get_1 : decode b_Pi_get 1 = .ok (.iload_n 1, 1) := by decide +kernel
theorem d_Pi_get_2 : decode b_Pi_get 2 = .ok (.iload_n 2, 1) := by decide +kernel
theorem d_Pi_get_3 : decode b_Pi_get 3 = .ok (.invokevirtual 31, 3) := by decide +kernel
theorem d_Pi_get_6 : decode b_Pi_get 6 = .ok (.ifCond .eq 17, 3) := by decide +kernel
theorem d_Pi_get_9 : decode b_Pi_get 9 = .ok (.aload_n 0, 1) := by decide +kernel
theorem d_Pi_get_10 : decode b_Pi_get 10 = .ok (.getfield 9, 3) := by decide +kernel
theorem d_Pi_get_13 : decode b_Pi_get 13 = .ok (.iload_n 2, 1) := by decide +kernel
theorem d_Pi_get_14 : decode b_Pi_get 14 = .ok (.bipush 16, 2) := by decide +kernel
theorem d_Pi_get_16 : decode b_Pi_get 16 = .ok (.imul, 1) := by decide +kernel
theorem d_Pi_get_17 : decode b_Pi_get 17 = .ok (.iload_n 1, 1) := by decide +kernel
theorem d_Pi_get_18 : decode b_Pi_get 18 = .ok (.iadd, 1) := by decide +kernel
theorem d_Pi_get_19 : decode b_Pi_get 19 = .ok (.iaload, 1) := by decide +kernel
theorem d_Pi_get_20 : decode b_Pi_get 20 = .ok (.goto 4, 3) := by decide +kernel
theorem d_Pi_get_23 : decode b_Pi_get 23 = .ok (.iconst 0, 1) := by decide +kernel
theorem d_Pi_get_24 : decode b_Pi_get 24 = .ok (.ireturn, 1) := by decide +kernel
def wp_Pi_get (post : Int32 → Prop) (I_p0 : Nat → Int32) (f_p0_samples : Nat → Int32) (x1 : Int32) (x2 : Int32) : Prop :=
  wp_Pi_has (fun (r3 : Int32) =>
    ((r3 = 0 →
      post 0) ∧
     (¬ r3 = 0 →
      vp_in ((x2 * 16) + x1) 256 ∧
      post (f_p0_samples ((x2 * 16) + x1).toNatClampNeg)))) I_p0 x1 x2
set_option maxRecDepth 100000 in
set_option maxHeartbeats 4000000 in
theorem c_Pi_get (l : Launch) (dC : Nat → ClassId) (dI : Nat → Nat → Nat) (cI : ClassId) (a_p0 : Nat) (A_p0 : Nat → Nat) (I_p0 : Nat → Int32) (f_p0_samples : Nat → Int32) (x1 : Int32) (x2 : Int32) {post : Int32 → Prop} (hw : wp_Pi_get post I_p0 f_p0_samples x1 x2) : gm_i l y_Pi_get ws_Pi_get ({ frames := 1, cells := 0, slots := 0, locals := 22 } : Room) (dC, dI) vwCl [(cI, .int)] [.ref a_p0, .int x1, .int x2] [oPi a_p0 A_p0 I_p0, gz cI (A_p0 0) 256 f_p0_samples] (fun (_ : Unit) => [oPi a_p0 A_p0 I_p0, gz cI (A_p0 0) 256 f_p0_samples]) (fun (r : Int32) (_ : Unit) => post r) := by
  refine gm_iof (cc := b_Pi_get) (maxL := 3) (ty := .int) (by decide) rfl (Nat.le_of_ble_eq_true rfl) ?_
  intro p e s m args below meth c A Q hx hb hml hown hg hK hN hA hret
  have hown : s.vm.findClass R_Pi = some m.cls := hown
  intro ls hl hP hD hS
  have hl : lv_has ls 3 [(0, .ref a_p0), (1, .int x1), (2, .int x2)] := hl
  unfold wp_Pi_get at hw
  refine lv_aload_n hx hb d_Pi_get_0 rfl (lv_at hl 0 rfl) ?_
  refine lv_iload_n hx hb d_Pi_get_1 rfl (lv_at hl 1 rfl) ?_
  refine lv_iload_n hx hb d_Pi_get_2 rfl (lv_at hl 2 rfl) ?_
  refine gc_i (wn := fun (_ : Unit) => [oPi a_p0 A_p0 I_p0, gz cI (A_p0 0) 256 f_p0_samples]) (wr := [gz cI (A_p0 0) 256 f_p0_samples]) (gr_V (As := [.int x1, .int x2]) (rest := []) ⟨hx, hb, hml, hown, hg⟩ (c_Pi_has l dC dI cI a_p0 A_p0 I_p0 x1 x2 hw _) (cwV 2 hg (gg_V t_405 t_394 t_395 t_63 t_396) rfl rfl rfl (by decide +kernel) ⟨Nat.le_of_ble_eq_true rfl, Nat.le_of_ble_eq_true rfl⟩) hK hN hP hD [0] (by decide) rfl 0 6 rfl rfl rfl rfl hl.1 rfl (Nat.le_of_ble_eq_true rfl) d_Pi_get_3 ⟨Nat.le_of_ble_eq_true rfl, Nat.le_of_ble_eq_true rfl⟩) rfl rfl hP hD hS hA [0] [1] [1, 0] rfl rfl (by decide) (by decide) (by decide) (fun _ => rfl) ?_
  intro r3 _ H locs hw hP hD hS
  try dsimp only at hw
  have hP : va_P (dC, dI) vwCl [oPi a_p0 A_p0 I_p0, gz cI (A_p0 0) 256 f_p0_samples] H := hP
  have hD : va_D A [oPi a_p0 A_p0 I_p0, gz cI (A_p0 0) 256 f_p0_samples] := hD
  refine lv_if_eq hx hb d_Pi_get_6 rfl (fun hc => ?_) (fun hc => ?_)
  · have hw := hw.1 hc
    refine lv_iconst (v := 0) hx hb d_Pi_get_23 (by decide) ?_
    exact hret _ _ _ _ _ () d_Pi_get_24 rfl hP hD hS hw
  · have hw := hw.2 hc
    refine lv_aload_n hx hb d_Pi_get_9 rfl (lv_at hl 0 rfl) ?_
    refine va_get (D := (dC, dI)) (ci := 6) (v := .ref (A_p0 0)) (C := R_Pi) (T := T_Pi) (N := 4) hx hb hg in_Pi hown hK hP 0 rfl rfl 0 (by decide) (hg _ t_135) (fun _ h9 => h9) rfl d_Pi_get_10 ?_
    refine lv_iload_n hx hb d_Pi_get_13 rfl (lv_at hl 2 rfl) ?_
    refine lv_bipush (v := 16) hx hb d_Pi_get_14 (by decide) ?_
    refine lv_imul hx hb d_Pi_get_16 ?_
    refine lv_iload_n hx hb d_Pi_get_17 rfl (lv_at hl 1 rfl) ?_
    refine lv_iadd hx hb d_Pi_get_18 ?_
    obtain ⟨hin, hw⟩ := hw
    refine va_iald hx hb hK hP 1 0 rfl rfl hin d_Pi_get_19 ?_
    refine lv_goto hx hb d_Pi_get_20 rfl ?_
    exact hret _ _ _ _ _ () d_Pi_get_24 rfl hP hD hS hw
theorem d_Ly_bytesARow_0 : decode b_Ly_bytesARow 0 = .ok (.aload_n 0, 1) := by decide +kernel
theorem d_Ly_bytesARow_1 : decode b_Ly_bytesARow 1 = .ok (.getfield 9, 3) := by decide +kernel
theorem d_Ly_bytesARow_4 : decode b_Ly_bytesARow 4 = .ok (.aload_n 0, 1) := by decide +kernel
theorem d_Ly_bytesARow_5 : decode b_Ly_bytesARow 5 = .ok (.getfield 18, 3) := by decide +kernel
theorem d_Ly_bytesARow_8 : decode b_Ly_bytesARow 8 = .ok (.imul, 1) := by decide +kernel
theorem d_Ly_bytesARow_9 : decode b_Ly_bytesARow 9 = .ok (.bipush 7, 2) := by decide +kernel
theorem d_Ly_bytesARow_11 : decode b_Ly_bytesARow 11 = .ok (.iadd, 1) := by decide +kernel
theorem d_Ly_bytesARow_12 : decode b_Ly_bytesARow 12 = .ok (.bipush 8, 2) := by decide +kernel
theorem d_Ly_bytesARow_14 : decode b_Ly_bytesARow 14 = .ok (.idiv, 1) := by decide +kernel
theorem d_Ly_bytesARow_15 : decode b_Ly_bytesARow 15 = .ok (.ireturn, 1) := by decide +kernel
def wp_Ly_bytesARow (post : Int32 → Prop) (I_p0 : Nat → Int32) : Prop :=
  post ((((I_p0 0) * (I_p0 2)) + 7) / 8)
set_option maxRecDepth 100000 in
set_option maxHeartbeats 4000000 in
theorem c_Ly_bytesARow (l : Launch) (dC : Nat → ClassId) (dI : Nat → Nat → Nat) (cI : ClassId) (a_p0 : Nat) (I_p0 : Nat → Int32) {post : Int32 → Prop} (hw : wp_Ly_bytesARow post I_p0) : gm_i l y_Ly_bytesARow ws_Ly_bytesARow ({ frames := 0, cells := 0, slots := 0, locals := 0 } : Room) (dC, dI) vwCl [(cI, .int)] [.ref a_p0] [oLy a_p0 I_p0] (fun (_ : Unit) => [oLy a_p0 I_p0]) (fun (r : Int32) (_ : Unit) => post r) := by
  refine gm_iof (cc := b_Ly_bytesARow) (maxL := 1) (ty := .int) (by decide) rfl (Nat.le_of_ble_eq_true rfl) ?_
  intro p e s m args below meth c A Q hx hb hml hown hg hK hN hA hret
  have hown : s.vm.findClass R_Ly = some m.cls := hown
  intro ls hl hP hD hS
  have hl : lv_has ls 1 [(0, .ref a_p0)] := hl
  unfold wp_Ly_bytesARow at hw
  refine lv_aload_n hx hb d_Ly_bytesARow_0 rfl (lv_at hl 0 rfl) ?_
  refine va_get (D := (dC, dI)) (ci := 3) (v := .int (I_p0 0)) (C := R_Ly) (T := T_Ly) (N := 6) hx hb hg in_Ly hown hK hP 0 rfl rfl 0 (by decide) (hg _ t_178) (fun _ h9 => h9) rfl d_Ly_bytesARow_1 ?_
  refine lv_aload_n hx hb d_Ly_bytesARow_4 rfl (lv_at hl 0 rfl) ?_
  refine va_get (D := (dC, dI)) (ci := 3) (v := .int (I_p0 2)) (C := R_Ly) (T := T_Ly) (N := 6) hx hb hg in_Ly hown hK hP 0 rfl rfl 2 (by decide) (hg _ t_184) (fun _ h9 => h9) rfl d_Ly_bytesARow_5 ?_
  refine lv_imul hx hb d_Ly_bytesARow_8 ?_
  refine lv_bipush (v := 7) hx hb d_Ly_bytesARow_9 (by decide) ?_
  refine lv_iadd hx hb d_Ly_bytesARow_11 ?_
  refine lv_bipush (v := 8) hx hb d_Ly_bytesARow_12 (by decide) ?_
  refine lv_idiv hx hb d_Ly_bytesARow_14 (by decide) ?_
  exact hret _ _ _ _ _ () d_Ly_bytesARow_15 rfl hP hD hS hw
theorem d_Pi_greatest_0 : decode b_Pi_greatest 0 = .ok (.iconst 1, 1) := by decide +kernel
theorem d_Pi_greatest_1 : decode b_Pi_greatest 1 = .ok (.aload_n 0, 1) := by decide +kernel
theorem d_Pi_greatest_2 : decode b_Pi_greatest 2 = .ok (.getfield 22, 3) := by decide +kernel
theorem d_Pi_greatest_5 : decode b_Pi_greatest 5 = .ok (.ishl, 1) := by decide +kernel
theorem d_Pi_greatest_6 : decode b_Pi_greatest 6 = .ok (.iconst 1, 1) := by decide +kernel
theorem d_Pi_greatest_7 : decode b_Pi_greatest 7 = .ok (.isub, 1) := by decide +kernel
theorem d_Pi_greatest_8 : decode b_Pi_greatest 8 = .ok (.ireturn, 1) := by decide +kernel
def wp_Pi_greatest (post : Int32 → Prop) (I_p0 : Nat → Int32) : Prop :=
  post ((1 <<< ((I_p0 3) &&& 31)) - 1)
set_option maxRecDepth 100000 in
set_option maxHeartbeats 4000000 in
theorem c_Pi_greatest (l : Launch) (dC : Nat → ClassId) (dI : Nat → Nat → Nat) (cI : ClassId) (a_p0 : Nat) (A_p0 : Nat → Nat) (I_p0 : Nat → Int32) {post : Int32 → Prop} (hw : wp_Pi_greatest post I_p0) : gm_i l y_Pi_greatest ws_Pi_greatest ({ frames := 0, cells := 0, slots := 0, locals := 0 } : Room) (dC, dI) vwCl [(cI, .int)] [.ref a_p0] [oPi a_p0 A_p0 I_p0] (fun (_ : Unit) => [oPi a_p0 A_p0 I_p0]) (fun (r : Int32) (_ : Unit) => post r) := by
  refine gm_iof (cc := b_Pi_greatest) (maxL := 1) (ty := .int) (by decide) rfl (Nat.le_of_ble_eq_true rfl) ?_
  intro p e s m args below meth c A Q hx hb hml hown hg hK hN hA hret
  have hown : s.vm.findClass R_Pi = some m.cls := hown
  intro ls hl hP hD hS
  have hl : lv_has ls 1 [(0, .ref a_p0)] := hl
  unfold wp_Pi_greatest at hw
  refine lv_iconst (v := 1) hx hb d_Pi_greatest_0 (by decide) ?_
  refine lv_aload_n hx hb d_Pi_greatest_1 rfl (lv_at hl 0 rfl) ?_
  refine va_get (D := (dC, dI)) (ci := 6) (v := .int (I_p0 3)) (C := R_Pi) (T := T_Pi) (N := 4) hx hb hg in_Pi hown hK hP 0 rfl rfl 3 (by decide) (hg _ t_140) (fun _ h9 => h9) rfl d_Pi_greatest_2 ?_
  refine lv_ishl hx hb d_Pi_greatest_5 ?_
  refine lv_iconst (v := 1) hx hb d_Pi_greatest_6 (by decide) ?_
  refine lv_isub hx hb d_Pi_greatest_7 ?_
  exact hret _ _ _ _ _ () d_Pi_greatest_8 rfl hP hD hS hw
theorem d_Da_pack_0 : decode b_Da_pack 0 = .ok (.aload_n 0, 1) := by decide +kernel
theorem d_Da_pack_1 : decode b_Da_pack 1 = .ok (.getfield 9, 3) := by decide +kernel
theorem d_Da_pack_4 : decode b_Da_pack 4 = .ok (.iconst 0, 1) := by decide +kernel
theorem d_Da_pack_5 : decode b_Da_pack 5 = .ok (.invokestatic 15, 3) := by decide +kernel
theorem d_Da_pack_8 : decode b_Da_pack 8 = .ok (.iconst 0, 1) := by decide +kernel
theorem d_Da_pack_9 : decode b_Da_pack 9 = .ok (.istore_n 3, 1) := by decide +kernel
theorem d_Da_pack_10 : decode b_Da_pack 10 = .ok (.iload_n 3, 1) := by decide +kernel
theorem d_Da_pack_11 : decode b_Da_pack 11 = .ok (.aload_n 2, 1) := by decide +kernel
theorem d_Da_pack_12 : decode b_Da_pack 12 = .ok (.getfield 21, 3) := by decide +kernel
theorem d_Da_pack_15 : decode b_Da_pack 15 = .ok (.if_icmp .ge 117, 3) := by decide +kernel
theorem d_Da_pack_18 : decode b_Da_pack 18 = .ok (.iconst 0, 1) := by decide +kernel
theorem d_Da_pack_19 : decode b_Da_pack 19 = .ok (.istore 4, 2) := by decide +kernel
theorem d_Da_pack_21 : decode b_Da_pack 21 = .ok (.iload 4, 2) := by decide +kernel
theorem d_Da_pack_23 : decode b_Da_pack 23 = .ok (.aload_n 2, 1) := by decide +kernel
theorem d_Da_pack_24 : decode b_Da_pack 24 = .ok (.getfield 27, 3) := by decide +kernel
theorem d_Da_pack_27 : decode b_Da_pack 27 = .ok (.if_icmp .ge 99, 3) := by decide +kernel
theorem d_Da_pack_30 : decode b_Da_pack 30 = .ok (.aload_n 1, 1) := by decide +kernel
theorem d_Da_pack_31 : decode b_Da_pack 31 = .ok (.iload 4, 2) := by decide +kernel
theorem d_Da_pack_33 : decode b_Da_pack 33 = .ok (.iload_n 3, 1) := by decide +kernel
theorem d_Da_pack_34 : decode b_Da_pack 34 = .ok (.invokevirtual 30, 3) := by decide +kernel
theorem d_Da_pack_37 : decode b_Da_pack 37 = .ok (.istore 5, 2) := by decide +kernel
theorem d_Da_pack_39 : decode b_Da_pack 39 = .ok (.aload_n 2, 1) := by decide +kernel
theorem d_Da_pack_40 : decode b_Da_pack 40 = .ok (.getfield 36, 3) := by decide +kernel
theorem d_Da_pack_43 : decode b_Da_pack 43 = .ok (.iconst 2, 1) := by decide +kernel
theorem d_Da_pack_44 : decode b_Da_pack 44 = .ok (.if_icmp .ne 27, 3) := by decide +kernel
theorem d_Da_pack_47 : decode b_Da_pack 47 = .ok (.iload 4, 2) := by decide +kernel
theorem d_Da_pack_49 : decode b_Da_pack 49 = .ok (.ifCond .le 22, 3) := by decide +kernel
theorem d_Da_pack_52 : decode b_Da_pack 52 = .ok (.iload 5, 2) := by decide +kernel
theorem d_Da_pack_54 : decode b_Da_pack 54 = .ok (.aload_n 1, 1) := by decide +kernel
theorem d_Da_pack_55 : decode b_Da_pack 55 = .ok (.iload 4, 2) := by decide +kernel
theorem d_Da_pack_57 : decode b_Da_pack 57 = .ok (.iconst 1, 1) := by decide +kernel
theorem d_Da_pack_58 : decode b_Da_pack 58 = .ok (.isub, 1) := by decide +kernel
theorem d_Da_pack_59 : decode b_Da_pack 59 = .ok (.iload_n 3, 1) := by decide +kernel
theorem d_Da_pack_60 : decode b_Da_pack 60 = .ok (.invokevirtual 30, 3) := by decide +kernel
theorem d_Da_pack_63 : decode b_Da_pack 63 = .ok (.isub, 1) := by decide +kernel
theorem d_Da_pack_64 : decode b_Da_pack 64 = .ok (.aload_n 1, 1) := by decide +kernel
theorem d_Da_pack_65 : decode b_Da_pack 65 = .ok (.invokevirtual 39, 3) := by decide +kernel
theorem d_Da_pack_68 : decode b_Da_pack 68 = .ok (.iand, 1) := by decide +kernel
theorem d_Da_pack_69 : decode b_Da_pack 69 = .ok (.istore 5, 2) := by decide +kernel
theorem d_Da_pack_71 : decode b_Da_pack 71 = .ok (.iload 4, 2) := by decide +kernel
theorem d_Da_pack_73 : decode b_Da_pack 73 = .ok (.aload_n 2, 1) := by decide +kernel
theorem d_Da_pack_74 : decode b_Da_pack 74 = .ok (.getfield 43, 3) := by decide +kernel
theorem d_Da_pack_77 : decode b_Da_pack 77 = .ok (.imul, 1) := by decide +kernel
theorem d_Da_pack_78 : decode b_Da_pack 78 = .ok (.istore 6, 2) := by decide +kernel
theorem d_Da_pack_80 : decode b_Da_pack 80 = .ok (.iload_n 3, 1) := by decide +kernel
theorem d_Da_pack_81 : decode b_Da_pack 81 = .ok (.aload_n 2, 1) := by decide +kernel
theorem d_Da_pack_82 : decode b_Da_pack 82 = .ok (.invokevirtual 46, 3) := by decide +kernel
theorem d_Da_pack_85 : decode b_Da_pack 85 = .ok (.imul, 1) := by decide +kernel
theorem d_Da_pack_86 : decode b_Da_pack 86 = .ok (.iload 6, 2) := by decide +kernel
theorem d_Da_pack_88 : decode b_Da_pack 88 = .ok (.bipush 8, 2) := by decide +kernel
theorem d_Da_pack_90 : decode b_Da_pack 90 = .ok (.idiv, 1) := by decide +kernel
theorem d_Da_pack_91 : decode b_Da_pack 91 = .ok (.iadd, 1) := by decide +kernel
theorem d_Da_pack_92 : decode b_Da_pack 92 = .ok (.istore 7, 2) := by decide +kernel
theorem d_Da_pack_94 : decode b_Da_pack 94 = .ok (.aload_n 0, 1) := by decide +kernel
theorem d_Da_pack_95 : decode b_Da_pack 95 = .ok (.getfield 9, 3) := by decide +kernel
theorem d_Da_pack_98 : decode b_Da_pack 98 = .ok (.iload 7, 2) := by decide +kernel
theorem d_Da_pack_100 : decode b_Da_pack 100 = .ok (.dup2, 1) := by decide +kernel
theorem d_Da_pack_101 : decode b_Da_pack 101 = .ok (.iaload, 1) := by decide +kernel
theorem d_Da_pack_102 : decode b_Da_pack 102 = .ok (.iload 5, 2) := by decide +kernel
theorem d_Da_pack_104 : decode b_Da_pack 104 = .ok (.bipush 8, 2) := by decide +kernel
theorem d_Da_pack_106 : decode b_Da_pack 106 = .ok (.aload_n 2, 1) := by decide +kernel
theorem d_Da_pack_107 : decode b_Da_pack 107 = .ok (.getfield 43, 3) := by decide +kernel
theorem d_Da_pack_110 : decode b_Da_pack 110 = .ok (.isub, 1) := by decide +kernel
theorem d_Da_pack_111 : decode b_Da_pack 111 = .ok (.iload 6, 2) := by decide +kernel
theorem d_Da_pack_113 : decode b_Da_pack 113 = .ok (.bipush 8, 2) := by decide +kernel
theorem d_Da_pack_115 : decode b_Da_pack 115 = .ok (.irem, 1) := by decide +kernel
theorem d_Da_pack_116 : decode b_Da_pack 116 = .ok (.isub, 1) := by decide +kernel
theorem d_Da_pack_117 : decode b_Da_pack 117 = .ok (.ishl, 1) := by decide +kernel
theorem d_Da_pack_118 : decode b_Da_pack 118 = .ok (.ior, 1) := by decide +kernel
theorem d_Da_pack_119 : decode b_Da_pack 119 = .ok (.iastore, 1) := by decide +kernel
theorem d_Da_pack_120 : decode b_Da_pack 120 = .ok (.iinc 4 1, 3) := by decide +kernel
theorem d_Da_pack_123 : decode b_Da_pack 123 = .ok (.goto (-102), 3) := by decide +kernel
theorem d_Da_pack_126 : decode b_Da_pack 126 = .ok (.iinc 3 1, 3) := by decide +kernel
theorem d_Da_pack_129 : decode b_Da_pack 129 = .ok (.goto (-119), 3) := by decide +kernel
theorem d_Da_pack_132 : decode b_Da_pack 132 = .ok (.return_, 1) := by decide +kernel
def wp_Da_pack_b71 (post : (Nat → Int32) → Prop) (k10 : (Nat → Int32) → Int32 → Prop) (k21 : (Nat → Int32) → Int32 → Int32 → Prop) (I_p1 : Nat → Int32) (f_p1_samples : Nat → Int32) (I_p2 : Nat → Int32) (f_p0_bytes : Nat → Int32) (x3 : Int32) (x4 : Int32) (x5 : Int32) : Prop :=
  wp_Ly_bytesARow (fun (r82 : Int32) =>
    vp_in ((x3 * r82) + ((x4 * (I_p2 2)) / 8)) 256 ∧
    ∀ v : Int32, v = ((f_p0_bytes ((x3 * r82) + ((x4 * (I_p2 2)) / 8)).toNatClampNeg) ||| (x5 <<< (((8 - (I_p2 2)) - ((x4 * (I_p2 2)) - (x4 * (I_p2 2)) / 8 * 8)) &&& 31))) →
    vp_in ((x3 * r82) + ((x4 * (I_p2 2)) / 8)) 256 ∧
    k21 (upd f_p0_bytes ((x3 * r82) + ((x4 * (I_p2 2)) / 8)).toNatClampNeg v) x3 (x4 + 1)) I_p2
def wp_Da_pack_l21 (post : (Nat → Int32) → Prop) (k10 : (Nat → Int32) → Int32 → Prop) (I_p1 : Nat → Int32) (f_p1_samples : Nat → Int32) (I_p2 : Nat → Int32) : Nat → (Nat → Int32) → Int32 → Int32 → Prop
  | 0, _, _, _ => False
  | n + 1, f_p0_bytes, x3, x4 =>
    (((I_p2 0) ≤ x4 →
      k10 f_p0_bytes (x3 + 1)) ∧
     (¬ (I_p2 0) ≤ x4 →
      wp_Pi_get (fun (r34 : Int32) =>
        (((I_p2 5) = 2 →
          ((x4 ≤ 0 →
            wp_Da_pack_b71 post k10 (wp_Da_pack_l21 post k10 I_p1 f_p1_samples I_p2 n) I_p1 f_p1_samples I_p2 f_p0_bytes x3 x4 r34) ∧
           (¬ x4 ≤ 0 →
            wp_Pi_get (fun (r60 : Int32) =>
              wp_Pi_greatest (fun (r65 : Int32) =>
                wp_Da_pack_b71 post k10 (wp_Da_pack_l21 post k10 I_p1 f_p1_samples I_p2 n) I_p1 f_p1_samples I_p2 f_p0_bytes x3 x4 ((r34 - r60) &&& r65)) I_p1) I_p1 f_p1_samples (x4 - 1) x3))) ∧
         (¬ (I_p2 5) = 2 →
          wp_Da_pack_b71 post k10 (wp_Da_pack_l21 post k10 I_p1 f_p1_samples I_p2 n) I_p1 f_p1_samples I_p2 f_p0_bytes x3 x4 r34))) I_p1 f_p1_samples x4 x3))
def wp_Da_pack_l10 (post : (Nat → Int32) → Prop) (I_p1 : Nat → Int32) (f_p1_samples : Nat → Int32) (I_p2 : Nat → Int32) : Nat → (Nat → Int32) → Int32 → Prop
  | 0, _, _ => False
  | n + 1, f_p0_bytes, x3 =>
    (((I_p2 1) ≤ x3 →
      post f_p0_bytes) ∧
     (¬ (I_p2 1) ≤ x3 →
      (∃ n1 : Nat, wp_Da_pack_l21 post (wp_Da_pack_l10 post I_p1 f_p1_samples I_p2 n) I_p1 f_p1_samples I_p2 n1 f_p0_bytes x3 0)))
def wp_Da_pack (post : (Nat → Int32) → Prop) (I_p1 : Nat → Int32) (f_p1_samples : Nat → Int32) (I_p2 : Nat → Int32) (f_p0_bytes : Nat → Int32) : Prop :=
  wp_J_fill (fun (f_p0_bytes_5 : Nat → Int32) =>
    (∃ n1 : Nat, wp_Da_pack_l10 post I_p1 f_p1_samples I_p2 n1 f_p0_bytes_5 0)) f_p0_bytes 0
set_option maxRecDepth 100000 in
set_option maxHeartbeats 4000000 in
theorem c_Da_pack (l : Launch) (dC : Nat → ClassId) (dI : Nat → Nat → Nat) (cI : ClassId) (a_p0 : Nat) (a_p1 : Nat) (a_p2 : Nat) (A_p0 : Nat → Nat) (A_p1 : Nat → Nat) (I_p1 : Nat → Int32) (f_p1_samples : Nat → Int32) (I_p2 : Nat → Int32) (f_p0_bytes : Nat → Int32) {post : (Nat → Int32) → Prop} (hw : wp_Da_pack post I_p1 f_p1_samples I_p2 f_p0_bytes) : gm_v l y_Da_pack ws_Da_pack ({ frames := 2, cells := 0, slots := 0, locals := 44 } : Room) (dC, dI) vwCl [(cI, .int)] [.ref a_p0, .ref a_p1, .ref a_p2] [oDa a_p0 A_p0, gz cI (A_p0 0) 256 f_p0_bytes, oPi a_p1 A_p1 I_p1, gz cI (A_p1 0) 256 f_p1_samples, oLy a_p2 I_p2] (fun (u : (Nat → Int32)) => [oDa a_p0 A_p0, gz cI (A_p0 0) 256 u, oPi a_p1 A_p1 I_p1, gz cI (A_p1 0) 256 f_p1_samples, oLy a_p2 I_p2]) (fun (u : (Nat → Int32)) => post  u) := by
  refine gm_vof (cc := b_Da_pack) (maxL := 8) (by decide) rfl (Nat.le_of_ble_eq_true rfl) ?_
  intro p e s m args below meth c A Q hx hb hml hown hg hK hN hA hnm hret
  have hown : s.vm.findClass R_Da = some m.cls := hown
  have b71 : ∀ (k10 : (Nat → Int32) → Int32 → Prop), (∀ (H : Heap) (locs : List Loc) (ls : Array Slot) (f_p0_bytes : Nat → Int32) (x3 : Int32), va_P (dC, dI) vwCl [oDa a_p0 A_p0, gz cI (A_p0 0) 256 f_p0_bytes, oPi a_p1 A_p1 I_p1, gz cI (A_p1 0) 256 f_p1_samples, oLy a_p2 I_p2] H → va_D A [oDa a_p0 A_p0, gz cI (A_p0 0) 256 f_p0_bytes, oPi a_p1 A_p1 I_p1, gz cI (A_p1 0) 256 f_p1_samples, oLy a_p2 I_p2] → va_S A s.heap H locs → lv_has ls 8 [(0, .ref a_p0), (1, .ref a_p1), (2, .ref a_p2), (3, .int x3)] → k10 f_p0_bytes x3 → W p l e ({ frames := 2, cells := 0, slots := 0, locals := 44 } : Room) s m args below meth c H locs 0 0 Q (F0 m 10 ls [])) → ∀ (k21 : (Nat → Int32) → Int32 → Int32 → Prop), (∀ (H : Heap) (locs : List Loc) (ls : Array Slot) (f_p0_bytes : Nat → Int32) (x3 : Int32) (x4 : Int32), va_P (dC, dI) vwCl [oDa a_p0 A_p0, gz cI (A_p0 0) 256 f_p0_bytes, oPi a_p1 A_p1 I_p1, gz cI (A_p1 0) 256 f_p1_samples, oLy a_p2 I_p2] H → va_D A [oDa a_p0 A_p0, gz cI (A_p0 0) 256 f_p0_bytes, oPi a_p1 A_p1 I_p1, gz cI (A_p1 0) 256 f_p1_samples, oLy a_p2 I_p2] → va_S A s.heap H locs → lv_has ls 8 [(0, .ref a_p0), (1, .ref a_p1), (2, .ref a_p2), (3, .int x3), (4, .int x4)] → k21 f_p0_bytes x3 x4 → W p l e ({ frames := 2, cells := 0, slots := 0, locals := 44 } : Room) s m args below meth c H locs 0 0 Q (F0 m 21 ls [])) → ∀ (H : Heap) (locs : List Loc) (ls : Array Slot) (f_p0_bytes : Nat → Int32) (x3 : Int32) (x4 : Int32) (x5 : Int32), va_P (dC, dI) vwCl [oDa a_p0 A_p0, gz cI (A_p0 0) 256 f_p0_bytes, oPi a_p1 A_p1 I_p1, gz cI (A_p1 0) 256 f_p1_samples, oLy a_p2 I_p2] H → va_D A [oDa a_p0 A_p0, gz cI (A_p0 0) 256 f_p0_bytes, oPi a_p1 A_p1 I_p1, gz cI (A_p1 0) 256 f_p1_samples, oLy a_p2 I_p2] → va_S A s.heap H locs → lv_has ls 8 [(0, .ref a_p0), (1, .ref a_p1), (2, .ref a_p2), (3, .int x3), (4, .int x4), (5, .int x5)] → wp_Da_pack_b71 post k10 k21 I_p1 f_p1_samples I_p2 f_p0_bytes x3 x4 x5 → W p l e ({ frames := 2, cells := 0, slots := 0, locals := 44 } : Room) s m args below meth c H locs 0 0 Q (F0 m 71 ls []) := by
    intro k10 hk10 k21 hk21 H locs ls f_p0_bytes x3 x4 x5 hP hD hS hl hw
    unfold wp_Da_pack_b71 at hw
    refine lv_iload hx hb d_Da_pack_71 (lv_at hl 4 rfl) ?_
    refine lv_aload_n hx hb d_Da_pack_73 rfl (lv_at hl 2 rfl) ?_
    refine va_get (D := (dC, dI)) (ci := 3) (v := .int (I_p2 2)) (C := R_Ly) (T := T_Ly) (N := 6) hx hb hg in_Ly hown hK hP 4 rfl rfl 2 (by decide) (hg _ t_185) (fun _ h9 => h9) rfl d_Da_pack_74 ?_
    refine lv_imul hx hb d_Da_pack_77 ?_
    refine lv_istore (lv' := [(6, .int (x4 * (I_p2 2))), (0, .ref a_p0), (1, .ref a_p1), (2, .ref a_p2), (3, .int x3), (4, .int x4), (5, .int x5)]) hx hb d_Da_pack_78 hl (by decide) rfl (fun ls hl => ?_)
    refine lv_iload_n hx hb d_Da_pack_80 rfl (lv_at hl 4 rfl) ?_
    refine lv_aload_n hx hb d_Da_pack_81 rfl (lv_at hl 3 rfl) ?_
    refine gc_i (wn := fun (_ : Unit) => [oDa a_p0 A_p0, gz cI (A_p0 0) 256 f_p0_bytes, oPi a_p1 A_p1 I_p1, gz cI (A_p1 0) 256 f_p1_samples, oLy a_p2 I_p2]) (wr := [oDa a_p0 A_p0, gz cI (A_p0 0) 256 f_p0_bytes, oPi a_p1 A_p1 I_p1, gz cI (A_p1 0) 256 f_p1_samples]) (gr_V (As := []) (rest := [.int x3]) ⟨hx, hb, hml, hown, hg⟩ (c_Ly_bytesARow l dC dI cI a_p2 I_p2 hw _) (cwV 0 hg (gg_V t_503 t_504 t_505 t_65 t_506) rfl rfl rfl (by decide +kernel) ⟨Nat.le_of_ble_eq_true rfl, Nat.le_of_ble_eq_true rfl⟩) hK hN hP hD [4] (by decide) rfl 4 3 rfl rfl rfl rfl hl.1 rfl (Nat.le_of_ble_eq_true rfl) d_Da_pack_82 ⟨Nat.le_of_ble_eq_true rfl, Nat.le_of_ble_eq_true rfl⟩) rfl rfl hP hD hS hA [4] [0, 1, 2, 3] [0, 1, 2, 3, 4] rfl rfl (by decide) (by decide) (by decide) (fun _ => rfl) ?_
    intro r82 _ H locs hw hP hD hS
    try dsimp only at hw
    have hP : va_P (dC, dI) vwCl [oDa a_p0 A_p0, gz cI (A_p0 0) 256 f_p0_bytes, oPi a_p1 A_p1 I_p1, gz cI (A_p1 0) 256 f_p1_samples, oLy a_p2 I_p2] H := hP
    have hD : va_D A [oDa a_p0 A_p0, gz cI (A_p0 0) 256 f_p0_bytes, oPi a_p1 A_p1 I_p1, gz cI (A_p1 0) 256 f_p1_samples, oLy a_p2 I_p2] := hD
    refine lv_imul hx hb d_Da_pack_85 ?_
    refine lv_iload hx hb d_Da_pack_86 (lv_at hl 0 rfl) ?_
    refine lv_bipush (v := 8) hx hb d_Da_pack_88 (by decide) ?_
    refine lv_idiv hx hb d_Da_pack_90 (by decide) ?_
    refine lv_iadd hx hb d_Da_pack_91 ?_
    refine lv_istore (lv' := [(7, .int ((x3 * r82) + ((x4 * (I_p2 2)) / 8))), (6, .int (x4 * (I_p2 2))), (0, .ref a_p0), (1, .ref a_p1), (2, .ref a_p2), (3, .int x3), (4, .int x4), (5, .int x5)]) hx hb d_Da_pack_92 hl (by decide) rfl (fun ls hl => ?_)
    refine lv_aload_n hx hb d_Da_pack_94 rfl (lv_at hl 2 rfl) ?_
    refine va_get (D := (dC, dI)) (ci := 0) (v := .ref (A_p0 0)) (C := R_Da) (T := T_Da) (N := 1) hx hb hg in_Da hown hK hP 0 rfl rfl 0 (by decide) (hg _ t_213) (fun _ h9 => h9) rfl d_Da_pack_95 ?_
    refine lv_iload hx hb d_Da_pack_98 (lv_at hl 0 rfl) ?_
    refine lv_dup2_11 hx hb d_Da_pack_100 rfl rfl ?_
    obtain ⟨hin, hw⟩ := hw
    refine va_iald hx hb hK hP 1 0 rfl rfl hin d_Da_pack_101 ?_
    refine lv_iload hx hb d_Da_pack_102 (lv_at hl 7 rfl) ?_
    refine lv_bipush (v := 8) hx hb d_Da_pack_104 (by decide) ?_
    refine lv_aload_n hx hb d_Da_pack_106 rfl (lv_at hl 4 rfl) ?_
    refine va_get (D := (dC, dI)) (ci := 3) (v := .int (I_p2 2)) (C := R_Ly) (T := T_Ly) (N := 6) hx hb hg in_Ly hown hK hP 4 rfl rfl 2 (by decide) (hg _ t_185) (fun _ h9 => h9) rfl d_Da_pack_107 ?_
    refine lv_isub hx hb d_Da_pack_110 ?_
    refine lv_iload hx hb d_Da_pack_111 (lv_at hl 1 rfl) ?_
    refine lv_bipush (v := 8) hx hb d_Da_pack_113 (by decide) ?_
    refine lv_irem hx hb d_Da_pack_115 (by decide) ?_
    refine lv_isub hx hb d_Da_pack_116 ?_
    refine lv_ishl hx hb d_Da_pack_117 ?_
    refine lv_ior hx hb d_Da_pack_118 ?_
    refine lv_topi (fun v e_v => ?_)
    have hw := hw v e_v
    obtain ⟨hin, hw⟩ := hw
    refine va_iast hx hb hK hP hD hS 1 0 rfl rfl hin d_Da_pack_119 (fun H locs hP hD hS => ?_)
    have hP : va_P (dC, dI) vwCl [oDa a_p0 A_p0, gz cI (A_p0 0) 256 (upd f_p0_bytes ((x3 * r82) + ((x4 * (I_p2 2)) / 8)).toNatClampNeg v), oPi a_p1 A_p1 I_p1, gz cI (A_p1 0) 256 f_p1_samples, oLy a_p2 I_p2] H := hP
    have hD : va_D A [oDa a_p0 A_p0, gz cI (A_p0 0) 256 (upd f_p0_bytes ((x3 * r82) + ((x4 * (I_p2 2)) / 8)).toNatClampNeg v), oPi a_p1 A_p1 I_p1, gz cI (A_p1 0) 256 f_p1_samples, oLy a_p2 I_p2] := hD
    refine lv_iinc (k := 6) (v := (x4 + 1)) (lv' := [(4, .int (x4 + 1)), (7, .int ((x3 * r82) + ((x4 * (I_p2 2)) / 8))), (6, .int (x4 * (I_p2 2))), (0, .ref a_p0), (1, .ref a_p1), (2, .ref a_p2), (3, .int x3), (5, .int x5)]) hx hb d_Da_pack_120 hl rfl (congrArg (fun z => x4 + z) (by decide : Int32.ofInt 1 = 1)) (by decide) rfl (fun ls hl => ?_)
    refine lv_goto hx hb d_Da_pack_123 rfl ?_
    exact hk21 _ _ _ (upd f_p0_bytes ((x3 * r82) + ((x4 * (I_p2 2)) / 8)).toNatClampNeg v) x3 (x4 + 1) hP hD hS (lv_sub hl [3, 4, 5, 6, 0] rfl) hw
  have l21 : ∀ (k10 : (Nat → Int32) → Int32 → Prop), (∀ (H : Heap) (locs : List Loc) (ls : Array Slot) (f_p0_bytes : Nat → Int32) (x3 : Int32), va_P (dC, dI) vwCl [oDa a_p0 A_p0, gz cI (A_p0 0) 256 f_p0_bytes, oPi a_p1 A_p1 I_p1, gz cI (A_p1 0) 256 f_p1_samples, oLy a_p2 I_p2] H → va_D A [oDa a_p0 A_p0, gz cI (A_p0 0) 256 f_p0_bytes, oPi a_p1 A_p1 I_p1, gz cI (A_p1 0) 256 f_p1_samples, oLy a_p2 I_p2] → va_S A s.heap H locs → lv_has ls 8 [(0, .ref a_p0), (1, .ref a_p1), (2, .ref a_p2), (3, .int x3)] → k10 f_p0_bytes x3 → W p l e ({ frames := 2, cells := 0, slots := 0, locals := 44 } : Room) s m args below meth c H locs 0 0 Q (F0 m 10 ls [])) → ∀ n : Nat, ∀ (H : Heap) (locs : List Loc) (ls : Array Slot) (f_p0_bytes : Nat → Int32) (x3 : Int32) (x4 : Int32), va_P (dC, dI) vwCl [oDa a_p0 A_p0, gz cI (A_p0 0) 256 f_p0_bytes, oPi a_p1 A_p1 I_p1, gz cI (A_p1 0) 256 f_p1_samples, oLy a_p2 I_p2] H → va_D A [oDa a_p0 A_p0, gz cI (A_p0 0) 256 f_p0_bytes, oPi a_p1 A_p1 I_p1, gz cI (A_p1 0) 256 f_p1_samples, oLy a_p2 I_p2] → va_S A s.heap H locs → lv_has ls 8 [(0, .ref a_p0), (1, .ref a_p1), (2, .ref a_p2), (3, .int x3), (4, .int x4)] → wp_Da_pack_l21 post k10 I_p1 f_p1_samples I_p2 n f_p0_bytes x3 x4 → W p l e ({ frames := 2, cells := 0, slots := 0, locals := 44 } : Room) s m args below meth c H locs 0 0 Q (F0 m 21 ls []) := by
    intro k10 hk10 n
    induction n with
    | zero => intro H locs ls f_p0_bytes x3 x4 hP hD hS hl hw; exact hw.elim
    | succ n ih =>
      intro H locs ls f_p0_bytes x3 x4 hP hD hS hl hw
      unfold wp_Da_pack_l21 at hw
      refine lv_iload hx hb d_Da_pack_21 (lv_at hl 4 rfl) ?_
      refine lv_aload_n hx hb d_Da_pack_23 rfl (lv_at hl 2 rfl) ?_
      refine va_get (D := (dC, dI)) (ci := 3) (v := .int (I_p2 0)) (C := R_Ly) (T := T_Ly) (N := 6) hx hb hg in_Ly hown hK hP 4 rfl rfl 0 (by decide) (hg _ t_179) (fun _ h9 => h9) rfl d_Da_pack_24 ?_
      refine lv_icmp_ge hx hb d_Da_pack_27 rfl (fun hc => ?_) (fun hc => ?_)
      · have hw := hw.1 hc
        refine lv_iinc (k := 3) (v := (x3 + 1)) (lv' := [(3, .int (x3 + 1)), (0, .ref a_p0), (1, .ref a_p1), (2, .ref a_p2), (4, .int x4)]) hx hb d_Da_pack_126 hl rfl (congrArg (fun z => x3 + z) (by decide : Int32.ofInt 1 = 1)) (by decide) rfl (fun ls hl => ?_)
        refine lv_goto hx hb d_Da_pack_129 rfl ?_
        exact hk10 _ _ _ f_p0_bytes (x3 + 1) hP hD hS (lv_sub hl [1, 2, 3, 0] rfl) hw
      · have hw := hw.2 hc
        refine lv_aload_n hx hb d_Da_pack_30 rfl (lv_at hl 1 rfl) ?_
        refine lv_iload hx hb d_Da_pack_31 (lv_at hl 4 rfl) ?_
        refine lv_iload_n hx hb d_Da_pack_33 rfl (lv_at hl 3 rfl) ?_
        refine gc_i (wn := fun (_ : Unit) => [oDa a_p0 A_p0, gz cI (A_p0 0) 256 f_p0_bytes, oPi a_p1 A_p1 I_p1, gz cI (A_p1 0) 256 f_p1_samples, oLy a_p2 I_p2]) (wr := [oDa a_p0 A_p0, gz cI (A_p0 0) 256 f_p0_bytes, oLy a_p2 I_p2]) (gr_V (As := [.int x4, .int x3]) (rest := []) ⟨hx, hb, hml, hown, hg⟩ (c_Pi_get l dC dI cI a_p1 A_p1 I_p1 f_p1_samples x4 x3 hw _) (cwV 2 hg (gg_V t_501 t_412 t_413 t_63 t_414) rfl rfl rfl (by decide +kernel) ⟨Nat.le_of_ble_eq_true rfl, Nat.le_of_ble_eq_true rfl⟩) hK hN hP hD [2, 3] (by decide) rfl 2 6 rfl rfl rfl rfl hl.1 rfl (Nat.le_of_ble_eq_true rfl) d_Da_pack_34 ⟨Nat.le_of_ble_eq_true rfl, Nat.le_of_ble_eq_true rfl⟩) rfl rfl hP hD hS hA [2, 3] [0, 1, 4] [0, 1, 3, 4, 2] rfl rfl (by decide) (by decide) (by decide) (fun _ => rfl) ?_
        intro r34 _ H locs hw hP hD hS
        try dsimp only at hw
        have hP : va_P (dC, dI) vwCl [oDa a_p0 A_p0, gz cI (A_p0 0) 256 f_p0_bytes, oPi a_p1 A_p1 I_p1, gz cI (A_p1 0) 256 f_p1_samples, oLy a_p2 I_p2] H := hP
        have hD : va_D A [oDa a_p0 A_p0, gz cI (A_p0 0) 256 f_p0_bytes, oPi a_p1 A_p1 I_p1, gz cI (A_p1 0) 256 f_p1_samples, oLy a_p2 I_p2] := hD
        refine lv_istore (lv' := [(5, .int r34), (0, .ref a_p0), (1, .ref a_p1), (2, .ref a_p2), (3, .int x3), (4, .int x4)]) hx hb d_Da_pack_37 hl (by decide) rfl (fun ls hl => ?_)
        refine lv_aload_n hx hb d_Da_pack_39 rfl (lv_at hl 3 rfl) ?_
        refine va_get (D := (dC, dI)) (ci := 3) (v := .int (I_p2 5)) (C := R_Ly) (T := T_Ly) (N := 6) hx hb hg in_Ly hown hK hP 4 rfl rfl 5 (by decide) (hg _ t_192) (fun _ h9 => h9) rfl d_Da_pack_40 ?_
        refine lv_iconst (v := 2) hx hb d_Da_pack_43 (by decide) ?_
        refine lv_icmp_ne hx hb d_Da_pack_44 rfl (fun hc => ?_) (fun hc => ?_)
        · have hw := hw.2 hc
          exact b71 _ hk10 _ ih _ _ _ f_p0_bytes x3 x4 r34 hP hD hS (lv_sub hl [1, 2, 3, 4, 5, 0] rfl) hw
        · have hw := hw.1 hc
          refine lv_iload hx hb d_Da_pack_47 (lv_at hl 5 rfl) ?_
          refine lv_if_le hx hb d_Da_pack_49 rfl (fun hc => ?_) (fun hc => ?_)
          · have hw := hw.1 hc
            exact b71 _ hk10 _ ih _ _ _ f_p0_bytes x3 x4 r34 hP hD hS (lv_sub hl [1, 2, 3, 4, 5, 0] rfl) hw
          · have hw := hw.2 hc
            refine lv_iload hx hb d_Da_pack_52 (lv_at hl 0 rfl) ?_
            refine lv_aload_n hx hb d_Da_pack_54 rfl (lv_at hl 2 rfl) ?_
            refine lv_iload hx hb d_Da_pack_55 (lv_at hl 5 rfl) ?_
            refine lv_iconst (v := 1) hx hb d_Da_pack_57 (by decide) ?_
            refine lv_isub hx hb d_Da_pack_58 ?_
            refine lv_iload_n hx hb d_Da_pack_59 rfl (lv_at hl 4 rfl) ?_
            refine gc_i (wn := fun (_ : Unit) => [oDa a_p0 A_p0, gz cI (A_p0 0) 256 f_p0_bytes, oPi a_p1 A_p1 I_p1, gz cI (A_p1 0) 256 f_p1_samples, oLy a_p2 I_p2]) (wr := [oDa a_p0 A_p0, gz cI (A_p0 0) 256 f_p0_bytes, oLy a_p2 I_p2]) (gr_V (As := [.int (x4 - 1), .int x3]) (rest := [.int r34]) ⟨hx, hb, hml, hown, hg⟩ (c_Pi_get l dC dI cI a_p1 A_p1 I_p1 f_p1_samples (x4 - 1) x3 hw _) (cwV 2 hg (gg_V t_501 t_412 t_413 t_63 t_414) rfl rfl rfl (by decide +kernel) ⟨Nat.le_of_ble_eq_true rfl, Nat.le_of_ble_eq_true rfl⟩) hK hN hP hD [2, 3] (by decide) rfl 2 6 rfl rfl rfl rfl hl.1 rfl (Nat.le_of_ble_eq_true rfl) d_Da_pack_60 ⟨Nat.le_of_ble_eq_true rfl, Nat.le_of_ble_eq_true rfl⟩) rfl rfl hP hD hS hA [2, 3] [0, 1, 4] [0, 1, 3, 4, 2] rfl rfl (by decide) (by decide) (by decide) (fun _ => rfl) ?_
            intro r60 _ H locs hw hP hD hS
            try dsimp only at hw
            have hP : va_P (dC, dI) vwCl [oDa a_p0 A_p0, gz cI (A_p0 0) 256 f_p0_bytes, oPi a_p1 A_p1 I_p1, gz cI (A_p1 0) 256 f_p1_samples, oLy a_p2 I_p2] H := hP
            have hD : va_D A [oDa a_p0 A_p0, gz cI (A_p0 0) 256 f_p0_bytes, oPi a_p1 A_p1 I_p1, gz cI (A_p1 0) 256 f_p1_samples, oLy a_p2 I_p2] := hD
            refine lv_isub hx hb d_Da_pack_63 ?_
            refine lv_aload_n hx hb d_Da_pack_64 rfl (lv_at hl 2 rfl) ?_
            refine gc_i (wn := fun (_ : Unit) => [oDa a_p0 A_p0, gz cI (A_p0 0) 256 f_p0_bytes, oPi a_p1 A_p1 I_p1, gz cI (A_p1 0) 256 f_p1_samples, oLy a_p2 I_p2]) (wr := [oDa a_p0 A_p0, gz cI (A_p0 0) 256 f_p0_bytes, gz cI (A_p1 0) 256 f_p1_samples, oLy a_p2 I_p2]) (gr_V (As := []) (rest := [.int (r34 - r60)]) ⟨hx, hb, hml, hown, hg⟩ (c_Pi_greatest l dC dI cI a_p1 A_p1 I_p1 hw _) (cwV 0 hg (gg_V t_502 t_398 t_399 t_63 t_400) rfl rfl rfl (by decide +kernel) ⟨Nat.le_of_ble_eq_true rfl, Nat.le_of_ble_eq_true rfl⟩) hK hN hP hD [2] (by decide) rfl 2 6 rfl rfl rfl rfl hl.1 rfl (Nat.le_of_ble_eq_true rfl) d_Da_pack_65 ⟨Nat.le_of_ble_eq_true rfl, Nat.le_of_ble_eq_true rfl⟩) rfl rfl hP hD hS hA [2] [0, 1, 3, 4] [0, 1, 4, 2, 3] rfl rfl (by decide) (by decide) (by decide) (fun _ => rfl) ?_
            intro r65 _ H locs hw hP hD hS
            try dsimp only at hw
            have hP : va_P (dC, dI) vwCl [oDa a_p0 A_p0, gz cI (A_p0 0) 256 f_p0_bytes, oPi a_p1 A_p1 I_p1, gz cI (A_p1 0) 256 f_p1_samples, oLy a_p2 I_p2] H := hP
            have hD : va_D A [oDa a_p0 A_p0, gz cI (A_p0 0) 256 f_p0_bytes, oPi a_p1 A_p1 I_p1, gz cI (A_p1 0) 256 f_p1_samples, oLy a_p2 I_p2] := hD
            refine lv_iand hx hb d_Da_pack_68 ?_
            refine lv_istore (lv' := [(5, .int ((r34 - r60) &&& r65)), (0, .ref a_p0), (1, .ref a_p1), (2, .ref a_p2), (3, .int x3), (4, .int x4)]) hx hb d_Da_pack_69 hl (by decide) rfl (fun ls hl => ?_)
            exact b71 _ hk10 _ ih _ _ _ f_p0_bytes x3 x4 ((r34 - r60) &&& r65) hP hD hS (lv_sub hl [1, 2, 3, 4, 5, 0] rfl) hw
  have l10 : ∀ n : Nat, ∀ (H : Heap) (locs : List Loc) (ls : Array Slot) (f_p0_bytes : Nat → Int32) (x3 : Int32), va_P (dC, dI) vwCl [oDa a_p0 A_p0, gz cI (A_p0 0) 256 f_p0_bytes, oPi a_p1 A_p1 I_p1, gz cI (A_p1 0) 256 f_p1_samples, oLy a_p2 I_p2] H → va_D A [oDa a_p0 A_p0, gz cI (A_p0 0) 256 f_p0_bytes, oPi a_p1 A_p1 I_p1, gz cI (A_p1 0) 256 f_p1_samples, oLy a_p2 I_p2] → va_S A s.heap H locs → lv_has ls 8 [(0, .ref a_p0), (1, .ref a_p1), (2, .ref a_p2), (3, .int x3)] → wp_Da_pack_l10 post I_p1 f_p1_samples I_p2 n f_p0_bytes x3 → W p l e ({ frames := 2, cells := 0, slots := 0, locals := 44 } : Room) s m args below meth c H locs 0 0 Q (F0 m 10 ls []) := by
    intro n
    induction n with
    | zero => intro H locs ls f_p0_bytes x3 hP hD hS hl hw; exact hw.elim
    | succ n ih =>
      intro H locs ls f_p0_bytes x3 hP hD hS hl hw
      unfold wp_Da_pack_l10 at hw
      refine lv_iload_n hx hb d_Da_pack_10 rfl (lv_at hl 3 rfl) ?_
      refine lv_aload_n hx hb d_Da_pack_11 rfl (lv_at hl 2 rfl) ?_
      refine va_get (D := (dC, dI)) (ci := 3) (v := .int (I_p2 1)) (C := R_Ly) (T := T_Ly) (N := 6) hx hb hg in_Ly hown hK hP 4 rfl rfl 1 (by decide) (hg _ t_182) (fun _ h9 => h9) rfl d_Da_pack_12 ?_
      refine lv_icmp_ge hx hb d_Da_pack_15 rfl (fun hc => ?_) (fun hc => ?_)
      · have hw := hw.1 hc
        exact hret _ _ _ _ f_p0_bytes d_Da_pack_132 hP hD hS hw
      · have hw := hw.2 hc
        refine lv_iconst (v := 0) hx hb d_Da_pack_18 (by decide) ?_
        refine lv_istore (lv' := [(4, .int 0), (0, .ref a_p0), (1, .ref a_p1), (2, .ref a_p2), (3, .int x3)]) hx hb d_Da_pack_19 hl (by decide) rfl (fun ls hl => ?_)
        obtain ⟨n1, hw⟩ := hw
        exact l21 _ ih n1 _ _ _ f_p0_bytes x3 0 hP hD hS (lv_sub hl [1, 2, 3, 4, 0] rfl) hw
  intro ls hl hP hD hS
  have hl : lv_has ls 8 [(0, .ref a_p0), (1, .ref a_p1), (2, .ref a_p2)] := hl
  unfold wp_Da_pack at hw
  refine lv_aload_n hx hb d_Da_pack_0 rfl (lv_at hl 0 rfl) ?_
  refine va_get (D := (dC, dI)) (ci := 0) (v := .ref (A_p0 0)) (C := R_Da) (T := T_Da) (N := 1) hx hb hg in_Da hown hK hP 0 rfl rfl 0 (by decide) (hg _ t_213) (fun _ h9 => h9) rfl d_Da_pack_1 ?_
  refine lv_iconst (v := 0) hx hb d_Da_pack_4 (by decide) ?_
  refine gc_v (wn := fun u => [oDa a_p0 A_p0, gz cI (A_p0 0) 256 u, oPi a_p1 A_p1 I_p1, gz cI (A_p1 0) 256 f_p1_samples, oLy a_p2 I_p2]) (wr := [oDa a_p0 A_p0, oPi a_p1 A_p1 I_p1, gz cI (A_p1 0) 256 f_p1_samples, oLy a_p2 I_p2]) (gr_S (As := [.ref (A_p0 0), .int 0]) (rest := []) ⟨hx, hb, hml, hown, hg⟩ (c_J_fill l dC dI cI (A_p0 0) f_p0_bytes 0 hw _) (va_cwS 2 hg (gg_S t_500 t_305 t_70 t_306) rfl rfl rfl (by decide +kernel) ⟨Nat.le_of_ble_eq_true rfl, Nat.le_of_ble_eq_true rfl⟩) hK hN hP hD [1] (by decide) rfl rfl hl.1 rfl (Nat.le_of_ble_eq_true rfl) d_Da_pack_5 ⟨Nat.le_of_ble_eq_true rfl, Nat.le_of_ble_eq_true rfl⟩) rfl rfl hP hD hS hA [1] [0, 2, 3, 4] [0, 4, 1, 2, 3] rfl rfl (by decide) (by decide) (by decide) (fun _ => rfl) ?_
  intro f_p0_bytes_5 H locs hw hP hD hS
  try dsimp only at hw
  have hP : va_P (dC, dI) vwCl [oDa a_p0 A_p0, gz cI (A_p0 0) 256 f_p0_bytes_5, oPi a_p1 A_p1 I_p1, gz cI (A_p1 0) 256 f_p1_samples, oLy a_p2 I_p2] H := hP
  have hD : va_D A [oDa a_p0 A_p0, gz cI (A_p0 0) 256 f_p0_bytes_5, oPi a_p1 A_p1 I_p1, gz cI (A_p1 0) 256 f_p1_samples, oLy a_p2 I_p2] := hD
  refine lv_iconst (v := 0) hx hb d_Da_pack_8 (by decide) ?_
  refine lv_istore_n (lv' := [(3, .int 0), (0, .ref a_p0), (1, .ref a_p1), (2, .ref a_p2)]) hx hb d_Da_pack_9 rfl hl (by decide) rfl (fun ls hl => ?_)
  obtain ⟨n1, hw⟩ := hw
  exact l10 n1 _ _ _ f_p0_bytes_5 0 hP hD hS (lv_sub hl [1, 2, 3, 0] rfl) hw
theorem d_Ly_firstRow_0 : decode b_Ly_firstRow 0 = .ok (.aload_n 0, 1) := by decide +kernel
theorem d_Ly_firstRow_1 : decode b_Ly_firstRow 1 = .ok (.getfield 15, 3) := by decide +kernel
theorem d_Ly_firstRow_4 : decode b_Ly_firstRow 4 = .ok (.iload_n 1, 1) := by decide +kernel
theorem d_Ly_firstRow_5 : decode b_Ly_firstRow 5 = .ok (.aload_n 0, 1) := by decide +kernel
theorem d_Ly_firstRow_6 : decode b_Ly_firstRow 6 = .ok (.getfield 24, 3) := by decide +kernel
theorem d_Ly_firstRow_9 : decode b_Ly_firstRow 9 = .ok (.imul, 1) := by decide +kernel
theorem d_Ly_firstRow_10 : decode b_Ly_firstRow 10 = .ok (.invokestatic 36, 3) := by decide +kernel
theorem d_Ly_firstRow_13 : decode b_Ly_firstRow 13 = .ok (.ireturn, 1) := by decide +kernel
def wp_Ly_firstRow (post : Int32 → Prop) (I_p0 : Nat → Int32) (x1 : Int32) : Prop :=
  post (if (x1 * (I_p0 4)) < (I_p0 1) then (x1 * (I_p0 4)) else (I_p0 1))
set_option maxRecDepth 100000 in
set_option maxHeartbeats 4000000 in
theorem c_Ly_firstRow (l : Launch) (dC : Nat → ClassId) (dI : Nat → Nat → Nat) (cI : ClassId) (a_p0 : Nat) (I_p0 : Nat → Int32) (x1 : Int32) {post : Int32 → Prop} (hw : wp_Ly_firstRow post I_p0 x1) : gm_i l y_Ly_firstRow ws_Ly_firstRow ({ frames := 1, cells := 0, slots := 0, locals := 21 } : Room) (dC, dI) vwCl [(cI, .int)] [.ref a_p0, .int x1] [oLy a_p0 I_p0] (fun (_ : Unit) => [oLy a_p0 I_p0]) (fun (r : Int32) (_ : Unit) => post r) := by
  refine gm_iof (cc := b_Ly_firstRow) (maxL := 2) (ty := .int) (by decide) rfl (Nat.le_of_ble_eq_true rfl) ?_
  intro p e s m args below meth c A Q hx hb hml hown hg hK hN hA hret
  have hown : s.vm.findClass R_Ly = some m.cls := hown
  intro ls hl hP hD hS
  have hl : lv_has ls 2 [(0, .ref a_p0), (1, .int x1)] := hl
  unfold wp_Ly_firstRow at hw
  refine lv_aload_n hx hb d_Ly_firstRow_0 rfl (lv_at hl 0 rfl) ?_
  refine va_get (D := (dC, dI)) (ci := 3) (v := .int (I_p0 1)) (C := R_Ly) (T := T_Ly) (N := 6) hx hb hg in_Ly hown hK hP 0 rfl rfl 1 (by decide) (hg _ t_181) (fun _ h9 => h9) rfl d_Ly_firstRow_1 ?_
  refine lv_iload_n hx hb d_Ly_firstRow_4 rfl (lv_at hl 1 rfl) ?_
  refine lv_aload_n hx hb d_Ly_firstRow_5 rfl (lv_at hl 0 rfl) ?_
  refine va_get (D := (dC, dI)) (ci := 3) (v := .int (I_p0 4)) (C := R_Ly) (T := T_Ly) (N := 6) hx hb hg in_Ly hown hK hP 0 rfl rfl 4 (by decide) (hg _ t_189) (fun _ h9 => h9) rfl d_Ly_firstRow_6 ?_
  refine lv_imul hx hb d_Ly_firstRow_9 ?_
  refine va_mmin hx hb (hml.trans hl.1.symm) hown (hg _ t_523) (hg _ t_524) (hg _ t_72) (hg _ t_525) (Nat.le_of_ble_eq_true rfl) (Nat.le_of_ble_eq_true rfl) (Nat.le_of_ble_eq_true rfl) (Nat.le_of_ble_eq_true rfl) d_Ly_firstRow_10 ?_
  exact hret _ _ _ _ _ () d_Ly_firstRow_13 rfl hP hD hS hw
theorem d_Ly_firstByte_0 : decode b_Ly_firstByte 0 = .ok (.aload_n 0, 1) := by decide +kernel
theorem d_Ly_firstByte_1 : decode b_Ly_firstByte 1 = .ok (.iload_n 1, 1) := by decide +kernel
theorem d_Ly_firstByte_2 : decode b_Ly_firstByte 2 = .ok (.invokevirtual 39, 3) := by decide +kernel
theorem d_Ly_firstByte_5 : decode b_Ly_firstByte 5 = .ok (.aload_n 0, 1) := by decide +kernel
theorem d_Ly_firstByte_6 : decode b_Ly_firstByte 6 = .ok (.invokevirtual 43, 3) := by decide +kernel
theorem d_Ly_firstByte_9 : decode b_Ly_firstByte 9 = .ok (.imul, 1) := by decide +kernel
theorem d_Ly_firstByte_10 : decode b_Ly_firstByte 10 = .ok (.ireturn, 1) := by decide +kernel
def wp_Ly_firstByte (post : Int32 → Prop) (I_p0 : Nat → Int32) (x1 : Int32) : Prop :=
  wp_Ly_firstRow (fun (r2 : Int32) =>
    wp_Ly_bytesARow (fun (r6 : Int32) =>
      post (r2 * r6)) I_p0) I_p0 x1
set_option maxRecDepth 100000 in
set_option maxHeartbeats 4000000 in
theorem c_Ly_firstByte (l : Launch) (dC : Nat → ClassId) (dI : Nat → Nat → Nat) (cI : ClassId) (a_p0 : Nat) (I_p0 : Nat → Int32) (x1 : Int32) {post : Int32 → Prop} (hw : wp_Ly_firstByte post I_p0 x1) : gm_i l y_Ly_firstByte ws_Ly_firstByte ({ frames := 2, cells := 0, slots := 0, locals := 42 } : Room) (dC, dI) vwCl [(cI, .int)] [.ref a_p0, .int x1] [oLy a_p0 I_p0] (fun (_ : Unit) => [oLy a_p0 I_p0]) (fun (r : Int32) (_ : Unit) => post r) := by
  refine gm_iof (cc := b_Ly_firstByte) (maxL := 2) (ty := .int) (by decide) rfl (Nat.le_of_ble_eq_true rfl) ?_
  intro p e s m args below meth c A Q hx hb hml hown hg hK hN hA hret
  have hown : s.vm.findClass R_Ly = some m.cls := hown
  intro ls hl hP hD hS
  have hl : lv_has ls 2 [(0, .ref a_p0), (1, .int x1)] := hl
  unfold wp_Ly_firstByte at hw
  refine lv_aload_n hx hb d_Ly_firstByte_0 rfl (lv_at hl 0 rfl) ?_
  refine lv_iload_n hx hb d_Ly_firstByte_1 rfl (lv_at hl 1 rfl) ?_
  refine gc_i (wn := fun (_ : Unit) => [oLy a_p0 I_p0]) (wr := []) (gr_V (As := [.int x1]) (rest := []) ⟨hx, hb, hml, hown, hg⟩ (c_Ly_firstRow l dC dI cI a_p0 I_p0 x1 hw _) (cwV 1 hg (gg_V t_519 t_520 t_521 t_65 t_522) rfl rfl rfl (by decide +kernel) ⟨Nat.le_of_ble_eq_true rfl, Nat.le_of_ble_eq_true rfl⟩) hK hN hP hD [0] (by decide) rfl 0 3 rfl rfl rfl rfl hl.1 rfl (Nat.le_of_ble_eq_true rfl) d_Ly_firstByte_2 ⟨Nat.le_of_ble_eq_true rfl, Nat.le_of_ble_eq_true rfl⟩) rfl rfl hP hD hS hA [0] [] [0] rfl rfl (by decide) (by decide) (by decide) (fun _ => rfl) ?_
  intro r2 _ H locs hw hP hD hS
  try dsimp only at hw
  have hP : va_P (dC, dI) vwCl [oLy a_p0 I_p0] H := hP
  have hD : va_D A [oLy a_p0 I_p0] := hD
  refine lv_aload_n hx hb d_Ly_firstByte_5 rfl (lv_at hl 0 rfl) ?_
  refine gc_i (wn := fun (_ : Unit) => [oLy a_p0 I_p0]) (wr := []) (gr_V (As := []) (rest := [.int r2]) ⟨hx, hb, hml, hown, hg⟩ (c_Ly_bytesARow l dC dI cI a_p0 I_p0 hw _) (cwV 0 hg (gg_V t_526 t_504 t_505 t_65 t_506) rfl rfl rfl (by decide +kernel) ⟨Nat.le_of_ble_eq_true rfl, Nat.le_of_ble_eq_true rfl⟩) hK hN hP hD [0] (by decide) rfl 0 3 rfl rfl rfl rfl hl.1 rfl (Nat.le_of_ble_eq_true rfl) d_Ly_firstByte_6 ⟨Nat.le_of_ble_eq_true rfl, Nat.le_of_ble_eq_true rfl⟩) rfl rfl hP hD hS hA [0] [] [0] rfl rfl (by decide) (by decide) (by decide) (fun _ => rfl) ?_
  intro r6 _ H locs hw hP hD hS
  try dsimp only at hw
  have hP : va_P (dC, dI) vwCl [oLy a_p0 I_p0] H := hP
  have hD : va_D A [oLy a_p0 I_p0] := hD
  refine lv_imul hx hb d_Ly_firstByte_9 ?_
  exact hret _ _ _ _ _ () d_Ly_firstByte_10 rfl hP hD hS hw
