theorem wp_pure_open (hload : HLoad) (hwrite : HWrite) : ∀ (L : Nat) (xs : Nat → Int32), L ≤ 3072 → wp_L_law L xs := by
  intro L xs hL
  unfold wp_L_law wp_X_init wp_St_init wp_Wk_init wp_Pi_init wp_Lb_init wp_Ly_init wp_Da_init wp_Ne_init wp_Nd_init wp_En_init
  refine p_St_restart (fun I' f' q1 q2 => ?_)
  unfold wp_Pi_become
  refine p_J_fill (fun fp hq => ?_)
  unfold wp_M_init
  refine p_M_clear (fun g' q3 => ⟨L + 1, ?_⟩)
  refine law_loop hload hwrite hL (L + 1) 0 _ _ _ _ _ _ _ _ _ _ _ _ _ _ _ _ _ _ _ _ _ _ _ _ _ _ _ _ _ _ _ _ _ _ _ _ _ _ _ _ _ _ (by omega) (by omega) (by omega) ⟨⟨8, _, RF.clear q1 rfl q2 q3⟩, ⟨1, 1, 1, fun _ _ => 0, ⟨rfl, rfl, rfl, rfl, rfl, rfl⟩, ⟨by omega, by omega, by omega, by omega, by omega⟩, fun y x hy hx => ⟨Nat.two_pow_pos 1, hq _ (by omega), rfl⟩⟩, ⟨0, fun _ => 0, fun _ => 0, fun _ _ => 0, ⟨rfl, rfl, by omega⟩, fun k hk => absurd hk (by omega), fun q => absurd q (by omega)⟩⟩
