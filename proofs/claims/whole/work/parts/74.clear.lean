/-! clear: the header -/
def hdr (be : Bool) (j : Nat) : Nat := if be = true then [77, 77, 0, 42, 0, 0, 0, 0].getD j 0 else [73, 73, 42, 0, 0, 0, 0, 0].getD j 0
theorem hdr_lt (be : Bool) {j : Nat} (h : j < 8) : hdr be j < 256 := by
  have h8 : j = 0 ∨ j = 1 ∨ j = 2 ∨ j = 3 ∨ j = 4 ∨ j = 5 ∨ j = 6 ∨ j = 7 := by omega
  cases be <;> rcases h8 with rfl | rfl | rfl | rfl | rfl | rfl | rfl | rfl <;> decide
theorem p_St_restart11 {post : (Nat → Int32) → (Nat → Int32) → Prop} {I f : Nat → Int32} {be : Bool} {m : Nat} (hm : m = if be = true then 77 else 73) (h : ∀ I' f' : Nat → Int32, I' 1 = nI 8 → (∀ j, j < 8 → f' j = nI (hdr be j)) → post I' f') : wp_St_restart_b11 post I f (nI m) := by
  unfold wp_St_restart_b11
  refine p_St_ap (e := 0) (by rw [upd_at, if_pos rfl]; rfl) (by decide) ?_
  refine p_St_ap (e := 1) (by rw [upd_at, if_pos rfl]) (by decide) ?_
  have e1 : apL (apL f 0 [m]) (0 + 1) [m] = apL f 0 [m, m] := apL_app f 0 [m] [m]
  rw [e1]
  have h0 : ∀ l : List Nat, apL f 0 ([m, m] ++ l) 0 = nI m := fun l => by
    unfold apL
    rw [if_pos (by simp only [List.length_append, List.length_cons]; omega)]
    rfl
  have h77 : (nI m = nI 77) ↔ be = true := by
    cases be with
    | true => rw [hm]; simp
    | false => rw [hm]; simp only [Bool.false_eq_true, if_false, iff_false]; decide
  rw [show (42 : Int32) = nI 42 from rfl]
  refine p_St_short (e := 2) (be := be) (by rw [upd_at, if_pos rfl]) (by decide) (by decide) (by decide) (by rw [show ([m, m] : List Nat) = [m, m] ++ [] from rfl, h0]; exact h77) ?_
  have e2 : apL (apL f 0 [m, m]) 2 (bN be 2 42) = apL f 0 ([m, m] ++ bN be 2 42) := apL_app f 0 [m, m] (bN be 2 42)
  rw [e2, show (0 : Int32) = nI 0 from rfl]
  refine p_St_long (e := 4) (be := be) (by rw [upd_at, if_pos rfl]) (by decide) (by decide) (by decide) (by rw [h0]; exact h77) ?_
  have e3 : apL (apL f 0 ([m, m] ++ bN be 2 42)) 4 (bN be 4 0) = apL f 0 (([m, m] ++ bN be 2 42) ++ bN be 4 0) := by
    have := apL_app f 0 ([m, m] ++ bN be 2 42) (bN be 4 0)
    rw [List.length_append, bN_len] at this
    exact this
  rw [e3]
  refine h _ _ rfl (fun j hj => ?_)
  unfold apL
  rw [if_pos (by simp only [List.length_append, bN_len, List.length_cons]; omega), Nat.sub_zero]
  have h8 : j = 0 ∨ j = 1 ∨ j = 2 ∨ j = 3 ∨ j = 4 ∨ j = 5 ∨ j = 6 ∨ j = 7 := by omega
  cases be <;> subst hm <;> rcases h8 with rfl | rfl | rfl | rfl | rfl | rfl | rfl | rfl <;> rfl
theorem p_St_restart {post : (Nat → Int32) → (Nat → Int32) → Prop} {I f : Nat → Int32} {x : Int32} (h : ∀ I' f' : Nat → Int32, I' 1 = nI 8 → (∀ j, j < 8 → f' j = nI (hdr (!decide (x = 0)) j)) → post I' f') : wp_St_restart post I f x := by
  unfold wp_St_restart
  refine br_c (fun hc => ?_) (fun hc => ?_)
  · exact p_St_restart11 (be := !decide (x = 0)) (m := 73) (by simp [hc]) h
  · exact p_St_restart11 (be := !decide (x = 0)) (m := 77) (by simp [hc]) h
theorem p_M_clear {post : (Nat → Int32) → (Nat → Int32) → Prop} {J g : Nat → Int32} {x : Int32} (h : ∀ g' : Nat → Int32, (∀ j, j < 8 → g' j = nI (hdr (!decide (x = 0)) j)) → post (upd J 1 8) g') : wp_M_clear post J g x := by
  unfold wp_M_clear
  have key : ∀ (m k : Nat) (f : Nat → Int32), k + m = 8 → (∀ j, j < k → f j = if j < 2 then (if x = 0 then nI 73 else nI 77) else 0) → wp_M_clear_l2 post (m + 1) J f x (nI k) := by
    intro m
    induction m with
    | zero =>
      intro k f hk hf
      have hk8 : k = 8 := by omega
      subst hk8
      unfold wp_M_clear_l2 wp_M_clear_b53
      refine br_t (by decide) (br_c (fun hc => ⟨vp_in_nI (n := 2) (by decide) (by decide), h _ (fun j hj => ?_)⟩) (fun hc => ⟨vp_in_nI (n := 3) (by decide) (by decide), h _ (fun j hj => ?_)⟩))
      all_goals
        have := hf j hj
        have h8 : j = 0 ∨ j = 1 ∨ j = 2 ∨ j = 3 ∨ j = 4 ∨ j = 5 ∨ j = 6 ∨ j = 7 := by omega
        simp only [hc, if_true, if_false] at this
        rw [upd_at]
        simp only [hc, decide_true, decide_false, Bool.not_true, Bool.not_false]
        rcases h8 with rfl | rfl | rfl | rfl | rfl | rfl | rfl | rfl <;> first | rfl | exact this
    | succ m ih =>
      intro k f hk hf
      unfold wp_M_clear_l2 wp_M_clear_b33
      refine br_f (nI_ge (a := k) (b := 8) (by omega) (by decide)) ?_
      rw [nI_1, nI_clamp (by omega)]
      have hv : vp_in (nI k) 2000 := vp_in_nI (by omega) (by decide)
      have step : ∀ v : Int32, (v = if k < 2 then (if x = 0 then nI 73 else nI 77) else 0) → wp_M_clear_l2 post (m + 1) J (upd f k v) x (nI (k + 1)) := by
        intro v ev
        refine ih (k + 1) _ (by omega) (fun j hj => ?_)
        rw [upd_at]
        split
        · next q => rw [q]; exact ev
        · exact hf j (by omega)
      refine br_c (fun hc => ⟨hv, step 0 ?_⟩) (fun hc => br_c (fun hx => ⟨hv, step _ ?_⟩) (fun hx => ⟨hv, step _ ?_⟩))
      · rw [show (2 : Int32) = nI 2 from rfl, nI_leI (by decide) (by omega)] at hc
        rw [if_neg (by omega)]
      · rw [show (2 : Int32) = nI 2 from rfl, nI_leI (by decide) (by omega)] at hc
        rw [if_pos (by omega), if_pos hx]
        rfl
      · rw [show (2 : Int32) = nI 2 from rfl, nI_leI (by decide) (by omega)] at hc
        rw [if_pos (by omega), if_neg hx]
        rfl
  exact ⟨9, key 8 0 g rfl (fun j hj => absurd hj (by omega))⟩
theorem p_X_clear {post : (Nat → Int32) → (Nat → Int32) → Prop} {I f : Nat → Int32} {x : Int32} (h : ∀ I' f' : Nat → Int32, I' 1 = nI 8 → (∀ j, j < 8 → f' j = nI (hdr (!decide (x = 0)) j)) → post I' f') : wp_X_clear post I f x := by
  unfold wp_X_clear
  exact p_St_restart h
theorem RF.clear {be : Bool} {I f J g : Nat → Int32} (h1 : I 1 = nI 8) (h2 : J 1 = nI 8) (hf : ∀ j, j < 8 → f j = nI (hdr be j)) (hg : ∀ j, j < 8 → g j = nI (hdr be j)) : RF 8 (hdr be) I f J g := ⟨h1, h2, Nat.le_refl _, by decide, fun j hj => ⟨hdr_lt be hj, hf j hj, hg j hj⟩⟩
