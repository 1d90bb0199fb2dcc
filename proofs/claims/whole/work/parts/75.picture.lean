/-! the picture: begin, shape, sample, fill -/
/-- the picture of the class (object I, samples f) and of the reference (object J, samples g): w columns, h rows, d bits, samples s row column -/
def RP (w h d : Nat) (s : Nat → Nat → Nat) (I f J g : Nat → Int32) : Prop := (I 1 = nI w ∧ J 3 = nI w ∧ I 2 = nI h ∧ J 4 = nI h ∧ I 3 = nI d ∧ J 5 = nI d) ∧ (1 ≤ w ∧ w ≤ 16 ∧ 1 ≤ h ∧ h ≤ 16 ∧ (d = 1 ∨ d = 2 ∨ d = 4 ∨ d = 8)) ∧ ∀ y x, y < h → x < w → s y x < 2 ^ d ∧ f (16 * y + x) = nI (s y x) ∧ g (16 * y + x) = nI (s y x)
theorem p_isSide {post : Int32 → Prop} {x : Int32} (h1 : 1 ≤ x → x ≤ 16 → post 1) (h0 : ¬ (1 ≤ x ∧ x ≤ 16) → post 0) : wp_X_isSide post x.toInt64 := by
  unfold wp_X_isSide wp_X_isSide_b18
  rw [show (1 : Int64) = (1 : Int32).toInt64 from rfl, show (16 : Int64) = (16 : Int32).toInt64 from rfl, L64lt, L64lt]
  grind
theorem p_isDepth {post : Int32 → Prop} {x : Int32} (h1 : (x = 1 ∨ x = 2 ∨ x = 4 ∨ x = 8) → post 1) (h0 : ¬ (x = 1 ∨ x = 2 ∨ x = 4 ∨ x = 8) → post 0) : wp_X_isDepth post x.toInt64 := by
  unfold wp_X_isDepth wp_X_isDepth_b30
  rw [show (1 : Int64) = (1 : Int32).toInt64 from rfl, show (2 : Int64) = (2 : Int32).toInt64 from rfl, show (4 : Int64) = (4 : Int32).toInt64 from rfl, show (8 : Int64) = (8 : Int32).toInt64 from rfl, L64eq, L64eq, L64eq, L64eq]
  grind
theorem p_J_fill {post : (Nat → Int32) → Prop} {f : Nat → Int32} {v : Int32} (h : ∀ f' : Nat → Int32, (∀ j, j < 256 → f' j = v) → post f') : wp_J_fill post f v := by
  unfold wp_J_fill
  have key : ∀ (m k : Nat) (f : Nat → Int32), k + m = 256 → (∀ j, j < k → f j = v) → wp_J_fill_l5 post (m + 1) f v (nI k) 256 := by
    intro m
    induction m with
    | zero =>
      intro k f hk hf
      have : k = 256 := by omega
      subst this
      unfold wp_J_fill_l5
      exact br_t (by decide) (h f hf)
    | succ m ih =>
      intro k f hk hf
      unfold wp_J_fill_l5
      refine br_f (nI_ge (a := k) (b := 256) (by omega) (by decide)) ⟨vp_in_nI (by omega) (by decide), ?_⟩
      rw [nI_1, nI_clamp (by omega)]
      refine ih (k + 1) _ (by omega) (fun j hj => ?_)
      rw [upd_at]
      split
      · rfl
      · exact hf j (by omega)
  exact ⟨257, key 256 0 f rfl (fun j hj => absurd hj (by omega))⟩
def okB (a b c : Int32) : Prop := (1 ≤ a ∧ a ≤ 16) ∧ (1 ≤ b ∧ b ≤ 16) ∧ (c = 1 ∨ c = 2 ∨ c = 4 ∨ c = 8)
theorem p_X_begin {post : Int32 → (Nat → Int32) → (Nat → Int32) → Prop} {I f : Nat → Int32} {a b c : Int32} (h1 : okB a b c → ∀ f' : Nat → Int32, (∀ j, j < 256 → f' j = 0) → post 1 (upd (upd (upd I 1 a) 2 b) 3 c) f') (h0 : ¬ okB a b c → post 0 I f) : wp_X_begin post I f a b c := by
  unfold wp_X_begin wp_Pi_become
  refine p_isSide (fun q1 q2 => br_f (by decide) ?_) (fun n => br_t rfl (h0 (fun q => n q.1)))
  refine p_isSide (fun q3 q4 => br_f (by decide) ?_) (fun n => br_t rfl (h0 (fun q => n q.2.1)))
  refine p_isDepth (fun q5 => br_f (by decide) ?_) (fun n => br_t rfl (h0 (fun q => n q.2.2)))
  exact p_J_fill (h1 ⟨⟨q1, q2⟩, ⟨q3, q4⟩, q5⟩)
theorem p_M_begin {post : Int32 → (Nat → Int32) → (Nat → Int32) → Prop} {I f : Nat → Int32} {a b c : Int32} (h1 : okB a b c → ∀ f' : Nat → Int32, (∀ j, j < 256 → f' j = 0) → post 1 (upd (upd (upd I 3 a) 4 b) 5 c) f') (h0 : ¬ okB a b c → post 0 I f) : wp_M_begin post I f a b c := by
  have hx : okB a b c → wp_M_begin_b47 post I f a b c := by
    intro hv
    unfold wp_M_begin_b47
    have key : ∀ (m k : Nat) (f : Nat → Int32), k + m = 256 → (∀ j, j < k → f j = 0) → wp_M_begin_l65 post (m + 1) (upd (upd (upd I 3 a) 4 b) 5 c) f (nI k) := by
      intro m
      induction m with
      | zero =>
        intro k f hk hf
        have : k = 256 := by omega
        subst this
        unfold wp_M_begin_l65
        exact br_t (by decide) (h1 hv f hf)
      | succ m ih =>
        intro k f hk hf
        unfold wp_M_begin_l65
        refine br_f (nI_ge (a := k) (b := 256) (by omega) (by decide)) ⟨vp_in_nI (by omega) (by decide), ?_⟩
        rw [nI_1, nI_clamp (by omega)]
        refine ih (k + 1) _ (by omega) (fun j hj => ?_)
        rw [upd_at]
        split
        · rfl
        · exact hf j (by omega)
    exact ⟨257, key 256 0 f rfl (fun j hj => absurd hj (by omega))⟩
  unfold wp_M_begin
  unfold okB at hx h0
  grind
theorem okB_nat {a b c : Int32} (h : okB a b c) : ∃ w h d : Nat, a = nI w ∧ b = nI h ∧ c = nI d ∧ (1 ≤ w ∧ w ≤ 16 ∧ 1 ≤ h ∧ h ≤ 16 ∧ (d = 1 ∨ d = 2 ∨ d = 4 ∨ d = 8)) := by
  obtain ⟨⟨q1, q2⟩, ⟨q3, q4⟩, q5⟩ := h
  obtain ⟨w, hw, rfl⟩ := nI_of (x := a) (by grind)
  obtain ⟨h, hh, rfl⟩ := nI_of (x := b) (by grind)
  rw [show (1 : Int32) = nI 1 from rfl, nI_leI (by decide) (by omega)] at q1 q3
  rw [show (16 : Int32) = nI 16 from rfl, nI_leI (by omega) (by decide)] at q2 q4
  rcases q5 with rfl | rfl | rfl | rfl
  · exact ⟨w, h, 1, rfl, rfl, rfl, q1, q2, q3, q4, by omega⟩
  · exact ⟨w, h, 2, rfl, rfl, rfl, q1, q2, q3, q4, by omega⟩
  · exact ⟨w, h, 4, rfl, rfl, rfl, q1, q2, q3, q4, by omega⟩
  · exact ⟨w, h, 8, rfl, rfl, rfl, q1, q2, q3, q4, by omega⟩
/-- begin, on both sides; the reference's object keeps its other fields -/
theorem q_begin {w h d : Nat} {s : Nat → Nat → Nat} {I f J g : Nat → Int32} (hr : RP w h d s I f J g) (a b c : Int32) {Wr : Prop → Prop} {K : (Nat → Int32) → (Nat → Int32) → (Nat → Int32) → (Nat → Int32) → Prop} (hP : ∀ D : Prop, D → Wr D) (k : ∀ (w' h' d' : Nat) (s' : Nat → Nat → Nat) (I' f' J' g' : Nat → Int32), RP w' h' d' s' I' f' J' g' → (∀ i, i ≠ 3 → i ≠ 4 → i ≠ 5 → J' i = J i) → K I' f' J' g') : wp_X_begin (fun r I' f' => Wr (wp_M_begin (fun r' J' g' => (r = r' → K I' f' J' g') ∧ (¬ r = r' → False)) J g a b c)) I f a b c := by
  refine p_X_begin (fun hv f' hf => hP _ (p_M_begin (fun _ g' hg => ⟨fun _ => ?_, fun n => n rfl⟩) (fun n => absurd hv n))) (fun n => hP _ (p_M_begin (fun q => absurd q n) (fun _ => ⟨fun _ => k w h d s _ _ _ _ hr (fun _ _ _ _ => rfl), fun n => n rfl⟩)))
  obtain ⟨w', h', d', rfl, rfl, rfl, hb⟩ := okB_nat hv
  refine k w' h' d' (fun _ _ => 0) _ _ _ _ ⟨⟨rfl, rfl, rfl, rfl, rfl, rfl⟩, hb, fun y x hy hx => ⟨Nat.two_pow_pos d', hf _ (by omega), hg _ (by omega)⟩⟩ (fun i h3 h4 h5 => ?_)
  simp only [upd_at, if_neg h3, if_neg h4, if_neg h5]
theorem q_shape {w h d : Nat} {s : Nat → Nat → Nat} {I f J g : Nat → Int32} (hr : RP w h d s I f J g) {C : Prop} (k : C) : wp_X_shape (fun r => wp_M_shape (fun r' => (r = r' → C) ∧ (¬ r = r' → False)) J) I := by
  unfold wp_X_shape wp_M_shape
  obtain ⟨⟨e1, e2, e3, e4, e5, e6⟩, -⟩ := hr
  rw [e1, e2, e3, e4, e5, e6]
  exact ⟨fun _ => k, fun n => n rfl⟩
theorem p_Pi_has {post : Int32 → Prop} {I : Nat → Int32} {x y : Int32} (h1 : 0 ≤ x → x < I 1 → 0 ≤ y → y < I 2 → post 1) (h0 : ¬ (0 ≤ x ∧ x < I 1 ∧ 0 ≤ y ∧ y < I 2) → post 0) : wp_Pi_has post I x y := by
  unfold wp_Pi_has wp_Pi_has_b28
  grind
theorem in16 {w : Nat} {x : Int32} (hw : w ≤ 16) (h0 : 0 ≤ x) (h1 : x < nI w) : ∃ k, k < w ∧ x = nI k := by
  obtain ⟨k, hk, rfl⟩ := nI_of (x := x) (by grind)
  rw [nI_ltI hk (by omega)] at h1
  exact ⟨k, h1, rfl⟩
theorem p_Pi_get {post : Int32 → Prop} {I f : Nat → Int32} {w h i j : Nat} (e1 : I 1 = nI w) (e2 : I 2 = nI h) (hw : w ≤ 16) (hh : h ≤ 16) (hi : i < w) (hj : j < h) (hp : post (f (16 * j + i))) : wp_Pi_get post I f (nI i) (nI j) := by
  unfold wp_Pi_get
  refine p_Pi_has (fun _ _ _ _ => br_f (by decide) ?_) (fun n => absurd ⟨nI_pos' (by omega), ?_, nI_pos' (by omega), ?_⟩ n)
  · rw [show (16 : Int32) = nI 16 from rfl, pk_mul, nI_add, nI_clamp (by omega), show j * 16 + i = 16 * j + i by omega]
    exact ⟨vp_in_nI (by omega) (by decide), hp⟩
  · rw [e1]; exact nI_lt hi (by omega)
  · rw [e2]; exact nI_lt hj (by omega)
theorem q_sample {w h d : Nat} {s : Nat → Nat → Nat} {I f J g : Nat → Int32} (hr : RP w h d s I f J g) (a b : Int32) {Wr : Prop → Prop} {C : Prop} (hP : ∀ D : Prop, D → Wr D) (k : C) : wp_X_sample (fun r => Wr (wp_M_sample (fun r' => (r = r' → C) ∧ (¬ r = r' → False)) J g a b)) I f a b := by
  obtain ⟨⟨e1, e2, e3, e4, e5, e6⟩, ⟨b1, b2, b3, b4, b5⟩, hs⟩ := hr
  unfold wp_X_sample
  refine p_Pi_has (fun q1 q2 q3 q4 => br_f (by decide) ?_) (fun n => br_t rfl (hP _ ?_))
  · rw [e1] at q2
    rw [e3] at q4
    obtain ⟨i, hi, rfl⟩ := in16 b2 q1 q2
    obtain ⟨j, hj, rfl⟩ := in16 b4 q3 q4
    refine p_Pi_get e1 e3 b2 b4 hi hj (hP _ ?_)
    unfold wp_M_sample
    rw [e2, e4]
    refine br_f (nI_pos (by omega)) (br_f (nI_pos (by omega)) (br_f (nI_ge hi (by omega)) (br_t (nI_lt hj (by omega)) ?_)))
    rw [show (16 : Int32) = nI 16 from rfl, pk_mul, nI_add, nI_clamp (by omega), (hs j i hj hi).2.1, (hs j i hj hi).2.2]
    exact ⟨vp_in_nI (by omega) (by decide), fun _ => k, fun n => n rfl⟩
  · rw [e1, ← e2, e3, ← e4] at n
    unfold wp_M_sample wp_M_sample_b24
    grind
theorem RP.frame {w h d : Nat} {s : Nat → Nat → Nat} {I f J J' g : Nat → Int32} (hr : RP w h d s I f J g) (e3 : J' 3 = J 3) (e4 : J' 4 = J 4) (e5 : J' 5 = J 5) : RP w h d s I f J' g := by
  obtain ⟨⟨q1, q2, q3, q4, q5, q6⟩, hb, hs⟩ := hr
  exact ⟨⟨q1, e3.trans q2, q3, e4.trans q4, q5, e5.trans q6⟩, hb, hs⟩
theorem RF.frame {sz : Nat} {b : Nat → Nat} {I f J J' g : Nat → Int32} (hr : RF sz b I f J g) (e1 : J' 1 = J 1) : RF sz b I f J' g := ⟨hr.1, e1.trans hr.2.1, hr.2.2⟩
