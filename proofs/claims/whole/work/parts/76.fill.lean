/-! fill -/
def rcF (f : Nat → Int32) (y0 y1 x0 x1 : Nat) (v : Int32) : Nat → Int32 := fun j => if y0 ≤ j / 16 ∧ j / 16 < y1 ∧ x0 ≤ j % 16 ∧ j % 16 < x1 then v else f j
theorem rcF_none {f : Nat → Int32} {y0 y1 x0 x1 : Nat} {v : Int32} (h : y1 ≤ y0 ∨ x1 ≤ x0) : rcF f y0 y1 x0 x1 v = f := by
  funext j
  unfold rcF
  rw [if_neg (by omega)]
theorem rcF_cell {f : Nat → Int32} {y i b : Nat} {v : Int32} (hb : b ≤ 16) (hi : i < b) : rcF (upd f (16 * y + i) v) y (y + 1) (i + 1) b v = rcF f y (y + 1) i b v := by
  funext j
  unfold rcF
  rw [upd_at]
  by_cases h : j = 16 * y + i
  · rw [if_neg (by omega), if_pos h, if_pos (by omega)]
  · rw [if_neg h]
    by_cases h2 : y ≤ j / 16 ∧ j / 16 < y + 1 ∧ i + 1 ≤ j % 16 ∧ j % 16 < b
    · rw [if_pos h2, if_pos (by omega)]
    · rw [if_neg h2, if_neg (by omega)]
theorem rcF_row {f : Nat → Int32} {y y1 a b : Nat} {v : Int32} (hy : y < y1) : rcF (rcF f y (y + 1) a b v) (y + 1) y1 a b v = rcF f y y1 a b v := by
  funext j
  unfold rcF
  by_cases h : y + 1 ≤ j / 16 ∧ j / 16 < y1 ∧ a ≤ j % 16 ∧ j % 16 < b
  · rw [if_pos h, if_pos (by omega)]
  · rw [if_neg h]
    by_cases h2 : y ≤ j / 16 ∧ j / 16 < y + 1 ∧ a ≤ j % 16 ∧ j % 16 < b
    · rw [if_pos h2, if_pos (by omega)]
    · rw [if_neg h2, if_neg (by omega)]
/-- the greatest sample of d bits -/
theorem gr_d {d : Nat} (hd : d = 1 ∨ d = 2 ∨ d = 4 ∨ d = 8) : ((1 : Int32) <<< (nI d &&& 31)) = nI (2 ^ d) ∧ ((1 : Int32) <<< (nI d &&& 31)) - 1 = nI (2 ^ d - 1) := by
  rcases hd with rfl | rfl | rfl | rfl <;> decide
theorem and_d {d v : Nat} (hd : d = 1 ∨ d = 2 ∨ d = 4 ∨ d = 8) (hv : v < 2 ^ 32) : nI v &&& nI (2 ^ d - 1) = nI (v % 2 ^ d) := by
  rcases hd with rfl | rfl | rfl | rfl
  · exact pk_andN hv 1 (by decide)
  · exact pk_andN hv 2 (by decide)
  · exact pk_andN hv 4 (by decide)
  · exact pk_andN hv 8 (by decide)
theorem p_Pi_put {post : (Nat → Int32) → Prop} {I f : Nat → Int32} {w h d i j : Nat} {v : Int32} (e1 : I 1 = nI w) (e2 : I 2 = nI h) (e3 : I 3 = nI d) (hd : d = 1 ∨ d = 2 ∨ d = 4 ∨ d = 8) (hw : w ≤ 16) (hh : h ≤ 16) (hi : i < w) (hj : j < h) (hp : post (upd f (16 * j + i) (v &&& nI (2 ^ d - 1)))) : wp_Pi_put post I f (nI i) (nI j) v := by
  unfold wp_Pi_put wp_Pi_greatest
  rw [e3, (gr_d hd).2]
  refine p_Pi_has (fun _ _ _ _ => br_f (by decide) ?_) (fun n => absurd ⟨nI_pos' (by omega), ?_, nI_pos' (by omega), ?_⟩ n)
  · rw [show (16 : Int32) = nI 16 from rfl, pk_mul, nI_add, nI_clamp (by omega), show j * 16 + i = 16 * j + i by omega]
    exact ⟨vp_in_nI (by omega) (by decide), hp⟩
  · rw [e1]; exact nI_lt hi (by omega)
  · rw [e2]; exact nI_lt hj (by omega)
theorem p_X_fillL {post : Int32 → (Nat → Int32) → Prop} {I f : Nat → Int32} {w h d x0 y0 ww hh v : Nat} (e1 : I 1 = nI w) (e2 : I 2 = nI h) (e3 : I 3 = nI d) (hd : d = 1 ∨ d = 2 ∨ d = 4 ∨ d = 8) (hw : w ≤ 16) (hh16 : h ≤ 16) (h1 : x0 + ww ≤ w) (h2 : y0 + hh ≤ h) (hv : v < 2 ^ d) (hp : post 1 (rcF f y0 (y0 + hh) x0 (x0 + ww) (nI v))) : ∃ n1, wp_X_fill_l74 post I n1 f (nI x0) (nI y0) (nI ww) (nI hh) (nI v) (nI y0) := by
  have hv32 : v < 2 ^ 32 := by rcases hd with rfl | rfl | rfl | rfl <;> omega
  have inner : ∀ (K : (Nat → Int32) → Int32 → Int32 → Int32 → Int32 → Int32 → Int32 → Prop) (y : Nat), y < h → ∀ (m i : Nat) (f : Nat → Int32), i + m = x0 + ww → K (rcF f y (y + 1) i (x0 + ww) (nI v)) (nI x0) (nI y0) (nI ww) (nI hh) (nI v) (nI (y + 1)) → wp_X_fill_l86 post K I (m + 1) f (nI x0) (nI y0) (nI ww) (nI hh) (nI v) (nI y) (nI i) := by
    intro K y hy m
    induction m with
    | zero =>
      intro i f hi hk
      unfold wp_X_fill_l86
      rw [nI_add, nI_1]
      refine br_t (nI_le (by omega) (by omega)) ?_
      rw [rcF_none (by omega)] at hk
      exact hk
    | succ m ih =>
      intro i f hi hk
      unfold wp_X_fill_l86
      rw [nI_add, nI_1]
      refine br_f (nI_ge (by omega) (by omega)) ?_
      refine p_Pi_put e1 e2 e3 hd hw hh16 (by omega) hy ?_
      rw [and_d hd hv32, Nat.mod_eq_of_lt hv, nI_1]
      refine ih (i + 1) _ (by omega) ?_
      rw [rcF_cell (by omega) (by omega)]
      exact hk
  have outer : ∀ (m y : Nat) (f : Nat → Int32), y + m = y0 + hh → post 1 (rcF f y (y0 + hh) x0 (x0 + ww) (nI v)) → wp_X_fill_l74 post I (m + 1) f (nI x0) (nI y0) (nI ww) (nI hh) (nI v) (nI y) := by
    intro m
    induction m with
    | zero =>
      intro y f hy hq
      unfold wp_X_fill_l74
      rw [nI_add]
      refine br_t (nI_le (by omega) (by omega)) ?_
      rw [rcF_none (by omega)] at hq
      exact hq
    | succ m ih =>
      intro y f hy hq
      unfold wp_X_fill_l74
      rw [nI_add]
      refine br_f (nI_ge (by omega) (by omega)) ⟨ww + 1, ?_⟩
      refine inner _ y (by omega) ww x0 f rfl ?_
      refine ih (y + 1) _ (by omega) ?_
      rw [rcF_row (by omega)]
      exact hq
  exact ⟨hh + 1, outer hh y0 f rfl hp⟩
theorem p_M_fillL {post : Int32 → (Nat → Int32) → Prop} {J g : Nat → Int32} {x0 y0 ww hh v : Nat} (h1 : x0 + ww ≤ 16) (h2 : y0 + hh ≤ 16) (hp : post 1 (rcF g y0 (y0 + hh) x0 (x0 + ww) (nI v))) : ∃ n1, wp_M_fill_l77 post J n1 g (nI x0) (nI y0) (nI ww) (nI hh) (nI v) (nI y0) := by
  have inner : ∀ (K : (Nat → Int32) → Int32 → Int32 → Int32 → Int32 → Int32 → Int32 → Prop) (y : Nat), y < 16 → ∀ (m i : Nat) (f : Nat → Int32), i + m = x0 + ww → K (rcF f y (y + 1) i (x0 + ww) (nI v)) (nI x0) (nI y0) (nI ww) (nI hh) (nI v) (nI (y + 1)) → wp_M_fill_l89 post K J (m + 1) f (nI x0) (nI y0) (nI ww) (nI hh) (nI v) (nI y) (nI i) := by
    intro K y hy m
    induction m with
    | zero =>
      intro i f hi hk
      unfold wp_M_fill_l89
      rw [nI_add, nI_1]
      refine br_t (nI_le (by omega) (by omega)) ?_
      rw [rcF_none (by omega)] at hk
      exact hk
    | succ m ih =>
      intro i f hi hk
      unfold wp_M_fill_l89
      rw [nI_add, nI_1, nI_1, show (16 : Int32) = nI 16 from rfl, pk_mul, nI_add, nI_clamp (by omega)]
      refine br_f (nI_ge (by omega) (by omega)) ⟨vp_in_nI (by omega) (by decide), ?_⟩
      refine ih (i + 1) _ (by omega) ?_
      rw [rcF_cell (by omega) (by omega)]
      exact hk
  have outer : ∀ (m y : Nat) (f : Nat → Int32), y + m = y0 + hh → post 1 (rcF f y (y0 + hh) x0 (x0 + ww) (nI v)) → wp_M_fill_l77 post J (m + 1) f (nI x0) (nI y0) (nI ww) (nI hh) (nI v) (nI y) := by
    intro m
    induction m with
    | zero =>
      intro y f hy hq
      unfold wp_M_fill_l77
      rw [nI_add]
      refine br_t (nI_le (by omega) (by omega)) ?_
      rw [rcF_none (by omega)] at hq
      exact hq
    | succ m ih =>
      intro y f hy hq
      unfold wp_M_fill_l77
      rw [nI_add]
      refine br_f (nI_ge (by omega) (by omega)) ⟨ww + 1, ?_⟩
      refine inner _ y (by omega) ww x0 f rfl ?_
      refine ih (y + 1) _ (by omega) ?_
      rw [rcF_row (by omega)]
      exact hq
  exact ⟨hh + 1, outer hh y0 g rfl hp⟩
def okF (w h d : Nat) (a b ww hh v : Int32) : Prop := (0 ≤ a ∧ a < nI w) ∧ (0 ≤ b ∧ b < nI h) ∧ (1 ≤ ww ∧ ww ≤ nI w - a) ∧ (1 ≤ hh ∧ hh ≤ nI h - b) ∧ (0 ≤ v ∧ v ≤ nI (2 ^ d - 1))
theorem okF_nat {w h d : Nat} {a b ww hh v : Int32} (hw : w ≤ 16) (hh16 : h ≤ 16) (hd : d = 1 ∨ d = 2 ∨ d = 4 ∨ d = 8) (q : okF w h d a b ww hh v) : ∃ x0 y0 nw nh nv : Nat, a = nI x0 ∧ b = nI y0 ∧ ww = nI nw ∧ hh = nI nh ∧ v = nI nv ∧ 1 ≤ nw ∧ 1 ≤ nh ∧ x0 + nw ≤ w ∧ y0 + nh ≤ h ∧ nv < 2 ^ d := by
  obtain ⟨⟨a1, a2⟩, ⟨b1, b2⟩, ⟨c1, c2⟩, ⟨d1, d2⟩, v1, v2⟩ := q
  obtain ⟨x0, hx, rfl⟩ := in16 hw a1 a2
  obtain ⟨y0, hy, rfl⟩ := in16 hh16 b1 b2
  rw [pk_sub (by omega)] at c2 d2
  obtain ⟨nw, hnw, rfl⟩ := nI_of (x := ww) (by grind)
  obtain ⟨nh, hnh, rfl⟩ := nI_of (x := hh) (by grind)
  obtain ⟨nv, hnv, rfl⟩ := nI_of (x := v) (by grind)
  rw [show (1 : Int32) = nI 1 from rfl, nI_leI (by decide) (by omega)] at c1 d1
  rw [nI_leI (by omega) (by omega)] at c2 d2
  rw [nI_leI (by omega) (by rcases hd with rfl | rfl | rfl | rfl <;> decide)] at v2
  have : 1 ≤ 2 ^ d := Nat.one_le_two_pow
  exact ⟨x0, y0, nw, nh, nv, rfl, rfl, rfl, rfl, rfl, c1, d1, by omega, by omega, by omega⟩
theorem p_X_fill {post : Int32 → (Nat → Int32) → Prop} {I f : Nat → Int32} {w h d : Nat} {a b ww hh v : Int32} (e1 : I 1 = nI w) (e2 : I 2 = nI h) (e3 : I 3 = nI d) (hd : d = 1 ∨ d = 2 ∨ d = 4 ∨ d = 8) (h1 : okF w h d a b ww hh v → ∃ n1, wp_X_fill_l74 post I n1 f a b ww hh v b) (h0 : ¬ okF w h d a b ww hh v → post 0 f) : wp_X_fill post I f a b ww hh v := by
  unfold wp_X_fill wp_Pi_greatest
  rw [e3, (gr_d hd).2]
  unfold okF at h1 h0
  refine p_Pi_has (fun q1 q2 q3 q4 => br_f (by decide) ?_) (fun n => br_t rfl (h0 (fun q => n ?_)))
  · rw [e1] at q2 ⊢
    rw [e2] at q4 ⊢
    generalize nI (2 ^ d - 1) = G at h1 h0 ⊢
    generalize nI w = A at *
    generalize nI h = B at *
    grind (splits := 30)
  · rw [e1, e2]
    exact ⟨q.1.1, q.1.2, q.2.1.1, q.2.1.2⟩
theorem p_M_fill {post : Int32 → (Nat → Int32) → Prop} {J g : Nat → Int32} {w h d : Nat} {a b ww hh v : Int32} (e1 : J 3 = nI w) (e2 : J 4 = nI h) (e3 : J 5 = nI d) (hd : d = 1 ∨ d = 2 ∨ d = 4 ∨ d = 8) (h1 : okF w h d a b ww hh v → ∃ n1, wp_M_fill_l77 post J n1 g a b ww hh v b) (h0 : ¬ okF w h d a b ww hh v → post 0 g) : wp_M_fill post J g a b ww hh v := by
  unfold wp_M_fill
  rw [e1, e2, e3, (gr_d hd).1]
  unfold okF at h1 h0
  have hv : (v < nI (2 ^ d)) ↔ v ≤ nI (2 ^ d - 1) := by
    rcases hd with rfl | rfl | rfl | rfl
    · show v < 2 ↔ v ≤ 1; grind
    · show v < 4 ↔ v ≤ 3; grind
    · show v < 16 ↔ v ≤ 15; grind
    · show v < 256 ↔ v ≤ 255; grind
  rw [hv]
  clear hv
  generalize nI (2 ^ d - 1) = G at h1 h0 ⊢
  generalize nI w = A at *
  generalize nI h = B at *
  grind (splits := 40)
theorem q_fill {w h d : Nat} {s : Nat → Nat → Nat} {I f J g : Nat → Int32} (hr : RP w h d s I f J g) (a b c e v : Int32) {Wr : Prop → Prop} {K : (Nat → Int32) → (Nat → Int32) → Prop} (hP : ∀ D : Prop, D → Wr D) (k : ∀ (s' : Nat → Nat → Nat) (f' g' : Nat → Int32), RP w h d s' I f' J g' → K f' g') : wp_X_fill (fun r f' => Wr (wp_M_fill (fun r' g' => (r = r' → K f' g') ∧ (¬ r = r' → False)) J g a b c e v)) I f a b c e v := by
  have hr0 := hr
  obtain ⟨⟨e1, e2, e3, e4, e5, e6⟩, ⟨b1, b2, b3, b4, b5⟩, hs⟩ := hr
  refine p_X_fill e1 e3 e5 b5 (fun q => ?_) (fun n => hP _ (p_M_fill e2 e4 e6 b5 (fun q => absurd q n) (fun _ => ⟨fun _ => k s f g hr0, fun n => n rfl⟩)))
  obtain ⟨x0, y0, nw, nh, nv, rfl, rfl, rfl, rfl, rfl, c1, c2, c3, c4, c5⟩ := okF_nat b2 b4 b5 q
  refine p_X_fillL e1 e3 e5 b5 b2 b4 c3 c4 c5 (hP _ (p_M_fill e2 e4 e6 b5 (fun _ => p_M_fillL (by omega) (by omega) ⟨fun _ => ?_, fun n => n rfl⟩) (fun n => absurd q n)))
  refine k (fun y x => if y0 ≤ y ∧ y < y0 + nh ∧ x0 ≤ x ∧ x < x0 + nw then nv else s y x) _ _ ⟨⟨e1, e2, e3, e4, e5, e6⟩, ⟨b1, b2, b3, b4, b5⟩, fun y x hy hx => ?_⟩
  obtain ⟨s1, s2, s3⟩ := hs y x hy hx
  unfold rcF
  rw [show (16 * y + x) / 16 = y by omega, show (16 * y + x) % 16 = x by omega]
  dsimp only
  by_cases hc : y0 ≤ y ∧ y < y0 + nh ∧ x0 ≤ x ∧ x < x0 + nw
  · rw [if_pos hc, if_pos hc, if_pos hc]
    exact ⟨c5, rfl, rfl⟩
  · rw [if_neg hc, if_neg hc, if_neg hc]
    exact ⟨s1, s2, s3⟩
