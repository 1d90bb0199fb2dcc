/-! the file: length, byteAt, poke, clear -/
/-- the file of the class (object I, bytes f) and of the reference (object J, bytes g): size sz, bytes b -/
def RF (sz : Nat) (b : Nat → Nat) (I f J g : Nat → Int32) : Prop := I 1 = nI sz ∧ J 1 = nI sz ∧ 8 ≤ sz ∧ sz ≤ 900 ∧ ∀ j, j < sz → b j < 256 ∧ f j = nI (b j) ∧ g j = nI (b j)
theorem p_St_holds1 {post : Int32 → Prop} {I : Nat → Int32} {a : Int32} (h1 : 0 ≤ a → a < I 1 → post 1) (h0 : ¬ (0 ≤ a ∧ a < I 1) → post 0) : wp_St_holds post I a.toInt64 1 := by
  unfold wp_St_holds wp_St_holds_b28
  simp only [L64n, L64s]
  have : ¬ (1 : Int64) < 0 := by decide
  grind
theorem p_X_byteAt {post : Int32 → Prop} {I f : Nat → Int32} {a : Int32} (hs : I 1 ≤ 900) (h1 : 0 ≤ a → a < I 1 → post (f a.toNatClampNeg)) (h0 : ¬ (0 ≤ a ∧ a < I 1) → post (-1)) : wp_X_byteAt post I f a := by
  unfold wp_X_byteAt
  apply p_St_holds1 <;> grind [vp900]
theorem p_M_byteAt {post : Int32 → Prop} {I f : Nat → Int32} {a : Int32} (hs : I 1 ≤ 900) (h1 : 0 ≤ a → a < I 1 → post (f a.toNatClampNeg)) (h0 : ¬ (0 ≤ a ∧ a < I 1) → post (-1)) : wp_M_byteAt post I f a := by
  unfold wp_M_byteAt wp_M_byteAt_b12
  grind [vp2000]
theorem p_X_poke {post : Int32 → (Nat → Int32) → Prop} {I f : Nat → Int32} {a b : Int32} (hs : I 1 ≤ 900) (h1 : 0 ≤ a → a < I 1 → 0 ≤ b → b ≤ 255 → post 1 (upd f a.toNatClampNeg b)) (h0 : ¬ (0 ≤ a ∧ a < I 1 ∧ 0 ≤ b ∧ b ≤ 255) → post 0 f) : wp_X_poke post I f a b := by
  unfold wp_X_poke
  apply p_St_holds1 <;> grind [vp900]
theorem p_M_poke {post : Int32 → (Nat → Int32) → Prop} {I f : Nat → Int32} {a b : Int32} (hs : I 1 ≤ 900) (h1 : 0 ≤ a → a < I 1 → 0 ≤ b → b ≤ 255 → post 1 (upd f a.toNatClampNeg b)) (h0 : ¬ (0 ≤ a ∧ a < I 1 ∧ 0 ≤ b ∧ b ≤ 255) → post 0 f) : wp_M_poke post I f a b := by
  unfold wp_M_poke
  grind [vp2000]
theorem RF.size {sz : Nat} {b : Nat → Nat} {I f J g : Nat → Int32} (h : RF sz b I f J g) : I 1 ≤ 900 ∧ J 1 ≤ 900 ∧ I 1 = J 1 := by
  obtain ⟨e, e2, h1, h2, hj⟩ := h
  rw [e, e2]
  exact ⟨nI_le (a := sz) (b := 900) h2 (by decide), nI_le (a := sz) (b := 900) h2 (by decide), rfl⟩
/-- a place of the file, as an int -/
theorem RF.place {sz : Nat} {b : Nat → Nat} {I f J g : Nat → Int32} (h : RF sz b I f J g) {a : Int32} (h0 : 0 ≤ a) (h1 : a < I 1) : ∃ k, k < sz ∧ a = nI k ∧ a.toNatClampNeg = k := by
  obtain ⟨k, hk, rfl⟩ := nI_of (x := a) (by grind)
  rw [h.1, nI_ltI hk (by have := h.2.2.2.1; omega)] at h1
  exact ⟨k, h1, rfl, nI_clamp hk⟩
theorem q_byteAt {sz : Nat} {b : Nat → Nat} {I f J g : Nat → Int32} (h : RF sz b I f J g) (a : Int32) {Wr : Prop → Prop} {C : Prop} (hP : ∀ D : Prop, D → Wr D) (k : C) : wp_X_byteAt (fun r => Wr (wp_M_byteAt (fun r' => (r = r' → C) ∧ (¬ r = r' → False)) J g a)) I f a := by
  obtain ⟨s1, s2, s3⟩ := h.size
  refine p_X_byteAt s1 (fun q1 q2 => hP _ (p_M_byteAt s2 (fun _ _ => ⟨fun _ => k, fun n => n ?_⟩) (fun n => absurd ⟨q1, s3 ▸ q2⟩ n))) (fun n => hP _ (p_M_byteAt s2 (fun w1 w2 => absurd ⟨w1, s3 ▸ w2⟩ n) (fun _ => ⟨fun _ => k, fun n => n rfl⟩)))
  obtain ⟨j, hj, rfl, e⟩ := h.place q1 q2
  rw [e, (h.2.2.2.2 j hj).2.1, (h.2.2.2.2 j hj).2.2]
theorem q_poke {sz : Nat} {b : Nat → Nat} {I f J g : Nat → Int32} (h : RF sz b I f J g) (a v : Int32) {Wr : Prop → Prop} {K : (Nat → Int32) → (Nat → Int32) → Prop} (hP : ∀ D : Prop, D → Wr D) (k : ∀ (b' : Nat → Nat) f' g', RF sz b' I f' J g' → K f' g') : wp_X_poke (fun r f' => Wr (wp_M_poke (fun r' g' => (r = r' → K f' g') ∧ (¬ r = r' → False)) J g a v)) I f a v := by
  obtain ⟨s1, s2, s3⟩ := h.size
  refine p_X_poke s1 (fun q1 q2 q3 q4 => hP _ (p_M_poke s2 (fun _ _ _ _ => ⟨fun _ => ?_, fun n => n rfl⟩) (fun n => absurd ⟨q1, s3 ▸ q2, q3, q4⟩ n))) (fun n => hP _ (p_M_poke s2 (fun w1 w2 w3 w4 => absurd ⟨w1, s3 ▸ w2, w3, w4⟩ n) (fun _ => ⟨fun _ => k b _ _ h, fun n => n rfl⟩)))
  obtain ⟨j, hj, rfl, e⟩ := h.place q1 q2
  obtain ⟨x, hx, rfl⟩ := nI_of (x := v) (by grind)
  have hx2 : x < 256 := by
    rw [show (255 : Int32) = nI 255 from rfl, nI_leI hx (by decide)] at q4
    omega
  rw [e]
  refine k (fun i => if i = j then x else b i) _ _ ⟨h.1, h.2.1, h.2.2.1, h.2.2.2.1, fun i hi => ?_⟩
  have := h.2.2.2.2 i hi
  simp only [upd_at]
  split
  · exact ⟨hx2, rfl, rfl⟩
  · exact this
theorem q_length {sz : Nat} {b : Nat → Nat} {I f J g : Nat → Int32} (h : RF sz b I f J g) {C : Prop} (k : C) : wp_X_length (fun r => wp_M_length (fun r' => (r = r' → C) ∧ (¬ r = r' → False)) J) I := by
  unfold wp_X_length wp_M_length
  exact ⟨fun _ => k, fun n => n h.size.2.2⟩
/-- one byte is appended, below the room -/
theorem p_St_append {post : (Nat → Int32) → (Nat → Int32) → Prop} {I f : Nat → Int32} {e : Nat} {v : Int32} (he : I 2 = nI e) (hb : e < 2 ^ 30) (h : post (upd I 2 (nI (e + 1))) (if e < 900 then upd f e v else f)) : wp_St_append post I f v := by
  unfold wp_St_append wp_St_append_b20
  rw [he, nI_1]
  refine ⟨fun hc => ?_, fun hc => ⟨?_, ?_⟩⟩
  · rw [show (900 : Int32) = nI 900 from rfl, nI_leI (by decide) (by omega)] at hc
    rw [if_neg (by omega)] at h
    exact h
  · rw [show (900 : Int32) = nI 900 from rfl, nI_leI (by decide) (by omega)] at hc
    exact vp_in_nI (by omega) (by decide)
  · rw [show (900 : Int32) = nI 900 from rfl, nI_leI (by decide) (by omega)] at hc
    rw [if_pos (by omega)] at h
    rw [nI_clamp (by omega)]
    exact h
