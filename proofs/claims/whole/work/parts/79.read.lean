/-! numbers that stand in the file -/
/-- the first k of n bytes at a, the greatest first, as a number -/
def rdK (b : Nat → Nat) (a n : Nat) : Nat → Nat
  | 0 => 0
  | k + 1 => 256 * rdK b a n k + b (if b 0 = 77 then a + k else a + n - 1 - k)
def rdN (b : Nat → Nat) (a n : Nat) : Nat := rdK b a n n
theorem rdK_lt {b : Nat → Nat} {a n : Nat} (h : ∀ j, a ≤ j → j < a + n → b j < 256) : ∀ k, k ≤ n → rdK b a n k < 256 ^ k := by
  intro k
  induction k with
  | zero => intro _; simp only [rdK]; omega
  | succ k ih =>
    intro hk
    have h1 := ih (by omega)
    simp only [rdK]
    have h2 : b (if b 0 = 77 then a + k else a + n - 1 - k) < 256 := by split <;> exact h _ (by omega) (by omega)
    rw [Nat.pow_succ]
    omega
theorem rd2_lt {b : Nat → Nat} {a : Nat} (h : ∀ j, a ≤ j → j < a + 2 → b j < 256) : rdN b a 2 < 65536 := rdK_lt h 2 (Nat.le_refl _)
theorem rd4_lt {b : Nat → Nat} {a : Nat} (h : ∀ j, a ≤ j → j < a + 4 → b j < 256) : rdN b a 4 < 4294967296 := rdK_lt h 4 (Nat.le_refl _)
theorem rd2_eq (b : Nat → Nat) (a : Nat) : rdN b a 2 = if b 0 = 77 then b a * 256 + b (a + 1) else b (a + 1) * 256 + b a := by
  simp only [rdN, rdK]
  split
  · simp only [Nat.add_zero]; omega
  · rw [show a + 2 - 1 - 0 = a + 1 by omega, show a + 2 - 1 - 1 = a by omega]; omega
theorem rd4_eq (b : Nat → Nat) (a : Nat) : rdN b a 4 = if b 0 = 77 then rdN b a 2 * 65536 + rdN b (a + 2) 2 else rdN b (a + 2) 2 * 65536 + rdN b a 2 := by
  rw [rd2_eq, rd2_eq]
  simp only [rdN, rdK]
  split
  · simp only [Nat.add_zero]
    rw [show a + 2 + 1 = a + 3 by omega]
    omega
  · rw [show a + 4 - 1 - 0 = a + 3 by omega, show a + 4 - 1 - 1 = a + 2 by omega, show a + 4 - 1 - 2 = a + 1 by omega, show a + 4 - 1 - 3 = a by omega, show a + 2 + 1 = a + 3 by omega]
    omega
theorem rd1_eq (b : Nat → Nat) (a : Nat) : rdN b a 1 = b a := by
  simp only [rdN, rdK]
  split
  · simp only [Nat.add_zero]; omega
  · rw [show a + 1 - 1 - 0 = a by omega]; omega
/-- what is known of one side's bytes -/
def Fb (sz : Nat) (b : Nat → Nat) (f : Nat → Int32) : Prop := 8 ≤ sz ∧ sz ≤ 900 ∧ ∀ j, j < sz → b j < 256 ∧ f j = nI (b j)
theorem RF.fX {sz : Nat} {b : Nat → Nat} {I f J g : Nat → Int32} (h : RF sz b I f J g) : Fb sz b f := ⟨h.2.2.1, h.2.2.2.1, fun j hj => ⟨(h.2.2.2.2 j hj).1, (h.2.2.2.2 j hj).2.1⟩⟩
theorem RF.fM {sz : Nat} {b : Nat → Nat} {I f J g : Nat → Int32} (h : RF sz b I f J g) : Fb sz b g := ⟨h.2.2.1, h.2.2.2.1, fun j hj => ⟨(h.2.2.2.2 j hj).1, (h.2.2.2.2 j hj).2.2⟩⟩
theorem Fb.m77 {sz : Nat} {b : Nat → Nat} {f : Nat → Int32} (h : Fb sz b f) : (f 0 = 77) ↔ b 0 = 77 := by
  obtain ⟨h1, h2, h3⟩ := h
  obtain ⟨q1, q2⟩ := h3 0 (by omega)
  rw [q2, show (77 : Int32) = nI 77 from rfl, nI_eq (by omega) (by decide)]
theorem Fb.lt2 {sz : Nat} {b : Nat → Nat} {f : Nat → Int32} (h : Fb sz b f) {a : Nat} (ha : a + 2 ≤ sz) : rdN b a 2 < 65536 := rd2_lt (fun j _ q => (h.2.2 j (by omega)).1)
theorem Fb.lt4 {sz : Nat} {b : Nat → Nat} {f : Nat → Int32} (h : Fb sz b f) {a : Nat} (ha : a + 4 ≤ sz) : rdN b a 4 < 4294967296 := rd4_lt (fun j _ q => (h.2.2 j (by omega)).1)
theorem p_St_shortAt {post : Int32 → Prop} {I f : Nat → Int32} {sz a : Nat} {b : Nat → Nat} (e1 : I 1 = nI sz) (h : Fb sz b f) (ha : a + 2 ≤ sz) (hp : post (nI (rdN b a 2))) : wp_St_shortAt post I f (nI a) := by
  unfold wp_St_shortAt
  have h0 := h
  obtain ⟨h1, h2, h3⟩ := h
  rw [e1, nI_1, nI_clamp (by omega), nI_clamp (by omega), (h3 a (by omega)).2, (h3 (a + 1) (by omega)).2, show (256 : Int32) = nI 256 from rfl, pk_mul, pk_mul, nI_add, nI_add, h0.m77, show (2 : Int32) = nI 2 from rfl, pk_sub (by omega)]
  have v1 : vp_in (nI a) 900 := vp_in_nI (by omega) (by decide)
  have v2 : vp_in (nI (a + 1)) 900 := vp_in_nI (by omega) (by decide)
  rw [rd2_eq] at hp
  refine br_f (nI_pos (by omega)) (br_t (nI_le (by omega) (by omega)) ⟨v0_900, br_c (fun q => ⟨v1, v2, ?_⟩) (fun q => ⟨v2, v1, ?_⟩)⟩)
  · rw [if_pos q] at hp; exact hp
  · rw [if_neg q] at hp; exact hp
theorem p_St_longAt {post : Int64 → Prop} {I f : Nat → Int32} {sz a : Nat} {b : Nat → Nat} (e1 : I 1 = nI sz) (h : Fb sz b f) (ha : a + 4 ≤ sz) (hp : post (lN (rdN b a 4))) : wp_St_longAt post I f (nI a) := by
  unfold wp_St_longAt
  have h2 := h.2.1
  refine p_St_shortAt e1 h (by omega) ?_
  rw [show (2 : Int32) = nI 2 from rfl, nI_add]
  refine p_St_shortAt e1 h (by omega) ⟨v0_900, ?_⟩
  have l1 := h.lt2 (a := a) (by omega)
  have l2 := h.lt2 (a := a + 2) (by omega)
  rw [h.m77, nI_l (by omega), nI_l (by omega), show (65536 : Int64) = lN 65536 from rfl, lN_mul, lN_mul, lN_add, lN_add]
  rw [rd4_eq] at hp
  refine br_c (fun q => ?_) (fun q => ?_)
  · rw [if_pos q] at hp; exact hp
  · rw [if_neg q] at hp; exact hp
theorem p_M_read {post : Int64 → Prop} {J g : Nat → Int32} {sz a n : Nat} {b : Nat → Nat} (h : Fb sz b g) (ha : a + n ≤ sz) (hn : n ≤ 4) (hp : post (lN (rdN b a n))) : wp_M_read post J g (nI a) (nI n) := by
  unfold wp_M_read
  have h0 := h
  obtain ⟨h1, h2, h3⟩ := h
  have hb : ∀ k, k ≤ n → rdK b a n k < 2 ^ 40 := fun k hk => by
    have q1 := rdK_lt (b := b) (a := a) (n := n) (fun j _ q => (h3 j (by omega)).1) k hk
    have q2 : 256 ^ k ≤ 256 ^ 4 := Nat.pow_le_pow_right (by decide) (by omega)
    omega
  have key : ∀ (m k : Nat), k + m = n → wp_M_read_l5 post J g (m + 1) (nI a) (nI n) (lN (rdK b a n k)) (nI k) := by
    intro m
    induction m with
    | zero =>
      intro k hk
      have : k = n := by omega
      subst this
      unfold wp_M_read_l5
      exact br_t (nI_le (by omega) (by omega)) hp
    | succ m ih =>
      intro k hk
      unfold wp_M_read_l5 wp_M_read_b46
      refine br_f (nI_ge (by omega) (by omega)) ⟨v0_2000, ?_⟩
      rw [h0.m77, nI_1, nI_add, show (1 : Int32) = nI 1 from rfl, nI_add, pk_sub (by omega), pk_sub (by omega), nI_clamp (by omega), nI_clamp (by omega), show (256 : Int64) = lN 256 from rfl, lN_mul, (h3 (a + k) (by omega)).2, (h3 (a + n - 1 - k) (by omega)).2]
      have i1 := (h3 (a + k) (by omega)).1
      have i2 := (h3 (a + n - 1 - k) (by omega)).1
      rw [nI_l (by omega), nI_l (by omega), lN_add, lN_add]
      have e := ih (k + 1) (by omega)
      simp only [rdK] at e
      refine br_c (fun q => ⟨vp_in_nI (by omega) (by decide), ?_⟩) (fun q => ⟨vp_in_nI (by omega) (by decide), ?_⟩)
      · rw [if_pos q] at e; exact e
      · rw [if_neg q] at e; exact e
  exact ⟨n + 1, key n 0 (by omega)⟩
theorem p_St_holds {post : Int32 → Prop} {I : Nat → Int32} {sz p n : Nat} (e1 : I 1 = nI sz) (hs : sz ≤ 900) (hp : p < 2 ^ 60) (hn : n < 2 ^ 60) (h1 : p + n ≤ sz → post 1) (h0 : ¬ p + n ≤ sz → post 0) : wp_St_holds post I (lN p) (lN n) := by
  unfold wp_St_holds wp_St_holds_b28
  rw [e1, nI_l (by omega), lN_add, show (0 : Int64) = lN 0 from rfl, pk_lLT (by omega) (by decide), pk_lLT (by omega) (by decide), pk_lLT (by omega) (by omega)]
  refine br_f (by omega) (br_f (by omega) (br_c (fun q => h0 (by omega)) (fun q => h1 (by omega))))
/-- a directory can stand at p -/
def stS (b : Nat → Nat) (sz p : Nat) : Bool := decide (p % 2 = 0 ∧ 8 ≤ p ∧ p + 2 ≤ sz ∧ 1 ≤ rdN b p 2 ∧ p + 6 + 12 * rdN b p 2 ≤ sz)
theorem stS_iff {b : Nat → Nat} {sz p : Nat} : stS b sz p = true ↔ (p % 2 = 0 ∧ 8 ≤ p ∧ p + 2 ≤ sz ∧ 1 ≤ rdN b p 2 ∧ p + 6 + 12 * rdN b p 2 ≤ sz) := by
  unfold stS
  exact decide_eq_true_iff
theorem p_Wk_stands {post : Int32 → Prop} {I f : Nat → Int32} {sz p : Nat} {b : Nat → Nat} (e1 : I 1 = nI sz) (h : Fb sz b f) (hp : p < 2 ^ 40) (h1 : stS b sz p = true → post 1) (h0 : ¬ stS b sz p = true → post 0) : wp_Wk_stands post I f (lN p) := by
  rw [stS_iff] at h1 h0
  have h2 := h.2.1
  unfold wp_Wk_stands wp_Wk_stands_b63
  rw [show (2 : Int64) = lN 2 from rfl, pk_lRem (by omega) (by decide) (by decide), show (0 : Int64) = lN 0 from rfl, pk_lEQ (by omega) (by decide), show (8 : Int64) = lN 8 from rfl, pk_lLT (by omega) (by decide), lN_i]
  refine br_c (fun q1 => br_c (fun q2 => h0 (by omega)) (fun q2 => ?_)) (fun q1 => h0 (by omega))
  refine p_St_holds e1 h2 (by omega) (by decide) (fun q3 => br_f (by decide) ?_) (fun q3 => br_t rfl (h0 (by omega)))
  have l2 := h.lt2 (a := p) (by omega)
  refine p_St_shortAt e1 h (by omega) ?_
  rw [show (1 : Int32) = nI 1 from rfl, nI_ltI (by omega) (by decide), show (12 : Int32) = nI 12 from rfl, show (6 : Int32) = nI 6 from rfl, pk_mul, nI_add, nI_l (by omega)]
  refine br_c (fun q4 => h0 (by omega)) (fun q4 => ?_)
  exact p_St_holds e1 h2 (by omega) (by omega) (fun q5 => br_f (by decide) (h1 (by omega))) (fun q5 => br_t rfl (h0 (by omega)))
theorem p_M_stands {post : Int32 → Prop} {J g : Nat → Int32} {sz p : Nat} {b : Nat → Nat} (e1 : J 1 = nI sz) (h : Fb sz b g) (hp : p < 2 ^ 40) (h1 : stS b sz p = true → post 1) (h0 : ¬ stS b sz p = true → post 0) : wp_M_stands post J g (lN p) := by
  rw [stS_iff] at h1 h0
  have h2 := h.2.1
  unfold wp_M_stands wp_M_stands_b72
  rw [show (2 : Int64) = lN 2 from rfl, pk_lRem (by omega) (by decide) (by decide), show (0 : Int64) = lN 0 from rfl, pk_lEQ (by omega) (by decide), show (8 : Int64) = lN 8 from rfl, pk_lLT (by omega) (by decide), lN_i, e1, nI_l (by omega), lN_add, pk_lLE (by omega) (by omega)]
  refine br_c (fun q1 => br_c (fun q2 => h0 (by omega)) (fun q2 => br_c (fun q3 => ?_) (fun q3 => h0 (by omega)))) (fun q1 => h0 (by omega))
  have l2 := h.lt2 (a := p) (by omega)
  refine p_M_read (n := 2) h (by omega) (by decide) ?_
  rw [show (1 : Int64) = lN 1 from rfl, pk_lLT (by omega) (by decide), show (12 : Int64) = lN 12 from rfl, show (6 : Int64) = lN 6 from rfl, lN_mul, lN_add, lN_add, pk_lLT (by omega) (by omega)]
  exact br_c (fun q4 => h0 (by omega)) (fun q4 => br_c (fun q5 => h0 (by omega)) (fun q5 => h1 (by omega)))
