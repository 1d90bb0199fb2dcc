/-! wash -/
def wqS (a b c : Int32) (x y old : Nat) : Int := (old : Int) + a.toInt * x + b.toInt * y + c.toInt
def wqV (a b c : Int32) (d x y old : Nat) : Nat := (wqS a b c x y old % ((2 ^ d : Nat) : Int)).toNat
theorem bm32 (n : Int) : ∃ q : Int, n.bmod (2 ^ 32) = n + 4294967296 * q := by
  rw [Int.bmod_def]
  split
  · exact ⟨-(n / 4294967296), by omega⟩
  · exact ⟨-(n / 4294967296) - 1, by omega⟩
theorem wqV_lt (a b c : Int32) (x y old : Nat) {d : Nat} (hd : d = 1 ∨ d = 2 ∨ d = 4 ∨ d = 8) : wqV a b c d x y old < 2 ^ d := by
  unfold wqV
  generalize wqS a b c x y old = S
  rcases hd with rfl | rfl | rfl | rfl <;> omega
theorem wq_X (a b c : Int32) {d x y old : Nat} (hd : d = 1 ∨ d = 2 ∨ d = 4 ∨ d = 8) (hx : x < 2 ^ 31) (hy : y < 2 ^ 31) (ho : old < 2 ^ 31) : (((nI old + a * nI x) + b * nI y) + c) &&& nI (2 ^ d - 1) = nI (wqV a b c d x y old) := by
  have hz : ∃ q : Int, ((((nI old + a * nI x) + b * nI y) + c) : Int32).toInt = wqS a b c x y old + 4294967296 * q := by
    obtain ⟨q1, e1⟩ := bm32 (a.toInt * x)
    obtain ⟨q2, e2⟩ := bm32 (b.toInt * y)
    obtain ⟨q3, e3⟩ := bm32 ((nI old).toInt + (a * nI x).toInt)
    obtain ⟨q4, e4⟩ := bm32 ((nI old + a * nI x).toInt + (b * nI y).toInt)
    obtain ⟨q5, e5⟩ := bm32 ((nI old + a * nI x + b * nI y).toInt + c.toInt)
    refine ⟨q1 + q2 + q3 + q4 + q5, ?_⟩
    rw [Int32.toInt_add, e5, Int32.toInt_add, e4, Int32.toInt_add, e3, Int32.toInt_mul, Int32.toInt_mul, nI_toInt hx, nI_toInt hy, nI_toInt ho, e1, e2]
    unfold wqS
    omega
  obtain ⟨q, hq⟩ := hz
  generalize (((nI old + a * nI x) + b * nI y) + c) = z at hq
  have hl := wqV_lt a b c x y old hd
  rw [← Int32.toInt_inj, nI_toInt (by rcases hd with rfl | rfl | rfl | rfl <;> omega)]
  unfold wqV at hl ⊢
  generalize wqS a b c x y old = S at hq hl ⊢
  rcases hd with rfl | rfl | rfl | rfl
  · rw [Jvm.Kit.i32_mask z _ (k := 1) (by decide) (by decide), hq]; omega
  · rw [Jvm.Kit.i32_mask z _ (k := 2) (by decide) (by decide), hq]; omega
  · rw [Jvm.Kit.i32_mask z _ (k := 4) (by decide) (by decide), hq]; omega
  · rw [Jvm.Kit.i32_mask z _ (k := 8) (by decide) (by decide), hq]; omega
theorem mul16 (a : Int32) {x : Nat} (hx : x < 16) : -34359738368 ≤ a.toInt * x ∧ a.toInt * x ≤ 34359738368 := by
  have h1 := Int32.toInt_lt a
  have h2 := Int32.le_toInt a
  have : x = 0 ∨ x = 1 ∨ x = 2 ∨ x = 3 ∨ x = 4 ∨ x = 5 ∨ x = 6 ∨ x = 7 ∨ x = 8 ∨ x = 9 ∨ x = 10 ∨ x = 11 ∨ x = 12 ∨ x = 13 ∨ x = 14 ∨ x = 15 := by omega
  rcases this with rfl | rfl | rfl | rfl | rfl | rfl | rfl | rfl | rfl | rfl | rfl | rfl | rfl | rfl | rfl | rfl <;> omega
theorem tm_e (S : Int) {n : Nat} (hn : 0 < n) : (S.tmod n + n) % n = S % n ∧ -(n : Int) < S.tmod n ∧ S.tmod n < n := by
  rw [Int.tmod_eq_emod]
  have h1 := Int.emod_nonneg S (show (n : Int) ≠ 0 by omega)
  have h2 := Int.emod_lt_of_pos S (show (0 : Int) < n by omega)
  split
  · refine ⟨?_, by omega, by omega⟩
    rw [show ((0 : Nat) : Int) = 0 from rfl, Int.sub_zero, Int.add_emod_right, Int.emod_emod_of_dvd _ (Int.dvd_refl _)]
  · next hc =>
    have h3 : S % (n : Int) ≠ 0 := fun h => hc (Or.inr (Int.dvd_of_emod_eq_zero h))
    rw [Int.natAbs_natCast, Int.sub_add_cancel, Int.emod_emod_of_dvd _ (Int.dvd_refl _)]
    exact ⟨rfl, by omega, by omega⟩
theorem wq_M (a b c : Int32) {d x y old : Nat} {v : Int64} (hd : d = 1 ∨ d = 2 ∨ d = 4 ∨ d = 8) (hx : x < 16) (hy : y < 16) (ho : old < 256) (hv : v = ((((a.toInt64 * (nI x).toInt64) + (b.toInt64 * (nI y).toInt64)) + c.toInt64) + (nI old).toInt64)) : (((v - v / lN (2 ^ d) * lN (2 ^ d)) + lN (2 ^ d)) - ((v - v / lN (2 ^ d) * lN (2 ^ d)) + lN (2 ^ d)) / lN (2 ^ d) * lN (2 ^ d)).toInt32 = nI (wqV a b c d x y old) := by
  have hS : v.toInt = wqS a b c x y old ∧ -274877906944 ≤ v.toInt ∧ v.toInt ≤ 274877906944 := by
    obtain ⟨m1, m2⟩ := mul16 a hx
    obtain ⟨m3, m4⟩ := mul16 b hy
    have c1 := Int32.toInt_lt c
    have c2 := Int32.le_toInt c
    have ex : (nI x).toInt64.toInt = x := by rw [Int32.toInt_toInt64, nI_toInt (by omega)]
    have ey : (nI y).toInt64.toInt = y := by rw [Int32.toInt_toInt64, nI_toInt (by omega)]
    have eo : (nI old).toInt64.toInt = old := by rw [Int32.toInt_toInt64, nI_toInt (by omega)]
    have p1 : (a.toInt64 * (nI x).toInt64).toInt = a.toInt * x := by
      rw [Jvm.Kit.i64_mul (by rw [Int32.toInt_toInt64, ex]; omega) (by rw [Int32.toInt_toInt64, ex]; omega), Int32.toInt_toInt64, ex]
    have p2 : (b.toInt64 * (nI y).toInt64).toInt = b.toInt * y := by
      rw [Jvm.Kit.i64_mul (by rw [Int32.toInt_toInt64, ey]; omega) (by rw [Int32.toInt_toInt64, ey]; omega), Int32.toInt_toInt64, ey]
    have p3 : (a.toInt64 * (nI x).toInt64 + b.toInt64 * (nI y).toInt64).toInt = a.toInt * x + b.toInt * y := by
      rw [Jvm.Kit.i64_add (by rw [p1, p2]; omega) (by rw [p1, p2]; omega), p1, p2]
    have p4 : (a.toInt64 * (nI x).toInt64 + b.toInt64 * (nI y).toInt64 + c.toInt64).toInt = a.toInt * x + b.toInt * y + c.toInt := by
      rw [Jvm.Kit.i64_add (by rw [p3, Int32.toInt_toInt64]; omega) (by rw [p3, Int32.toInt_toInt64]; omega), p3, Int32.toInt_toInt64]
    have p5 : v.toInt = a.toInt * x + b.toInt * y + c.toInt + old := by
      rw [hv, Jvm.Kit.i64_add (by rw [p4, eo]; omega) (by rw [p4, eo]; omega), p4, eo]
    refine ⟨?_, by omega, by omega⟩
    rw [p5]
    unfold wqS
    omega
  obtain ⟨hS, -, -⟩ := hS
  have h2 : 0 < 2 ^ d ∧ 2 ^ d ≤ 256 := by rcases hd with rfl | rfl | rfl | rfl <;> omega
  have hl := wqV_lt a b c x y old hd
  unfold wqV at hl ⊢
  rw [← hS] at hl ⊢
  generalize 2 ^ d = n at h2 hl ⊢
  have en : (lN n).toInt = (n : Int) := pk_lT (by omega)
  obtain ⟨t1, t2, t3⟩ := tm_e v.toInt h2.1
  have r1 : (v - v / lN n * lN n).toInt = v.toInt.tmod n := by rw [Jvm.Kit.i64_rem, en]
  have r2 : ((v - v / lN n * lN n) + lN n).toInt = v.toInt.tmod n + n := by
    rw [Jvm.Kit.i64_add (by rw [r1, en]; omega) (by rw [r1, en]; omega), r1, en]
  have r3 : (((v - v / lN n * lN n) + lN n) - ((v - v / lN n * lN n) + lN n) / lN n * lN n).toInt = v.toInt % n := by
    rw [Jvm.Kit.i64_rem_nonneg (by rw [r2]; omega), r2, en, t1]
  have b1 := Int.emod_nonneg v.toInt (show (n : Int) ≠ 0 by omega)
  have b2 := Int.emod_lt_of_pos v.toInt (show (0 : Int) < n by omega)
  rw [← Int32.toInt_inj, nI_toInt (by omega), Jvm.Kit.i32_of_i64 (by rw [r3]; omega) (by rw [r3]; omega), r3]
  omega
/-- row y is washed up to column i, and the rows ahead of it wholly -/
def wqI (w h : Nat) (F s : Nat → Nat → Nat) (y i : Nat) (f : Nat → Int32) : Prop := ∀ y' x', y' < h → x' < w → f (16 * y' + x') = nI (if y' < y ∨ (y' = y ∧ x' < i) then F y' x' else s y' x')
theorem wqI.step {w h : Nat} {F s : Nat → Nat → Nat} {y i : Nat} {f : Nat → Int32} (hw : w ≤ 16) (hiw : i < w) (hi : wqI w h F s y i f) : wqI w h F s y (i + 1) (upd f (16 * y + i) (nI (F y i))) := by
  intro y' x' hy hx
  rw [upd_at]
  by_cases hc : 16 * y' + x' = 16 * y + i
  · have e1 : y' = y := by omega
    have e2 : x' = i := by omega
    rw [if_pos hc, if_pos (by omega), e1, e2]
  · rw [if_neg hc, hi y' x' hy hx]
    by_cases hq : y' < y ∨ (y' = y ∧ x' < i)
    · rw [if_pos hq, if_pos (by omega)]
    · rw [if_neg hq, if_neg (by omega)]
theorem wqI.row {w h : Nat} {F s : Nat → Nat → Nat} {y : Nat} {f : Nat → Int32} (hi : wqI w h F s y w f) : wqI w h F s (y + 1) 0 f := by
  intro y' x' hy hx
  rw [hi y' x' hy hx]
  by_cases hq : y' < y ∨ (y' = y ∧ x' < w)
  · rw [if_pos hq, if_pos (by omega)]
  · rw [if_neg hq, if_neg (by omega)]
theorem p_X_wash {post : (Nat → Int32) → Prop} {I f : Nat → Int32} {w h d : Nat} {s : Nat → Nat → Nat} {a b c : Int32} (e1 : I 1 = nI w) (e2 : I 2 = nI h) (e3 : I 3 = nI d) (hd : d = 1 ∨ d = 2 ∨ d = 4 ∨ d = 8) (hw : w ≤ 16) (hh : h ≤ 16) (hs : ∀ y x, y < h → x < w → s y x < 2 ^ d ∧ f (16 * y + x) = nI (s y x)) (hp : ∀ f' : Nat → Int32, (∀ y x, y < h → x < w → f' (16 * y + x) = nI (wqV a b c d x y (s y x))) → post f') : wp_X_wash post I f a b c := by
  unfold wp_X_wash
  have inner : ∀ (K : (Nat → Int32) → Int32 → Int32 → Int32 → Int32 → Prop) (y : Nat), y < h → (∀ f' : Nat → Int32, wqI w h (fun y x => wqV a b c d x y (s y x)) s y w f' → K f' a b c (nI (y + 1))) → ∀ (m i : Nat) (f : Nat → Int32), i + m = w → wqI w h (fun y x => wqV a b c d x y (s y x)) s y i f → wp_X_wash_l18 post K I (m + 1) f a b c (nI y) (nI i) := by
    intro K y hy hK m
    induction m with
    | zero =>
      intro i f hi hI
      have : i = w := by omega
      subst this
      unfold wp_X_wash_l18
      rw [e1, nI_1]
      exact br_t (nI_le (by omega) (by omega)) (hK f hI)
    | succ m ih =>
      intro i f hi hI
      unfold wp_X_wash_l18
      rw [e1, nI_1]
      refine br_f (nI_ge (by omega) (by omega)) ?_
      refine p_Pi_get e1 e2 hw hh (by omega) hy ?_
      have hc := hI y i hy (by omega)
      rw [if_neg (by omega)] at hc
      have hlt := (hs y i hy (by omega)).1
      have h2 : 2 ^ d ≤ 256 := by rcases hd with rfl | rfl | rfl | rfl <;> omega
      rw [hc]
      refine p_Pi_put e1 e2 e3 hd hw hh (by omega) hy ?_
      rw [wq_X a b c hd (by omega) (by omega) (by omega), nI_1]
      exact ih (i + 1) _ (by omega) (wqI.step hw (by omega) hI)
  have outer : ∀ (m y : Nat) (f : Nat → Int32), y + m = h → wqI w h (fun y x => wqV a b c d x y (s y x)) s y 0 f → wp_X_wash_l3 post I (m + 1) f a b c (nI y) := by
    intro m
    induction m with
    | zero =>
      intro y f hy hI
      have : y = h := by omega
      subst this
      unfold wp_X_wash_l3
      rw [e2]
      refine br_t (nI_le (by omega) (by omega)) (hp f (fun y' x' q1 q2 => ?_))
      rw [hI y' x' q1 q2, if_pos (by omega)]
    | succ m ih =>
      intro y f hy hI
      unfold wp_X_wash_l3
      rw [e2]
      refine br_f (nI_ge (by omega) (by omega)) ⟨w + 1, ?_⟩
      exact inner _ y (by omega) (fun f' h' => ih (y + 1) f' (by omega) h'.row) w 0 f (by omega) hI
  refine ⟨h + 1, outer h 0 f (by omega) (fun y' x' q1 q2 => ?_)⟩
  rw [if_neg (by omega)]
  exact (hs y' x' q1 q2).2
theorem sh64 {d : Nat} (hd : d = 1 ∨ d = 2 ∨ d = 4 ∨ d = 8) : ((1 : Int64) <<< ((nI d).toInt64 &&& 63)) = lN (2 ^ d) := by
  rcases hd with rfl | rfl | rfl | rfl <;> decide
theorem p_M_wash {post : (Nat → Int32) → Prop} {J g : Nat → Int32} {w h d : Nat} {s : Nat → Nat → Nat} {a b c : Int32} (e1 : J 3 = nI w) (e2 : J 4 = nI h) (e3 : J 5 = nI d) (hd : d = 1 ∨ d = 2 ∨ d = 4 ∨ d = 8) (hw : w ≤ 16) (hh : h ≤ 16) (hs : ∀ y x, y < h → x < w → s y x < 2 ^ d ∧ g (16 * y + x) = nI (s y x)) (hp : ∀ f' : Nat → Int32, (∀ y x, y < h → x < w → f' (16 * y + x) = nI (wqV a b c d x y (s y x))) → post f') : wp_M_wash post J g a b c := by
  unfold wp_M_wash
  rw [e3, sh64 hd]
  have h2 : 0 < 2 ^ d ∧ 2 ^ d ≤ 256 := by rcases hd with rfl | rfl | rfl | rfl <;> omega
  have hne : ¬ lN (2 ^ d) = 0 := fun q => by
    have := (pk_lEQ (a := 2 ^ d) (b := 0) (by omega) (by decide)).mp q
    omega
  have inner : ∀ (K : (Nat → Int32) → Int32 → Int32 → Int32 → Int64 → Int32 → Prop) (y : Nat), y < h → (∀ f' : Nat → Int32, wqI w h (fun y x => wqV a b c d x y (s y x)) s y w f' → K f' a b c (lN (2 ^ d)) (nI (y + 1))) → ∀ (m i : Nat) (f : Nat → Int32), i + m = w → wqI w h (fun y x => wqV a b c d x y (s y x)) s y i f → wp_M_wash_l23 post K J (m + 1) f a b c (lN (2 ^ d)) (nI y) (nI i) := by
    intro K y hy hK m
    induction m with
    | zero =>
      intro i f hi hI
      have : i = w := by omega
      subst this
      unfold wp_M_wash_l23
      rw [e1, nI_1]
      exact br_t (nI_le (by omega) (by omega)) (hK f hI)
    | succ m ih =>
      intro i f hi hI
      unfold wp_M_wash_l23
      rw [e1, show (16 : Int32) = nI 16 from rfl, pk_mul, nI_add, nI_clamp (by omega)]
      have hv : vp_in (nI (16 * y + i)) 256 := vp_in_nI (by omega) (by decide)
      have hc := hI y i hy (by omega)
      rw [if_neg (by omega)] at hc
      have hlt := (hs y i hy (by omega)).1
      refine br_f (nI_ge (by omega) (by omega)) ⟨hv, fun v ev => ⟨hne, hne, hv, ?_⟩⟩
      rw [hc] at ev
      rw [wq_M a b c hd (by omega) (by omega) (by omega) ev, nI_1]
      exact ih (i + 1) _ (by omega) (wqI.step hw (by omega) hI)
  have outer : ∀ (m y : Nat) (f : Nat → Int32), y + m = h → wqI w h (fun y x => wqV a b c d x y (s y x)) s y 0 f → wp_M_wash_l11 post J (m + 1) f a b c (lN (2 ^ d)) (nI y) := by
    intro m
    induction m with
    | zero =>
      intro y f hy hI
      have : y = h := by omega
      subst this
      unfold wp_M_wash_l11
      rw [e2]
      refine br_t (nI_le (by omega) (by omega)) (hp f (fun y' x' q1 q2 => ?_))
      rw [hI y' x' q1 q2, if_pos (by omega)]
    | succ m ih =>
      intro y f hy hI
      unfold wp_M_wash_l11
      rw [e2]
      refine br_f (nI_ge (by omega) (by omega)) ⟨w + 1, ?_⟩
      exact inner _ y (by omega) (fun f' h' => ih (y + 1) f' (by omega) h'.row) w 0 f (by omega) hI
  refine ⟨h + 1, outer h 0 g (by omega) (fun y' x' q1 q2 => ?_)⟩
  rw [if_neg (by omega)]
  exact (hs y' x' q1 q2).2
theorem q_wash {w h d : Nat} {s : Nat → Nat → Nat} {I f J g : Nat → Int32} (hr : RP w h d s I f J g) (a b c : Int32) {Wr : Prop → Prop} {K : (Nat → Int32) → (Nat → Int32) → Prop} (hP : ∀ D : Prop, D → Wr D) (k : ∀ (s' : Nat → Nat → Nat) (f' g' : Nat → Int32), RP w h d s' I f' J g' → K f' g') : wp_X_wash (fun f' => Wr (wp_M_wash (fun g' => K f' g') J g a b c)) I f a b c := by
  obtain ⟨⟨e1, e2, e3, e4, e5, e6⟩, ⟨b1, b2, b3, b4, b5⟩, hs⟩ := hr
  refine p_X_wash e1 e3 e5 b5 b2 b4 (fun y x hy hx => ⟨(hs y x hy hx).1, (hs y x hy hx).2.1⟩) (fun f' hf => hP _ (p_M_wash e2 e4 e6 b5 b2 b4 (fun y x hy hx => ⟨(hs y x hy hx).1, (hs y x hy hx).2.2⟩) (fun g' hg => ?_)))
  exact k _ _ _ ⟨⟨e1, e2, e3, e4, e5, e6⟩, ⟨b1, b2, b3, b4, b5⟩, fun y x hy hx => ⟨wqV_lt a b c x y (s y x) b5, hf y x hy hx, hg y x hy hx⟩⟩
