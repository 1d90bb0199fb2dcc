/-! write: the samples packed into bytes -/
theorem nI_or (a b : Nat) : nI a ||| nI b = nI (a ||| b) := by
  apply Int32.toBitVec_inj.mp
  rw [Int32.toBitVec_or]
  show BitVec.ofNat 32 a ||| BitVec.ofNat 32 b = BitVec.ofNat 32 (a ||| b)
  exact (BitVec.ofNat_or).symm
theorem or_add {a c m : Nat} (h : a % 2 ^ m = 0) (hc : c < 2 ^ m) : a ||| c = a + c := by
  have h1 : a = 2 ^ m * (a / 2 ^ m) := by
    have := Nat.div_add_mod a (2 ^ m)
    omega
  rw [h1]
  exact (Nat.two_pow_add_eq_or_of_lt hc _).symm
theorem shlN {v : Nat} (k : Nat) (hk : k < 32) (h : v * 2 ^ k < 2 ^ 32) : nI v <<< (nI k &&& 31) = nI (v * 2 ^ k) :=
  pk_shlN _ k ((by decide : ∀ n, n < 32 → ((nI n &&& 31).toBitVec.smod 32).toNat = n) k hk) h
def pkV (s : Nat → Nat → Nat) (d pr y x : Nat) : Nat := if pr = 2 ∧ 0 < x then (s y x + 2 ^ d - s y (x - 1)) % 2 ^ d else s y x
def pkR (s : Nat → Nat → Nat) (d pr y : Nat) : Nat → Nat → Nat
  | 0, _ => 0
  | x + 1, i => if i = x * d / 8 then pkR s d pr y x i + pkV s d pr y x * 2 ^ (8 - d - x * d % 8) else pkR s d pr y x i
theorem pk_step {d r A v : Nat} (hd : dpO d) (hr : r + d ≤ 8) (hA : A < 256) (hm : A % 2 ^ (8 - r) = 0) (hv : v < 2 ^ d) (hdr : r % d = 0) : A + v * 2 ^ (8 - d - r) < 256 ∧ (r + d < 8 → (A + v * 2 ^ (8 - d - r)) % 2 ^ (8 - (r + d)) = 0) ∧ v * 2 ^ (8 - d - r) < 2 ^ (8 - r) := by
  have h8 : r = 0 ∨ r = 1 ∨ r = 2 ∨ r = 3 ∨ r = 4 ∨ r = 5 ∨ r = 6 ∨ r = 7 := by rcases hd with rfl | rfl | rfl | rfl <;> omega
  rcases hd with rfl | rfl | rfl | rfl <;> rcases h8 with rfl | rfl | rfl | rfl | rfl | rfl | rfl | rfl <;> simp only [Nat.reduceSub, Nat.reducePow, Nat.reduceAdd, Nat.reduceMod] at * <;> omega
theorem pkV_lt {s : Nat → Nat → Nat} {d pr y x w : Nat} (hs : ∀ x, x < w → s y x < 2 ^ d) (hx : x < w) : pkV s d pr y x < 2 ^ d := by
  unfold pkV
  split
  · exact Nat.mod_lt _ (Nat.two_pow_pos d)
  · exact hs x hx
theorem geoX {d x : Nat} (hd : dpO d) : x * d % 8 + d ≤ 8 ∧ x * d % 8 % d = 0 ∧ (x * d % 8 + d < 8 → (x + 1) * d / 8 = x * d / 8 ∧ (x + 1) * d % 8 = x * d % 8 + d) ∧ (¬ x * d % 8 + d < 8 → (x + 1) * d / 8 = x * d / 8 + 1 ∧ (x + 1) * d % 8 = 0) := by
  rcases hd with rfl | rfl | rfl | rfl <;> omega
theorem pkR_ok {s : Nat → Nat → Nat} {d pr y w : Nat} (hd : dpO d) (hs : ∀ x, x < w → s y x < 2 ^ d) : ∀ x, x ≤ w → (∀ i, pkR s d pr y x i < 256) ∧ (∀ i, x * d / 8 < i → pkR s d pr y x i = 0) ∧ pkR s d pr y x (x * d / 8) % 2 ^ (8 - x * d % 8) = 0 := by
  intro x
  induction x with
  | zero => intro _; exact ⟨fun i => by simp only [pkR]; omega, fun i _ => rfl, by simp only [pkR]; exact Nat.zero_mod _⟩
  | succ x ih =>
    intro hx
    obtain ⟨i1, i2, i3⟩ := ih (by omega)
    have hv := pkV_lt (pr := pr) hs (x := x) (by omega)
    obtain ⟨g1, g2, g3, g4⟩ := geoX (x := x) hd
    obtain ⟨p1, p2, p3⟩ := pk_step hd g1 (i1 (x * d / 8)) i3 hv g2
    refine ⟨fun i => ?_, fun i hi => ?_, ?_⟩
    · simp only [pkR]
      split
      · next q => rw [q]; exact p1
      · exact i1 i
    · have hi2 : x * d / 8 < i := by
        by_cases q : x * d % 8 + d < 8
        · rw [(g3 q).1] at hi; exact hi
        · rw [(g4 q).1] at hi; omega
      simp only [pkR]
      rw [if_neg (by omega)]
      exact i2 i hi2
    · by_cases q : x * d % 8 + d < 8
      · rw [(g3 q).1, (g3 q).2]
        simp only [pkR, if_true]
        exact p2 q
      · rw [(g4 q).1, (g4 q).2]
        simp only [pkR]
        rw [if_neg (by omega), i2 _ (by omega)]
/-- the bytes when yy rows from y0 on, and x samples of the next, are packed -/
def pkG (s : Nat → Nat → Nat) (d pr w rb y0 yy x j : Nat) : Nat := if j / rb < yy then pkR s d pr (y0 + j / rb) w (j % rb) else if j / rb = yy then pkR s d pr (y0 + yy) x (j % rb) else 0
theorem pkG_0 {s : Nat → Nat → Nat} {d pr w rb y0 j : Nat} : pkG s d pr w rb y0 0 0 j = 0 := by
  unfold pkG
  rw [if_neg (Nat.not_lt_zero _)]
  split <;> rfl
theorem pkG_row {s : Nat → Nat → Nat} {d pr w rb y0 yy j : Nat} : pkG s d pr w rb y0 yy w j = pkG s d pr w rb y0 (yy + 1) 0 j := by
  unfold pkG
  by_cases q : j / rb < yy
  · rw [if_pos q, if_pos (by omega)]
  · rw [if_neg q]
    by_cases q2 : j / rb = yy
    · rw [if_pos q2, if_pos (by omega), q2]
    · rw [if_neg q2, if_neg (by omega)]
      split <;> rfl
theorem ix_dm {rb yy i : Nat} (hi : i < rb) : (yy * rb + i) / rb = yy ∧ (yy * rb + i) % rb = i := by
  rw [Nat.mul_comm]
  constructor
  · rw [Nat.mul_add_div (by omega), Nat.div_eq_of_lt hi, Nat.add_zero]
  · rw [Nat.mul_add_mod, Nat.mod_eq_of_lt hi]
theorem pkG_step {s : Nat → Nat → Nat} {d pr w rb y0 yy x j : Nat} (hi : x * d / 8 < rb) : pkG s d pr w rb y0 yy (x + 1) j = if j = yy * rb + x * d / 8 then pkG s d pr w rb y0 yy x j + pkV s d pr (y0 + yy) x * 2 ^ (8 - d - x * d % 8) else pkG s d pr w rb y0 yy x j := by
  obtain ⟨e1, e2⟩ := ix_dm (yy := yy) hi
  unfold pkG
  by_cases q : j = yy * rb + x * d / 8
  · rw [if_pos q, q, e1, e2, if_neg (by omega), if_pos rfl, if_neg (by omega), if_pos rfl]
    simp only [pkR, if_true]
  · rw [if_neg q]
    by_cases q1 : j / rb < yy
    · rw [if_pos q1, if_pos q1]
    · rw [if_neg q1, if_neg q1]
      by_cases q2 : j / rb = yy
      · rw [if_pos q2, if_pos q2]
        simp only [pkR]
        rw [if_neg]
        intro z
        apply q
        have := Nat.div_add_mod j rb
        rw [q2, z, Nat.mul_comm] at this
        exact this.symm
      · rw [if_neg q2, if_neg q2]
theorem pkG_at {s : Nat → Nat → Nat} {d pr w rb y0 yy x : Nat} (hi : x * d / 8 < rb) : pkG s d pr w rb y0 yy x (yy * rb + x * d / 8) = pkR s d pr (y0 + yy) x (x * d / 8) := by
  obtain ⟨e1, e2⟩ := ix_dm (yy := yy) hi
  unfold pkG
  rw [e1, e2, if_neg (by omega), if_pos rfl]
theorem sub_and {a b d : Nat} (hd : dpO d) (ha : a < 2 ^ d) (hb : b < 2 ^ d) : (nI a - nI b) &&& nI (2 ^ d - 1) = nI ((a + 2 ^ d - b) % 2 ^ d) := by
  have e : nI a - nI b = nI (a + 2 ^ 32 - b) := by
    have h1 := nI_add (a + 2 ^ 32 - b) b
    have hpd := pow_d hd
    rw [show a + 2 ^ 32 - b + b = a + 2 ^ 32 by omega, ← nI_add a, show nI (2 ^ 32) = 0 by decide, Int32.add_zero] at h1
    rw [← h1, Int32.add_sub_cancel]
  have hpd := pow_d hd
  by_cases q : b ≤ a
  · rw [pk_sub q, and_d hd (by omega)]
    congr 1
    rcases hd with rfl | rfl | rfl | rfl <;> omega
  · rw [e, and_d hd (by omega)]
    congr 1
    rcases hd with rfl | rfl | rfl | rfl <;> omega
theorem sub_fix {a b d : Nat} (h : a < b) (hb : b < 2 ^ d) : nI a - nI b + nI (2 ^ d) = nI ((a + 2 ^ d - b) % 2 ^ d) := by
  rw [Int32.sub_eq_add_neg, Int32.add_assoc, Int32.add_comm (-nI b), ← Int32.add_assoc, ← Int32.sub_eq_add_neg, nI_add, pk_sub (by omega), Nat.mod_eq_of_lt (by omega)]
theorem p_pack {post : (Nat → Int32) → Prop} {IPi fS IY f : Nat → Int32} {w h d mt ec pr : Nat} {s : Nat → Nat → Nat} (e1 : IPi 1 = nI w) (e2 : IPi 2 = nI h) (e3 : IPi 3 = nI d) (hl : lyX w h d mt ec pr IY) (hw : w ≤ 16) (hh : h ≤ 16) (hd : dpO d) (hpr : pr = 1 ∨ pr = 2) (hs : ∀ y x, y < h → x < w → s y x < 2 ^ d ∧ fS (16 * y + x) = nI (s y x)) (hp : ∀ f', (∀ j, j < 256 → f' j = nI (pkG s d pr w (rbN w d) 0 h 0 j)) → post f') : wp_Da_pack post IPi fS IY f := by
  have hrb := rbN_le hd hw
  have hpd := pow_d hd
  unfold wp_Da_pack
  have row : ∀ (K : (Nat → Int32) → Int32 → Prop) (y : Nat), y < h → (∀ f', (∀ j, j < 256 → f' j = nI (pkG s d pr w (rbN w d) 0 (y + 1) 0 j)) → K f' (nI (y + 1))) → ∀ (m x : Nat) (f' : Nat → Int32), x + m = w → (∀ j, j < 256 → f' j = nI (pkG s d pr w (rbN w d) 0 y x j)) → wp_Da_pack_l21 post K IPi fS IY (m + 1) f' (nI y) (nI x) := by
    intro K y hy hK m
    induction m with
    | zero =>
      intro x f' hx hf
      unfold wp_Da_pack_l21
      rw [hl.1, nI_1]
      have : x = w := by omega
      subst this
      exact br_t (nI_le (by omega) (by omega)) (hK f' (fun j hj => by rw [hf j hj, pkG_row]))
    | succ m ih =>
      intro x f' hx hf
      unfold wp_Da_pack_l21
      obtain ⟨g1, g2, g3, g4, g5⟩ := geoS (x := x) hd hw (by omega)
      have hsx := hs y x hy (by omega)
      rw [hl.1, hl.2.2.2.2.2]
      refine br_f (nI_ge (by omega) (by omega)) (p_Pi_get e1 e2 hw hh (by omega) hy ?_)
      rw [hsx.2]
      have put : ∀ v : Nat, v = pkV s d pr y x → wp_Da_pack_b71 post K (wp_Da_pack_l21 post K IPi fS IY (m + 1)) IPi fS IY f' (nI y) (nI x) (nI v) := by
        intro v ev
        unfold wp_Da_pack_b71
        refine p_bytesARow hl.1 hl.2.2.1 hd hw ?_
        have hy2 := row_in (rb := rbN w d) hy
        have hrr : h * rbN w d ≤ 16 * 16 := Nat.mul_le_mul hh hrb
        have hv : v < 2 ^ d := ev ▸ pkV_lt (w := w) (fun x hx => (hs y x hy hx).1) (by omega)
        rw [hl.2.2.1, pk_mul, pk_mul, show (8 : Int32) = nI 8 from rfl, pk_rem (by omega) (by decide) (by decide), pk_div (by omega) (by decide) (by decide), nI_add, pk_sub (by omega), pk_sub (by omega), nI_clamp (by omega), hf _ (by omega), pkG_at g1, Nat.zero_add]
        obtain ⟨i1, i2, i3⟩ := pkR_ok (pr := pr) (y := y) hd (fun x hx => (hs y x hy hx).1) x (by omega)
        obtain ⟨q1, q2, q3, q4⟩ := geoX (x := x) hd
        obtain ⟨p1, p2, p3⟩ := pk_step hd q1 (i1 (x * d / 8)) i3 hv q2
        refine ⟨vp_in_nI (by omega) (by decide), fun z hz => ⟨vp_in_nI (by omega) (by decide), ?_⟩⟩
        rw [shlN _ (by omega) (by omega), nI_or, or_add i3 p3] at hz
        subst hz
        rw [nI_1]
        refine ih (x + 1) _ (by omega) (fun j hj => ?_)
        rw [upd_at, pkG_step g1]
        by_cases y1 : j = y * rbN w d + x * d / 8
        · rw [if_pos y1, if_pos y1, y1, pkG_at g1, Nat.zero_add, ev]
        · rw [if_neg y1, if_neg y1]; exact hf j hj
      refine pk_eq pr 2 (fun q => pk_le x 0 (fun q2 => put _ ?_) (fun q2 => ?_)) (fun q => put _ ?_)
      · unfold pkV
        rw [if_neg (by omega)]
      · rw [show (1 : Int32) = nI 1 from rfl, pk_sub (by omega)]
        refine p_Pi_get e1 e2 hw hh (by omega) hy ?_
        have hsx1 := hs y (x - 1) hy (by omega)
        unfold wp_Pi_greatest
        rw [e3, (gr_d hd).2, hsx1.2]
        show wp_Da_pack_b71 post K (wp_Da_pack_l21 post K IPi fS IY (m + 1)) IPi fS IY f' (nI y) (nI x) ((nI (s y x) - nI (s y (x - 1))) &&& nI (2 ^ d - 1))
        rw [sub_and hd hsx.1 hsx1.1]
        refine put _ ?_
        unfold pkV
        rw [if_pos (by omega)]
      · unfold pkV
        rw [if_neg (by omega)]
  have key : ∀ (m y : Nat) (f' : Nat → Int32), y + m = h → (∀ j, j < 256 → f' j = nI (pkG s d pr w (rbN w d) 0 y 0 j)) → wp_Da_pack_l10 post IPi fS IY (m + 1) f' (nI y) := by
    intro m
    induction m with
    | zero =>
      intro y f' hy hf
      unfold wp_Da_pack_l10
      rw [hl.2.1]
      have : y = h := by omega
      subst this
      exact br_t (nI_le (by omega) (by omega)) (hp _ hf)
    | succ m ih =>
      intro y f' hy hf
      unfold wp_Da_pack_l10
      rw [hl.2.1]
      exact br_f (nI_ge (by omega) (by omega)) ⟨w + 1, row _ y (by omega) (fun f'' h'' => ih (y + 1) f'' (by omega) h'') w 0 f' (by omega) hf⟩
  refine p_J_fill (fun f0 hf0 => ⟨h + 1, key h 0 f0 (by omega) (fun j hj => ?_)⟩)
  rw [hf0 j hj, pkG_0]
  rfl
theorem p_gather {post : (Nat → Int32) → Prop} {J gS f : Nat → Int32} {w h d pr y0 y1 : Nat} {s : Nat → Nat → Nat} (e1 : J 3 = nI w) (e3 : J 5 = nI d) (hw : w ≤ 16) (hh : h ≤ 16) (hd : dpO d) (hpr : pr = 1 ∨ pr = 2) (h01 : y0 ≤ y1) (h1h : y1 ≤ h) (hs : ∀ y x, y < h → x < w → s y x < 2 ^ d ∧ gS (16 * y + x) = nI (s y x)) (hp : ∀ f', (∀ j, j < 256 → f' j = nI (pkG s d pr w (rbN w d) y0 (y1 - y0) 0 j)) → post f') : wp_M_gather post J gS f (nI y0) (nI y1) (nI pr) := by
  have hrb := rbN_le hd hw
  have hpd := pow_d hd
  unfold wp_M_gather
  rw [e1, e3]
  refine p_M_rowBytes hd hw ?_
  have row : ∀ (K : (Nat → Int32) → Int32 → Int32 → Int32 → Int32 → Int32 → Prop) (yy : Nat), y0 + yy < y1 → (∀ f', (∀ j, j < 256 → f' j = nI (pkG s d pr w (rbN w d) y0 (yy + 1) 0 j)) → K f' (nI y0) (nI y1) (nI pr) (nI (rbN w d)) (nI (y0 + yy + 1))) → ∀ (m x : Nat) (f' : Nat → Int32), x + m = w → (∀ j, j < 256 → f' j = nI (pkG s d pr w (rbN w d) y0 yy x j)) → wp_M_gather_l50 post K J gS (m + 1) f' (nI y0) (nI y1) (nI pr) (nI (rbN w d)) (nI (y0 + yy)) (nI x) := by
    intro K yy hy hK m
    induction m with
    | zero =>
      intro x f' hx hf
      unfold wp_M_gather_l50
      rw [e1, nI_1 (y0 + yy)]
      have : x = w := by omega
      subst this
      exact br_t (nI_le (by omega) (by omega)) (hK f' (fun j hj => by rw [hf j hj, pkG_row]))
    | succ m ih =>
      intro x f' hx hf
      unfold wp_M_gather_l50
      obtain ⟨g1, g2, g3, g4, g5⟩ := geoS (x := x) hd hw (by omega)
      have hsx := hs (y0 + yy) x (by omega) (by omega)
      rw [e1, show (16 : Int32) = nI 16 from rfl, pk_mul, nI_add (16 * (y0 + yy)) x, nI_clamp (n := 16 * (y0 + yy) + x) (by omega), hsx.2]
      refine br_f (nI_ge (by omega) (by omega)) ⟨vp_in_nI (by omega) (by decide), ?_⟩
      have put : ∀ v : Nat, v = pkV s d pr (y0 + yy) x → wp_M_gather_b125 post K (wp_M_gather_l50 post K J gS (m + 1)) J gS f' (nI y0) (nI y1) (nI pr) (nI (rbN w d)) (nI (y0 + yy)) (nI x) (nI v) := by
        intro v ev
        unfold wp_M_gather_b125
        have hy2 := row_in (rb := rbN w d) (y := yy) (rs := y1 - y0) (by omega)
        have hrr : (y1 - y0) * rbN w d ≤ 16 * 16 := Nat.mul_le_mul (by omega) hrb
        have hv : v < 2 ^ d := ev ▸ pkV_lt (w := w) (fun x hx => (hs (y0 + yy) x (by omega) hx).1) (by omega)
        rw [e3, pk_sub (a := y0 + yy) (by omega), show y0 + yy - y0 = yy by omega, pk_mul, pk_mul, show (8 : Int32) = nI 8 from rfl, pk_rem (by omega) (by decide) (by decide), pk_div (by omega) (by decide) (by decide), nI_add, pk_sub (by omega), pk_sub (by omega), nI_clamp (by omega), hf _ (by omega), pkG_at g1]
        obtain ⟨i1, i2, i3⟩ := pkR_ok (pr := pr) (y := y0 + yy) hd (fun x hx => (hs (y0 + yy) x (by omega) hx).1) x (by omega)
        obtain ⟨q1, q2, q3, q4⟩ := geoX (x := x) hd
        obtain ⟨p1, p2, p3⟩ := pk_step hd q1 (i1 (x * d / 8)) i3 hv q2
        refine ⟨vp_in_nI (by omega) (by decide), fun z hz => ⟨vp_in_nI (by omega) (by decide), ?_⟩⟩
        rw [shlN _ (by omega) (by omega), nI_add] at hz
        subst hz
        rw [nI_1]
        refine ih (x + 1) _ (by omega) (fun j hj => ?_)
        rw [upd_at, pkG_step g1]
        by_cases z1 : j = yy * rbN w d + x * d / 8
        · rw [if_pos z1, if_pos z1, z1, pkG_at g1, ev]
        · rw [if_neg z1, if_neg z1]; exact hf j hj
      refine pk_eq pr 2 (fun q => pk_le x 0 (fun q2 => put _ ?_) (fun q2 => ?_)) (fun q => put _ ?_)
      · unfold pkV
        rw [if_neg (by omega)]
      · have hsx1 := hs (y0 + yy) (x - 1) (by omega) (by omega)
        rw [show (1 : Int32) = nI 1 from rfl, pk_sub (a := 16 * (y0 + yy) + x) (by omega), show 16 * (y0 + yy) + x - 1 = 16 * (y0 + yy) + (x - 1) by omega, nI_clamp (by omega), hsx1.2, e3, show nI 1 = (1 : Int32) from rfl, (gr_d hd).1]
        unfold wp_M_gather_b123
        refine ⟨vp_in_nI (by omega) (by decide), fun v hv => ?_⟩
        subst hv
        by_cases hab : s (y0 + yy) (x - 1) ≤ s (y0 + yy) x
        · rw [pk_sub hab]
          refine br_t (nI_pos' (by omega)) (put _ ?_)
          unfold pkV
          rw [if_pos (by omega)]
          have z1 := hsx.1
          have z2 := hsx1.1
          rw [show s (y0 + yy) x + 2 ^ d - s (y0 + yy) (x - 1) = s (y0 + yy) x - s (y0 + yy) (x - 1) + 2 ^ d by omega, Nat.add_mod_right, Nat.mod_eq_of_lt (by omega)]
        · have hneg : nI (s (y0 + yy) x) - nI (s (y0 + yy) (x - 1)) < 0 := pk_sneg (by omega) (by omega)
          refine br_f (fun z => absurd hneg (Int32.not_lt.mpr z)) ?_
          rw [sub_fix (by omega) hsx1.1]
          refine put _ ?_
          unfold pkV
          rw [if_pos (by omega)]
      · unfold pkV
        rw [if_neg (by omega)]
  have key : ∀ (m yy : Nat) (f' : Nat → Int32), yy + m = y1 - y0 → (∀ j, j < 256 → f' j = nI (pkG s d pr w (rbN w d) y0 yy 0 j)) → wp_M_gather_l41 post J gS (m + 1) f' (nI y0) (nI y1) (nI pr) (nI (rbN w d)) (nI (y0 + yy)) := by
    intro m
    induction m with
    | zero =>
      intro yy f' hy hf
      unfold wp_M_gather_l41
      have : yy = y1 - y0 := by omega
      subst this
      exact br_t (nI_le (by omega) (by omega)) (hp _ hf)
    | succ m ih =>
      intro yy f' hy hf
      unfold wp_M_gather_l41
      exact br_f (nI_ge (by omega) (by omega)) ⟨w + 1, row _ yy (by omega) (fun f'' h'' => ih (yy + 1) f'' (by omega) h'') w 0 f' (by omega) hf⟩
  have zero : ∀ (m k : Nat) (f' : Nat → Int32), k + m = 256 → (∀ j, j < k → f' j = 0) → wp_M_gather_l16 post J gS (m + 1) f' (nI y0) (nI y1) (nI pr) (nI (rbN w d)) (nI k) := by
    intro m
    induction m with
    | zero =>
      intro k f' hk hf
      unfold wp_M_gather_l16
      have : k = 256 := by omega
      subst this
      refine br_t (by decide) ⟨y1 - y0 + 1, key (y1 - y0) 0 f' (by omega) (fun j hj => ?_)⟩
      rw [hf j hj, pkG_0]
      rfl
    | succ m ih =>
      intro k f' hk hf
      unfold wp_M_gather_l16
      rw [nI_clamp (n := k) (by omega), nI_1]
      refine br_f (nI_ge (b := 256) (by omega) (by decide)) ⟨vp_in_nI (by omega) (by decide), ih (k + 1) _ (by omega) (fun j hj => ?_)⟩
      rw [upd_at]
      by_cases q : j = k
      · rw [if_pos q]
      · rw [if_neg q]; exact hf j (by omega)
  exact ⟨257, zero 256 0 f rfl (fun j hj => absurd hj (by omega))⟩
/-- the bytes of all rows -/
def uB (s : Nat → Nat → Nat) (d pr w : Nat) (j : Nat) : Nat := pkR s d pr (j / rbN w d) w (j % rbN w d)
theorem rbN_pos {cs dp : Nat} (hd : dpO dp) (hc : 1 ≤ cs) : 1 ≤ rbN cs dp := by
  unfold rbN
  rcases hd with rfl | rfl | rfl | rfl <;> omega
theorem uB_lt {s : Nat → Nat → Nat} {d pr w h j : Nat} (hd : dpO d) (hw : 1 ≤ w) (hs : ∀ y x, y < h → x < w → s y x < 2 ^ d) (hj : j < h * rbN w d) : uB s d pr w j < 256 :=
  (pkR_ok hd (fun x hx => hs _ x ((Nat.div_lt_iff_lt_mul (rbN_pos hd hw)).mpr hj) hx) w (Nat.le_refl _)).1 _
theorem pkG_uB {s : Nat → Nat → Nat} {d pr w y0 yy j : Nat} (hd : dpO d) (hw : 1 ≤ w) (hj : j < yy * rbN w d) : pkG s d pr w (rbN w d) y0 yy 0 j = uB s d pr w (y0 * rbN w d + j) := by
  have hrb := rbN_pos hd hw
  unfold pkG uB
  rw [if_pos ((Nat.div_lt_iff_lt_mul hrb).mpr hj), Nat.mul_comm y0, Nat.mul_add_div (by omega), Nat.mul_add_mod]
