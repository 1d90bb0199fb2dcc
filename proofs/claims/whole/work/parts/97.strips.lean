/-! write: the strips -/
def pkW (u : Nat → Nat) (rb : Nat) : Nat → List Nat
  | 0 => []
  | y + 1 => pkW u rb y ++ pkS u (y * rb + rb) (rb + 1) (y * rb)
theorem pkW_len {u : Nat → Nat} {rb : Nat} : ∀ y, (pkW u rb y).length ≤ 2 * (y * rb) := by
  intro y
  induction y with
  | zero => exact Nat.zero_le _
  | succ y ih =>
    simp only [pkW, List.length_append]
    have := pkS_len (u := u) (stop := y * rb + rb) (rb + 1) (y * rb)
    rw [Nat.add_mul]
    omega
theorem rb_le {y yy rb : Nat} (h : y < yy) : y * rb + rb ≤ yy * rb := by
  have := Nat.mul_le_mul_right rb (show y + 1 ≤ yy from h)
  rw [Nat.add_mul, Nat.one_mul] at this
  exact this
theorem aB.pkW {u : Nat → Nat} {rb yy : Nat} (hy : yy * rb ≤ 256) (hu : ∀ j, j < yy * rb → u j < 256) : ∀ y, y ≤ yy → aB (pkW u rb y) := by
  intro y
  induction y with
  | zero => intro _; exact aB.nil
  | succ y ih =>
    intro h
    have := rb_le (rb := rb) (show y < yy from h)
    exact (ih (by omega)).app (aB.pkS (by omega) (fun j hj => hu j (by omega)) _ _)
/-- a strip of yy rows, by its compression -/
def stE (mt : Nat) (u : Nat → Nat) (rb yy : Nat) : List Nat := if mt = 1 then rgL u 0 (yy * rb) else if mt = 32773 then pkW u rb yy else ebS (nbv u) (2 * (yy * rb))
theorem nbv_ok {u : Nat → Nat} {n : Nat} (hu : ∀ j, j < n → u j < 256) : ∀ i, i < 2 * n → nbv u i < 16 := fun i hi => nbv_lt (hu (i / 2) (by omega))
theorem stE_len {mt : Nat} {u : Nat → Nat} {rb yy : Nat} (hy : yy * rb ≤ 256) (hu : ∀ j, j < yy * rb → u j < 256) : (stE mt u rb yy).length ≤ 2 * (yy * rb) + 7 := by
  unfold stE
  split
  · rw [rgL_len]; omega
  · split
    · have := pkW_len (u := u) (rb := rb) yy
      omega
    · have := ebS_len (nbv_ok hu)
      omega
theorem aB.stE {mt : Nat} {u : Nat → Nat} {rb yy : Nat} (hy : yy * rb ≤ 256) (hu : ∀ j, j < yy * rb → u j < 256) : aB (stE mt u rb yy) := by
  unfold Jvm.Pilot.CTaggedRasterLaw_law_r6233_95c97e.stE
  split
  · exact aB.rg (fun j hj => hu _ (by omega))
  · split
    · exact aB.pkW hy hu _ (Nat.le_refl _)
    · exact aB.ebS (nbv_ok hu)
theorem p_plain {post : (Nat → Int32) → (Nat → Int32) → Prop} {I0 f0 I fb f : Nat → Int32} {fr n sz : Nat} {L : List Nat} {u : Nat → Nat} (h : hU f fr n u) (hn : fr + n ≤ 256) (hx : XA I0 f0 sz L I fb) (hb : sz + L.length < 2 ^ 19) (k : ∀ I' f', XA I0 f0 sz (L ++ rgL u 0 n) I' f' → post I' f') : wp_Da_appendPlain post f I fb (nI fr) (nI (fr + n)) := by
  unfold wp_Da_appendPlain
  have key : ∀ (m j : Nat) (I fb : Nat → Int32), j + m = n → XA I0 f0 sz (L ++ rgL u 0 j) I fb → wp_Da_appendPlain_l3 post f (m + 1) I fb (nI (fr + n)) (nI (fr + j)) := by
    intro m
    induction m with
    | zero =>
      intro j I fb hj x
      unfold wp_Da_appendPlain_l3
      have : j = n := by omega
      subst this
      exact br_t (nI_le (by omega) (by omega)) (k I fb x)
    | succ m ih =>
      intro j I fb hj x
      unfold wp_Da_appendPlain_l3
      obtain ⟨h1, h2⟩ := h j (by omega)
      rw [nI_clamp (by omega), h2, nI_1]
      refine br_f (nI_ge (by omega) (by omega)) ⟨vp_in_nI (by omega) (by decide), x.one (by rw [List.length_append, rgL_len]; omega) (fun I2 f2 x2 => ih (j + 1) I2 f2 (by omega) ?_)⟩
      rw [List.append_assoc] at x2
      simp only [rgL]
      rw [Nat.zero_add]
      exact x2
  exact ⟨n + 1, key n 0 I fb (by omega) (by simp only [rgL, List.append_nil]; exact hx)⟩
theorem p_rows {post : (Nat → Int32) → (Nat → Int32) → Prop} {I0 f0 I fb f IY : Nat → Int32} {cs dp y0 yy n sz : Nat} {L : List Nat} {u : Nat → Nat} (e0 : IY 0 = nI cs) (e2 : IY 2 = nI dp) (hd : dpO dp) (hc : cs ≤ 16) (h : hU f (y0 * rbN cs dp) n u) (hn : y0 * rbN cs dp + n ≤ 256) (hyy : yy * rbN cs dp ≤ n) (hy0 : y0 + yy ≤ 16) (hx : XA I0 f0 sz L I fb) (hb : sz + L.length < 2 ^ 19) (k : ∀ I' f', XA I0 f0 sz (L ++ pkW u (rbN cs dp) yy) I' f' → post I' f') : wp_X_appendRowsAsPackets post f IY I fb (nI y0) (nI (y0 + yy)) := by
  unfold wp_X_appendRowsAsPackets
  refine p_bytesARow e0 e2 hd hc ?_
  generalize rbN cs dp = rb at *
  have key : ∀ (m j : Nat) (I fb : Nat → Int32), j + m = yy → XA I0 f0 sz (L ++ pkW u rb j) I fb → wp_X_appendRowsAsPackets_l11 post f IY (m + 1) I fb (nI (y0 + yy)) (nI rb) (nI (y0 + j)) := by
    intro m
    induction m with
    | zero =>
      intro j I fb hj x
      unfold wp_X_appendRowsAsPackets_l11
      have : j = yy := by omega
      subst this
      exact br_t (nI_le (by omega) (by omega)) (k I fb x)
    | succ m ih =>
      intro j I fb hj x
      unfold wp_X_appendRowsAsPackets_l11
      have hj2 := rb_le (rb := rb) (show j < yy by omega)
      rw [pk_mul, nI_add, nI_1, Nat.add_mul, Nat.add_assoc (y0 * rb)]
      refine br_f (nI_ge (by omega) (by omega)) (p_encodeRow h hn (stop := j * rb + rb) (by omega) (by omega) x (by have := pkW_len (u := u) (rb := rb) j; rw [List.length_append]; omega) (fun I2 f2 x2 => ih (j + 1) I2 f2 (by omega) ?_))
      rw [List.append_assoc, show j * rb + rb - j * rb + 1 = rb + 1 by omega] at x2
      exact x2
  exact ⟨yy + 1, key yy 0 I fb (by omega) (by simp only [pkW, List.append_nil]; exact hx)⟩
/-- strips, each at an even place -/
def stL (sz : Nat) (E : Nat → List Nat) : Nat → List Nat
  | 0 => []
  | k + 1 => eL sz (stL sz E k) ++ E k
theorem aB.stL {sz : Nat} {E : Nat → List Nat} {n : Nat} (h : ∀ k, k < n → aB (E k)) : aB (stL sz E n) := by
  induction n with
  | zero => exact aB.nil
  | succ n ih => exact (ih (fun k hk => h k (by omega))).e.app (h n (by omega))
/-- strip k of a picture -/
def stK (s : Nat → Nat → Nat) (w h d mt ec pr k : Nat) : List Nat := stE mt (fun j => uB s d pr w (frR h ec k * rbN w d + j)) (rbN w d) (frR h ec (k + 1) - frR h ec k)
theorem stK_u {s : Nat → Nat → Nat} {w h d ec pr k : Nat} (hd : dpO d) (hw : 1 ≤ w) (he : 1 ≤ ec) (hk : k < nSt h ec) (hs : ∀ y x, y < h → x < w → s y x < 2 ^ d) : ∀ j, j < (frR h ec (k + 1) - frR h ec k) * rbN w d → uB s d pr w (frR h ec k * rbN w d + j) < 256 := by
  intro j hj
  have h1 := wnt_add (cs := w) (dp := d) he hk
  unfold wnt at h1
  have h2 := Nat.mul_le_mul_right (rbN w d) (frR_le h ec (k + 1))
  exact uB_lt hd hw hs (by omega)
theorem stK_len {s : Nat → Nat → Nat} {w h d mt ec pr k : Nat} (hd : dpO d) (hw : 1 ≤ w) (hw2 : w ≤ 16) (hh : h ≤ 16) (he : 1 ≤ ec) (hk : k < nSt h ec) (hs : ∀ y x, y < h → x < w → s y x < 2 ^ d) : (stK s w h d mt ec pr k).length ≤ 2 * wnt w h d ec k + 7 := by
  have h1 := wnt_add (cs := w) (dp := d) he hk
  have h2 := fr_le (cs := w) (dp := d) (ec := ec) hd hw2 hh (k + 1)
  unfold wnt at h1 ⊢
  exact stE_len (by omega) (stK_u hd hw he hk hs)
theorem aB.stK {s : Nat → Nat → Nat} {w h d mt ec pr k : Nat} (hd : dpO d) (hw : 1 ≤ w) (hw2 : w ≤ 16) (hh : h ≤ 16) (he : 1 ≤ ec) (hk : k < nSt h ec) (hs : ∀ y x, y < h → x < w → s y x < 2 ^ d) : aB (stK s w h d mt ec pr k) := by
  have h1 := wnt_add (cs := w) (dp := d) he hk
  have h2 := fr_le (cs := w) (dp := d) (ec := ec) hd hw2 hh (k + 1)
  unfold wnt at h1
  exact aB.stE (by omega) (stK_u hd hw he hk hs)
theorem stL_len {s : Nat → Nat → Nat} {w h d mt ec pr sz : Nat} (hd : dpO d) (hw : 1 ≤ w) (hw2 : w ≤ 16) (hh : h ≤ 16) (he : 1 ≤ ec) (hs : ∀ y x, y < h → x < w → s y x < 2 ^ d) : ∀ k, k ≤ nSt h ec → (stL sz (stK s w h d mt ec pr) k).length ≤ 2 * (frR h ec k * rbN w d) + 8 * k := by
  intro k
  induction k with
  | zero => intro _; exact Nat.zero_le _
  | succ k ih =>
    intro hk
    have h1 := ih (by omega)
    have h2 := stK_len (mt := mt) (pr := pr) hd hw hw2 hh he (show k < nSt h ec from hk) hs
    have h3 := wnt_add (cs := w) (dp := d) he (show k < nSt h ec from hk)
    simp only [stL, List.length_append, eL_len]
    omega
theorem p_X_strips {post : (Nat → Int32) → (Nat → Int32) → (Nat → Int32) → (Nat → Int32) → (Nat → Int32) → (Nat → Int32) → (Nat → Int32) → (Nat → Int32) → Prop} {f IY Ie fc ln ns I0 f0 I fb fl fp : Nat → Int32} {s : Nat → Nat → Nat} {w h d mt ec pr sz : Nat} (hl : lyX w h d mt ec pr IY) (hd : dpO d) (hmt : mtO mt) (hw : 1 ≤ w) (hw2 : w ≤ 16) (hh : h ≤ 16) (he : 1 ≤ ec) (he2 : ec ≤ h) (hs : ∀ y x, y < h → x < w → s y x < 2 ^ d) (hf : ∀ j, j < 256 → f j = nI (pkG s d pr w (rbN w d) 0 h 0 j)) (hx : XA I0 f0 sz [] I fb) (hb : sz ≤ 900) (k : ∀ Ie' fc' ln' ns' I' f' fl' fp', XA I0 f0 sz (stL sz (stK s w h d mt ec pr) (nSt h ec)) I' f' → (∀ j, j < nSt h ec → fp' j = nI (sz + (eL sz (stL sz (stK s w h d mt ec pr) j)).length) ∧ fl' j = nI (stK s w h d mt ec pr j).length) → post Ie' fc' ln' ns' I' f' fl' fp') : wp_X_appendStrips post f IY Ie fc ln ns I fb fl fp := by
  obtain ⟨l0, l1, l2, l3, l4, l5⟩ := id hl
  have hn := nSt_le he he2
  have hU1 : ∀ k, k < nSt h ec → hU f (frR h ec k * rbN w d) (wnt w h d ec k) (fun j => uB s d pr w (frR h ec k * rbN w d + j)) := by
    intro k hk j hj
    have h1 := wnt_add (cs := w) (dp := d) he hk
    have h2 := fr_le (cs := w) (dp := d) (ec := ec) hd hw2 hh (k + 1)
    have h3 := Nat.mul_le_mul_right (rbN w d) (frR_le h ec (k + 1))
    refine ⟨stK_u hd hw he hk hs j hj, ?_⟩
    rw [hf _ (by omega), pkG_uB hd hw (by omega), Nat.zero_mul, Nat.zero_add]
  unfold wp_X_appendStrips
  have key : ∀ (m j : Nat) (Ie fc ln ns I fb fl fp : Nat → Int32), j + m = nSt h ec → XA I0 f0 sz (stL sz (stK s w h d mt ec pr) j) I fb → (∀ i, i < j → fp i = nI (sz + (eL sz (stL sz (stK s w h d mt ec pr) i)).length) ∧ fl i = nI (stK s w h d mt ec pr i).length) → wp_X_appendStrips_l2 post f IY (m + 1) Ie fc ln ns I fb fl fp (nI j) := by
    intro m
    induction m with
    | zero =>
      intro j Ie fc ln ns I fb fl fp hj x hp
      unfold wp_X_appendStrips_l2
      have : j = nSt h ec := by omega
      subst this
      exact p_Ly_strips l1 l4 he he2 hh (br_t (nI_le (by omega) (by omega)) (k _ _ _ _ _ _ _ _ x hp))
    | succ m ih =>
      intro j Ie fc ln ns I fb fl fp hj x hp
      have hjn : j < nSt h ec := by omega
      have hsl := stL_len (sz := sz) (mt := mt) (pr := pr) hd hw hw2 hh he hs j (by omega)
      have hfl := fr_le (cs := w) (dp := d) (ec := ec) hd hw2 hh j
      have hel := eL_len sz (stL sz (stK s w h d mt ec pr) j)
      have hkl := stK_len (mt := mt) (pr := pr) hd hw hw2 hh he hjn hs
      have hwa := wnt_add (cs := w) (dp := d) he hjn
      have hfl1 := fr_le (cs := w) (dp := d) (ec := ec) hd hw2 hh (j + 1)
      unfold wp_X_appendStrips_l2
      rw [nI_1]
      refine p_Ly_strips l1 l4 he he2 hh (br_f (nI_ge (by omega) (by omega)) ?_)
      refine p_firstByte hl hd hw2 hh (by omega) (by omega) ?_
      refine p_firstByte hl hd hw2 hh (by omega) (by omega) ?_
      refine x.even (by omega) (fun I2 f2 x2 => ⟨vp_in_nI (by omega) (by decide), ?_⟩)
      have nx : ∀ (Ie' fc' ln' ns' I' f' : Nat → Int32), XA I0 f0 sz (eL sz (stL sz (stK s w h d mt ec pr) j) ++ stK s w h d mt ec pr j) I' f' → wp_X_appendStrips_b135 post (wp_X_appendStrips_l2 post f IY (m + 1)) f IY Ie' fc' ln' ns' I' f' fl (upd fp (nI j).toNatClampNeg (I2 2)) (nI j) := by
        intro Ie' fc' ln' ns' I' f' x'
        unfold wp_X_appendStrips_b135
        rw [nI_clamp (by omega), nI_1, upd_at, if_pos rfl, x2.1, x'.1, pk_sub (by rw [List.length_append]; omega)]
        refine ⟨vp_in_nI (by omega) (by decide), vp_in_nI (by omega) (by decide), ih (j + 1) _ _ _ _ _ _ _ _ (by omega) x' (fun i hi => ?_)⟩
        rw [upd_at, upd_at]
        by_cases e : i = j
        · subst e
          rw [if_pos rfl, if_pos rfl, List.length_append]
          refine ⟨rfl, ?_⟩
          congr 1
          omega
        · rw [if_neg e, if_neg e]
          exact hp i (by omega)
      rw [l3]
      have hU2 := hU1 j hjn
      rcases hmt with rfl | rfl | rfl
      · refine br_t rfl ?_
        rw [← hwa]
        refine p_plain hU2 (by omega) x2 (by omega) (fun I' f' x' => nx _ _ _ _ _ _ ?_)
        exact x'
      · refine br_f (by decide) (br_f (by decide) ?_)
        rw [← hwa]
        refine p_encode hU2 (by omega) (Nat.le_refl _) x2 (by omega) (fun _ _ _ _ I' f' x' => nx _ _ _ _ _ _ ?_)
        exact x'
      · refine br_f (by decide) (br_t rfl ?_)
        refine p_firstRow l1 l4 hh (by omega) (by omega) ?_
        refine p_firstRow l1 l4 hh (by omega) (by omega) ?_
        have hle := (frR_in he hjn).2.2.2
        have hfr := frR_le h ec (j + 1)
        obtain ⟨yy, hyy⟩ : ∃ yy, frR h ec (j + 1) = frR h ec j + yy := ⟨frR h ec (j + 1) - frR h ec j, by omega⟩
        have hwy : wnt w h d ec j = yy * rbN w d := by
          unfold wnt
          rw [hyy, Nat.add_sub_cancel_left]
        rw [hyy]
        refine p_rows l0 l2 hd hw2 hU2 (by omega) (by omega) (by omega) x2 (by omega) (fun I' f' x' => nx _ _ _ _ _ _ ?_)
        unfold stK stE
        rw [hyy, Nat.add_sub_cancel_left]
        exact x'
  exact ⟨nSt h ec + 1, key (nSt h ec) 0 Ie fc ln ns I fb fl fp (by omega) hx (fun i hi => by omega)⟩
