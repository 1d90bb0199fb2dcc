/-! write: the reference's strips -/
theorem p_M_pack {post : (Nat → Int32) → (Nat → Int32) → (Nat → Int32) → (Nat → Int32) → (Nat → Int32) → Prop} {f J0 g0 J g mn nb st : Nat → Int32} {cs dp mt yy sz : Nat} {L : List Nat} {u : Nat → Nat} (e3 : J0 3 = nI cs) (e5 : J0 5 = nI dp) (hd : dpO dp) (hc : cs ≤ 16) (hmt : mtO mt) (h : hU f 0 (yy * rbN cs dp) u) (hy : yy ≤ 16) (hx : MA J0 g0 sz L J g) (hb : sz + L.length + 2 * (yy * rbN cs dp) + 9 < 2000) (k : ∀ J' g' mn' nb' st', MA J0 g0 sz (L ++ stE mt u (rbN cs dp) yy) J' g' → post J' g' mn' nb' st') : wp_M_pack post f J g mn nb st (nI mt) (nI yy) := by
  have hn : yy * rbN cs dp ≤ 256 := by
    have := Nat.mul_le_mul hy (rbN_le hd hc)
    omega
  unfold wp_M_pack
  rw [hx.2.1 3 (by decide) (by decide) (by decide), hx.2.1 5 (by decide) (by decide) (by decide), e3, e5]
  refine p_M_rowBytes hd hc ?_
  rw [pk_mul]
  have rows : mt ≠ 5 → ∃ n1 : Nat, wp_M_pack_l85 post f n1 J g mn nb st (nI mt) (nI yy) (nI 0) := by
    intro h5
    have key : ∀ (m j : Nat) (J g : Nat → Int32), j + m = yy → MA J0 g0 sz (L ++ (if mt = 1 then rgL u 0 (j * rbN cs dp) else pkW u (rbN cs dp) j)) J g → wp_M_pack_l85 post f (m + 1) J g mn nb st (nI mt) (nI yy) (nI j) := by
      intro m
      induction m with
      | zero =>
        intro j J g hj x
        unfold wp_M_pack_l85
        have : j = yy := by omega
        subst this
        refine br_t (nI_le (by omega) (by omega)) (k _ _ _ _ _ ?_)
        unfold stE
        rcases hmt with rfl | rfl | rfl
        · exact x
        · exact absurd rfl h5
        · exact x
      | succ m ih =>
        intro j J g hj x
        unfold wp_M_pack_l85
        have hjr := rb_le (rb := rbN cs dp) (show j < yy by omega)
        rw [x.2.1 3 (by decide) (by decide) (by decide), x.2.1 5 (by decide) (by decide) (by decide), e3, e5]
        refine br_f (nI_ge (by omega) (by omega)) (p_M_rowBytes hd hc (p_M_rowBytes hd hc ?_))
        rw [pk_mul, nI_add]
        generalize rbN cs dp = rb at *
        refine pk_eq mt 1 (fun q => ?_) (fun q => ?_) rfl rfl (by rcases hmt with rfl | rfl | rfl <;> decide) (by decide)
        · subst q
          rw [if_pos rfl] at x
          have inn : ∀ (m' i : Nat) (J g : Nat → Int32), i + m' = rb → MA J0 g0 sz (L ++ rgL u 0 (j * rb + i)) J g → wp_M_pack_l132 post (wp_M_pack_l85 post f (m + 1)) f (m' + 1) J g mn nb st (nI 1) (nI yy) (nI j) (nI (j * rb + rb)) (nI (j * rb + i)) := by
            intro m'
            induction m' with
            | zero =>
              intro i J g hi x
              unfold wp_M_pack_l132 wp_M_pack_b167
              have : i = rb := by omega
              subst this
              rw [nI_1]
              refine br_t (nI_le (by omega) (by omega)) (ih (j + 1) J g (by omega) ?_)
              rw [if_pos rfl, Nat.add_mul, Nat.one_mul]
              exact x
            | succ m' ihm =>
              intro i J g hi x
              unfold wp_M_pack_l132
              obtain ⟨h1, h2⟩ := h (j * rb + i) (by omega)
              rw [Nat.zero_add] at h2
              rw [nI_clamp (by omega), h2, nI_1]
              refine br_f (nI_ge (by omega) (by omega)) ⟨vp_in_nI (by omega) (by decide), x.put (by rw [List.length_append, rgL_len]; omega) (fun J2 g2 x2 => ihm (i + 1) J2 g2 (by omega) ?_)⟩
              rw [List.append_assoc] at x2
              rw [← Nat.add_assoc]
              simp only [rgL]
              rw [Nat.zero_add]
              exact x2
          exact ⟨rb + 1, inn rb 0 J g (by omega) x⟩
        · rw [if_neg q] at x
          have hpl := pkW_len (u := u) (rb := rb) j
          refine p_M_packets h hn (stop := j * rb + rb) (by omega) (by omega) x (by rw [List.length_append]; omega) (fun J2 g2 x2 => ?_)
          unfold wp_M_pack_b167
          rw [nI_1]
          refine ih (j + 1) J2 g2 (by omega) ?_
          rw [if_neg q]
          rw [List.append_assoc, show j * rb + rb - j * rb + 1 = rb + 1 by omega] at x2
          exact x2
    refine ⟨yy + 1, key yy 0 J g (by omega) ?_⟩
    have : (if mt = 1 then rgL u 0 (0 * rbN cs dp) else pkW u (rbN cs dp) 0) = [] := by
      rw [Nat.zero_mul]
      split <;> rfl
    rw [this, List.append_nil]
    exact hx
  refine pk_eq mt 5 (fun q => ?_) (fun q => rows q) rfl rfl (by rcases hmt with rfl | rfl | rfl <;> decide) (by decide)
  subst q
  have key : ∀ (m j : Nat) (nb : Nat → Int32), j + m = yy * rbN cs dp → (∀ i, i < 2 * j → nb i = nI (nbv u i)) → wp_M_pack_l22 post f (m + 1) J g mn nb st (nI (yy * rbN cs dp)) (nI j) := by
    intro m
    induction m with
    | zero =>
      intro j nb hj hnb
      unfold wp_M_pack_l22
      have : j = yy * rbN cs dp := by omega
      subst this
      rw [show (2 : Int32) = nI 2 from rfl, pk_mul]
      refine br_t (nI_le (by omega) (by omega)) ?_
      refine p_M_codes (v := nbv u) (by omega) (fun i hi => ⟨nbv_ok (fun j hj => (h j hj).1) i hi, hnb i hi⟩) hx (by omega) (fun J' g' mn' st' x => k _ _ _ _ _ x)
    | succ m ih =>
      intro j nb hj hnb
      unfold wp_M_pack_l22
      obtain ⟨h1, h2⟩ := h j (by omega)
      rw [Nat.zero_add] at h2
      rw [show (2 : Int32) = nI 2 from rfl, pk_mul 2 j, nI_1 (2 * j), nI_clamp (n := j) (by omega), nI_clamp (n := 2 * j) (by omega), nI_clamp (n := 2 * j + 1) (by omega), h2, show (16 : Int32) = nI 16 from rfl, pk_rem (by omega) (by decide) (by decide), pk_div (by omega) (by decide) (by decide), nI_1 j]
      refine br_f (nI_ge (by omega) (by omega)) ⟨vp_in_nI (by omega) (by decide), vp_in_nI (by omega) (by decide), vp_in_nI (by omega) (by decide), vp_in_nI (by omega) (by decide), ih (j + 1) _ (by omega) (fun i hi => ?_)⟩
      rw [upd_at, upd_at]
      unfold nbv
      by_cases q1 : i = 2 * j + 1
      · rw [if_pos q1, if_neg (by omega), show i / 2 = j by omega]
      · rw [if_neg q1]
        by_cases q2 : i = 2 * j
        · rw [if_pos q2, if_pos (by omega), show i / 2 = j by omega]
        · rw [if_neg q2]
          exact hnb i (by omega)
  exact ⟨yy * rbN cs dp + 1, key (yy * rbN cs dp) 0 nb (by omega) (fun i hi => by omega)⟩
theorem p_M_lay {post : (Nat → Int32) → (Nat → Int32) → (Nat → Int32) → (Nat → Int32) → (Nat → Int32) → (Nat → Int32) → (Nat → Int32) → (Nat → Int32) → Prop} {gS J0 g0 J g da mn nb fp fl st : Nat → Int32} {s : Nat → Nat → Nat} {w h d mt ec pr sz : Nat} (e3 : J0 3 = nI w) (e4 : J0 4 = nI h) (e5 : J0 5 = nI d) (hd : dpO d) (hmt : mtO mt) (hpr : pr = 1 ∨ pr = 2) (hw : 1 ≤ w) (hw2 : w ≤ 16) (hh : h ≤ 16) (he : 1 ≤ ec) (he2 : ec ≤ h) (hs : ∀ y x, y < h → x < w → s y x < 2 ^ d ∧ gS (16 * y + x) = nI (s y x)) (hx : MA J0 g0 sz [] J g) (hb : sz ≤ 900) (k : ∀ J' da' g' mn' nb' fp' fl' st', MA J0 g0 sz (stL sz (stK s w h d mt ec pr) (nSt h ec)) J' g' → (∀ j, j < nSt h ec → fp' j = nI (sz + (eL sz (stL sz (stK s w h d mt ec pr) j)).length) ∧ fl' j = nI (stK s w h d mt ec pr j).length) → post J' da' g' mn' nb' fp' fl' st') : wp_M_lay post gS J da g mn nb fp fl st (nI mt) (nI ec) (nI pr) (nI (nSt h ec)) := by
  have hn := nSt_le he he2
  have hs1 : ∀ y x, y < h → x < w → s y x < 2 ^ d := fun y x hy hx => (hs y x hy hx).1
  unfold wp_M_lay
  have key : ∀ (m j : Nat) (J da g mn nb fp fl st : Nat → Int32), j + m = nSt h ec → MA J0 g0 sz (stL sz (stK s w h d mt ec pr) j) J g → (∀ i, i < j → fp i = nI (sz + (eL sz (stL sz (stK s w h d mt ec pr) i)).length) ∧ fl i = nI (stK s w h d mt ec pr i).length) → wp_M_lay_l3 post gS (m + 1) J da g mn nb fp fl st (nI mt) (nI ec) (nI pr) (nI (nSt h ec)) (nI j) := by
    intro m
    induction m with
    | zero =>
      intro j J da g mn nb fp fl st hj x hp
      unfold wp_M_lay_l3
      have : j = nSt h ec := by omega
      subst this
      exact br_t (nI_le (by omega) (by omega)) (k _ _ _ _ _ _ _ _ x hp)
    | succ m ih =>
      intro j J da g mn nb fp fl st hj x hp
      have hjn : j < nSt h ec := by omega
      have hsl := stL_len (sz := sz) (mt := mt) (pr := pr) hd hw hw2 hh he hs1 j (by omega)
      have hfl := fr_le (cs := w) (dp := d) (ec := ec) hd hw2 hh j
      have hel := eL_len sz (stL sz (stK s w h d mt ec pr) j)
      have hkl := stK_len (mt := mt) (pr := pr) hd hw hw2 hh he hjn hs1
      have hwa := wnt_add (cs := w) (dp := d) he hjn
      have hfl1 := fr_le (cs := w) (dp := d) (ec := ec) hd hw2 hh (j + 1)
      obtain ⟨f1, f2, f3, f4⟩ := frR_in he hjn
      have hfr := frR_le h ec (j + 1)
      have nx : wp_M_lay_b36 post (wp_M_lay_l3 post gS (m + 1)) gS J da g mn nb fp fl st (nI mt) (nI ec) (nI pr) (nI (nSt h ec)) (nI j) (nI (frR h ec (j + 1))) := by
        unfold wp_M_lay_b36
        rw [pk_mul, ← f2, pk_sub f4]
        refine x.even (by omega) (fun J2 g2 x2 => ⟨vp_in_nI (by omega) (by decide), ?_⟩)
        refine p_gather (h := h) (s := s) (by rw [x2.2.1 3 (by decide) (by decide) (by decide)]; exact e3) (by rw [x2.2.1 5 (by decide) (by decide) (by decide)]; exact e5) hw2 hh hd hpr f4 hfr hs (fun f' hf' => ?_)
        refine p_M_pack (u := fun i => uB s d pr w (frR h ec j * rbN w d + i)) e3 e5 hd hw2 hmt (fun i hi => ⟨stK_u hd hw he hjn hs1 i hi, ?_⟩) (by omega) x2 (by unfold wnt at hwa; omega) (fun J' g' mn' nb' st' x' => ?_)
        · have h16 : (frR h ec (j + 1) - frR h ec j) * rbN w d ≤ 256 := by unfold wnt at hwa; omega
          rw [Nat.zero_add, hf' i (by omega), pkG_uB hd hw hi]
        · rw [nI_clamp (by omega), nI_1, upd_at, if_pos rfl, x2.1, x'.1, pk_sub (by rw [List.length_append]; omega)]
          refine ⟨vp_in_nI (by omega) (by decide), vp_in_nI (by omega) (by decide), ih (j + 1) _ _ _ _ _ _ _ _ (by omega) x' (fun i hi => ?_)⟩
          rw [upd_at, upd_at]
          by_cases e : i = j
          · subst e
            rw [if_pos rfl, if_pos rfl, List.length_append]
            refine ⟨rfl, ?_⟩
            unfold stK
            congr 1
            omega
          · rw [if_neg e, if_neg e]
            exact hp i (by omega)
      unfold wp_M_lay_l3
      rw [x.2.1 4 (by decide) (by decide) (by decide), e4, pk_mul, nI_add]
      refine br_f (nI_ge (by omega) (by omega)) (pk_le (j * ec + ec) h (fun q => ?_) (fun q => ?_) rfl rfl (by omega) (by omega))
      · have : frR h ec (j + 1) = j * ec + ec := by
          rw [f3]
          split <;> omega
        rw [← this]
        exact nx
      · have : frR h ec (j + 1) = h := by
          rw [f3]
          split <;> omega
        rw [this] at nx
        exact nx
  exact ⟨nSt h ec + 1, key (nSt h ec) 0 J da g mn nb fp fl st (by omega) hx (fun i hi => by omega)⟩
