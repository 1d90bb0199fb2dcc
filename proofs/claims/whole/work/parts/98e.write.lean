/-! write: both sides -/
section
variable {post : Int32 → (Nat → Int32) → (Nat → Int32) → (Nat → Int32) → (Nat → Int32) → (Nat → Int32) → (Nat → Int32) → (Nat → Int32) → (Nat → Int32) → (Nat → Int32) → Prop} {gl gc gS gt J0 g0 da dr mn nb gp gs st : Nat → Int32} {s : Nat → Nat → Nat} {w h d mt ec pr sz c : Nat} {tg ln : Nat → Nat} {ch : Nat → Nat → Nat} {be : Bool}
theorem p_M_b197 (g : gd s w h d mt ec pr sz) (hl : lb1 c tg ln ch gc gl gt) (j3 : J0 3 = nI w) (j4 : J0 4 = nI h) (j5 : J0 5 = nI d) (j7 : J0 7 = nI c) (hbe : (g0 0 = nI 77) ↔ be = true) (hfin : fnM post da dr mn nb gp gs st J0 g0 sz (pgD be tg ln ch c s w h d mt ec pr sz) (sz + (eL sz (pgT be tg ln ch c s w h d mt ec pr sz)).length)) {a : Nat} (h1 : nSt h ec = 1 → gp 0 = nI (nmP sz (pgP s w h d mt ec pr sz) (nSt h ec) (pgS s w h d mt ec pr sz)) ∧ gs 0 = nI (nmP sz (pgQ s w h d mt ec pr) (nSt h ec) (nmL sz be (pgP s w h d mt ec pr sz) (nSt h ec) (pgS s w h d mt ec pr sz)))) (h2 : nSt h ec ≠ 1 → a = nmP sz (pgP s w h d mt ec pr sz) (nSt h ec) (pgS s w h d mt ec pr sz) ∧ a + 4 * nSt h ec = nmP sz (pgQ s w h d mt ec pr) (nSt h ec) (nmL sz be (pgP s w h d mt ec pr sz) (nSt h ec) (pgS s w h d mt ec pr sz))) {J gg : Nat → Int32} (hx : MA J0 g0 sz (eL sz (pgN be s w h d mt ec pr sz)) J gg) : wp_M_write_b197 post gl gc gS gt J da dr gg mn nb gp gs st (nI mt) (nI ec) (nI pr) (nI (nSt h ec)) (nI a) := by
  have hc := hl.1
  have main : wp_M_write_b225 post gl gc gS gt J da dr gg mn nb gp gs st (nI mt) (nI ec) (nI pr) (nI (nSt h ec)) (nI a) (nI (lwN c tg)) := by
    unfold wp_M_write_b225
    exact ⟨c + 1, p_M_l236 g hl j3 j4 j5 j7 hbe hfin h1 h2 c 0 0 0 J gg (by omega) hx (fun i hi => by omega)⟩
  unfold wp_M_write_b197 wp_M_write_b224
  rw [hx.2.1 7 (by decide) (by decide) (by decide), j7]
  have lw0 : (c ≠ 2 ∨ tg 0 ≤ tg 1) → lwN c tg = 0 := fun z => if_neg (by omega)
  refine pk_eq c 2 (fun z => ⟨vp_in_nI (n := 1) (by decide) (by decide), vp_in_nI (n := 0) (by decide) (by decide), ?_⟩) (fun z => ?_)
  · have t0 := (hl.2 0 (by omega)).1
    have t1 := (hl.2 1 (by omega)).1
    rw [t0.2, t1.2]
    have b0 := t0.1
    have b1' := t1.1
    refine pk_le (tg 0) (tg 1) (fun y => ?_) (fun y => ?_)
    · rw [lw0 (Or.inr y)] at main
      exact main
    · have : lwN c tg = 1 := if_pos ⟨z, y⟩
      rw [this] at main
      exact main
  · rw [lw0 (Or.inl z)] at main
    exact main
theorem p_M_lists (g : gd s w h d mt ec pr sz) (hl : lb1 c tg ln ch gc gl gt) (j3 : J0 3 = nI w) (j4 : J0 4 = nI h) (j5 : J0 5 = nI d) (j7 : J0 7 = nI c) (hbe : (g0 0 = nI 77) ↔ be = true) (hfin : fnM post da dr mn nb gp gs st J0 g0 sz (pgD be tg ln ch c s w h d mt ec pr sz) (sz + (eL sz (pgT be tg ln ch c s w h d mt ec pr sz)).length)) (hnum : ∀ j, j < nSt h ec → gp j = nI (pgP s w h d mt ec pr sz j) ∧ gs j = nI (pgQ s w h d mt ec pr j)) {J gg : Nat → Int32} (hx : MA J0 g0 sz (eL sz (pgS s w h d mt ec pr sz)) J gg) : ∃ n1 : Nat, wp_M_write_l130 post gl gc gS gt n1 J da dr gg mn nb gp gs st (nI mt) (nI ec) (nI pr) (nI (nSt h ec)) (nI (sz + (eL sz (pgS s w h d mt ec pr sz)).length)) (nI 0) := by
  have hn := nSt_le g.he g.he2
  have hh := g.hh
  have hz := g.hz
  have hz2 := g.hz2
  have hS := g.S
  have hel := eL_len sz (pgS s w h d mt ec pr sz)
  have h1 : nSt h ec = 1 → gp 0 = nI (nmP sz (pgP s w h d mt ec pr sz) (nSt h ec) (pgS s w h d mt ec pr sz)) ∧ gs 0 = nI (nmP sz (pgQ s w h d mt ec pr) (nSt h ec) (nmL sz be (pgP s w h d mt ec pr sz) (nSt h ec) (pgS s w h d mt ec pr sz))) := by
    intro e
    unfold nmP
    rw [if_pos e, if_pos e]
    exact hnum 0 (by omega)
  have h2 : nSt h ec ≠ 1 → sz + (eL sz (pgS s w h d mt ec pr sz)).length = nmP sz (pgP s w h d mt ec pr sz) (nSt h ec) (pgS s w h d mt ec pr sz) ∧ sz + (eL sz (pgS s w h d mt ec pr sz)).length + 4 * nSt h ec = nmP sz (pgQ s w h d mt ec pr) (nSt h ec) (nmL sz be (pgP s w h d mt ec pr sz) (nSt h ec) (pgS s w h d mt ec pr sz)) := by
    intro e
    have := nmL_2 (sz := sz) (be := be) (F := pgP s w h d mt ec pr sz) (G := pgQ s w h d mt ec pr) (L := pgS s w h d mt ec pr sz) e
    exact ⟨this.2.2.2.symm, this.2.2.1.symm⟩
  have done := fun (J gg : Nat → Int32) => p_M_b197 (gS := gS) (J := J) (gg := gg) g hl j3 j4 j5 j7 hbe hfin h1 h2
  by_cases e : nSt h ec = 1
  · have eN : pgN be s w h d mt ec pr sz = pgS s w h d mt ec pr sz := by
      unfold pgN nmL
      rw [if_pos e, if_pos e]
    rw [eN] at done
    refine ⟨1, ?_⟩
    unfold wp_M_write_l130 wp_M_write_b162
    refine br_f (nI_ge (by omega) (by omega)) (br_t (nI_le (b := 1) (by omega) (by omega)) ⟨1, ?_⟩)
    unfold wp_M_write_l165
    exact br_f (nI_ge (a := 0) (by omega) (by omega)) (br_t (nI_le (b := 1) (by omega) (by omega)) (done J gg hx))
  · obtain ⟨n1, n2, _, _⟩ := nmL_2 (sz := sz) (be := be) (F := pgP s w h d mt ec pr sz) (G := pgQ s w h d mt ec pr) (L := pgS s w h d mt ec pr sz) e
    have eN : eL sz (pgN be s w h d mt ec pr sz) = eL sz (pgS s w h d mt ec pr sz) ++ lgL be (pgP s w h d mt ec pr sz) (nSt h ec) ++ lgL be (pgQ s w h d mt ec pr) (nSt h ec) := by
      unfold pgN
      rw [n1, n2]
    rw [eN] at done
    have k2 : ∀ (m j : Nat) (J gg : Nat → Int32), j + m = nSt h ec → MA J0 g0 sz (eL sz (pgS s w h d mt ec pr sz) ++ lgL be (pgP s w h d mt ec pr sz) (nSt h ec) ++ lgL be (pgQ s w h d mt ec pr) j) J gg → wp_M_write_l165 post gl gc gS gt (m + 1) J da dr gg mn nb gp gs st (nI mt) (nI ec) (nI pr) (nI (nSt h ec)) (nI (sz + (eL sz (pgS s w h d mt ec pr sz)).length)) (nI j) := by
      intro m
      induction m with
      | zero =>
        intro j J gg hj x
        unfold wp_M_write_l165
        have : j = nSt h ec := by omega
        subst this
        exact br_t (nI_le (by omega) (by omega)) (done J gg x)
      | succ m ih =>
        intro j J gg hj x
        unfold wp_M_write_l165
        have hq := (g.P (show j < nSt h ec by omega)).2
        rw [nI_clamp (n := j) (by omega), (hnum j (by omega)).2, nI_1, nI_l (by omega)]
        refine br_f (nI_ge (by omega) (by omega)) (br_f (nI_ge (a := 1) (by omega) (by omega)) ⟨vp_in_nI (by omega) (by decide), x.number (n := 4) (by omega) hbe (by simp only [List.length_append, lgL_len]; omega) (by omega) (fun J2 g2 x2 => ih (j + 1) J2 g2 (by omega) ?_)⟩)
        rw [List.append_assoc] at x2
        exact x2
    have k1 : ∀ (m j : Nat) (J gg : Nat → Int32), j + m = nSt h ec → MA J0 g0 sz (eL sz (pgS s w h d mt ec pr sz) ++ lgL be (pgP s w h d mt ec pr sz) j) J gg → wp_M_write_l130 post gl gc gS gt (m + 1) J da dr gg mn nb gp gs st (nI mt) (nI ec) (nI pr) (nI (nSt h ec)) (nI (sz + (eL sz (pgS s w h d mt ec pr sz)).length)) (nI j) := by
      intro m
      induction m with
      | zero =>
        intro j J gg hj x
        unfold wp_M_write_l130 wp_M_write_b162
        have : j = nSt h ec := by omega
        subst this
        exact br_t (nI_le (by omega) (by omega)) ⟨nSt h ec + 1, k2 (nSt h ec) 0 J gg (by omega) (by simp only [lgL, List.append_nil]; exact x)⟩
      | succ m ih =>
        intro j J gg hj x
        unfold wp_M_write_l130
        have hq := (g.P (show j < nSt h ec by omega)).1
        rw [nI_clamp (n := j) (by omega), (hnum j (by omega)).1, nI_1, nI_l (by omega)]
        refine br_f (nI_ge (by omega) (by omega)) (br_f (nI_ge (a := 1) (by omega) (by omega)) ⟨vp_in_nI (by omega) (by decide), x.number (n := 4) (by omega) hbe (by simp only [List.length_append, lgL_len]; omega) (by omega) (fun J2 g2 x2 => ih (j + 1) J2 g2 (by omega) ?_)⟩)
        rw [List.append_assoc] at x2
        exact x2
    exact ⟨nSt h ec + 1, k1 (nSt h ec) 0 J gg (by omega) (by simp only [lgL, List.append_nil]; exact hx)⟩
end
/-- the call's three numbers are as they must be -/
def okW (h : Nat) (a b c : Int32) (mt ec pr : Nat) : Prop := a = nI mt ∧ b = nI ec ∧ c = nI pr ∧ mtO mt ∧ (pr = 1 ∨ pr = 2) ∧ 1 ≤ ec ∧ ec ≤ h
theorem okW.uni {h : Nat} {a b c : Int32} {mt ec pr mt' ec' pr' : Nat} (h1 : okW h a b c mt ec pr) (h2 : okW h a b c mt' ec' pr') (hh : h ≤ 16) : mt = mt' ∧ ec = ec' ∧ pr = pr' := by
  obtain ⟨a1, a2, a3, a4, a5, a6, a7⟩ := h1
  obtain ⟨b1, b2, b3, b4, b5, b6, b7⟩ := h2
  have m1 : mt < 2 ^ 31 := by rcases a4 with rfl | rfl | rfl <;> decide
  have m2 : mt' < 2 ^ 31 := by rcases b4 with rfl | rfl | rfl <;> decide
  exact ⟨(nI_eq m1 m2).mp (a1.symm.trans b1), (nI_eq (by omega) (by omega)).mp (a2.symm.trans b2), (nI_eq (by omega) (by omega)).mp (a3.symm.trans b3)⟩
theorem in_h {h : Nat} {b : Int32} (hh : h ≤ 16) (h1 : ¬ b < 1) (h2 : b ≤ nI h) : ∃ ec, b = nI ec ∧ 1 ≤ ec ∧ ec ≤ h := by
  have h0 : ¬ b < 0 := fun z => h1 (Int32.lt_trans z (by decide))
  obtain ⟨j, hj, rfl⟩ := nI_of h0
  have e1 : ¬ nI j < nI 1 := h1
  rw [nI_ltI hj (by decide)] at e1
  rw [nI_leI hj (by omega)] at h2
  exact ⟨j, rfl, by omega, h2⟩
theorem of_l {a : Int32} {n : Nat} (hn : n < 2 ^ 31) (h : a.toInt64 = lN n) : a = nI n := by
  rw [← nI_l hn] at h
  exact (L64eq a (nI n)).mp h
theorem p_M_write {post : Int32 → (Nat → Int32) → (Nat → Int32) → (Nat → Int32) → (Nat → Int32) → (Nat → Int32) → (Nat → Int32) → (Nat → Int32) → (Nat → Int32) → (Nat → Int32) → Prop} {gl gc gS gt J da dr gg mn nb gp gs st : Nat → Int32} {s : Nat → Nat → Nat} {w h d sz c : Nat} {tg ln : Nat → Nat} {ch : Nat → Nat → Nat} {b : Nat → Nat} {be : Bool} {x1 x2 x3 : Int32} (e1 : J 1 = nI sz) (hF : Fb sz b gg) (hz2 : sz ≤ 900) (hl : lb1 c tg ln ch gc gl gt) (j3 : J 3 = nI w) (j4 : J 4 = nI h) (j5 : J 5 = nI d) (j7 : J 7 = nI c) (hd : dpO d) (hw : 1 ≤ w) (hw2 : w ≤ 16) (hh : h ≤ 16) (hs : ∀ y x, y < h → x < w → s y x < 2 ^ d ∧ gS (16 * y + x) = nI (s y x)) (hbe : (gg 0 = nI 77) ↔ be = true)
  (k1 : (¬ ∃ mt ec pr, okW h x1 x2 x3 mt ec pr) → post (-1) J da dr gg mn nb gp gs st)
  (k2 : ∀ mt ec pr, okW h x1 x2 x3 mt ec pr → (wkR b sz).2.1 = false → ∀ J' dr', (∀ i, i < 11 → J' i = J i) → post (-2) J' da dr' gg mn nb gp gs st)
  (k3 : ∀ mt ec pr, okW h x1 x2 x3 mt ec pr → (wkR b sz).2.1 = true → (wkR b sz).1.length = 8 → ∀ J' dr', (∀ i, i < 11 → J' i = J i) → post (-3) J' da dr' gg mn nb gp gs st)
  (k4 : ∀ mt ec pr, okW h x1 x2 x3 mt ec pr → (wkR b sz).2.1 = true → (wkR b sz).1.length ≠ 8 → 900 < sz + (pgD be tg ln ch c s w h d mt ec pr sz).length → ∀ J' da' dr' g' mn' nb' gp' gs' st', (∀ i, i ≠ 2 → i < 11 → J' i = J i) → g' = puL gg sz (pgD be tg ln ch c s w h d mt ec pr sz) → post (-3) J' da' dr' g' mn' nb' gp' gs' st')
  (k5 : ∀ mt ec pr, okW h x1 x2 x3 mt ec pr → (wkR b sz).2.1 = true → (wkR b sz).1.length ≠ 8 → sz + (pgD be tg ln ch c s w h d mt ec pr sz).length ≤ 900 → ∀ J' da' dr' g' mn' nb' gp' gs' st', (∀ i, i ≠ 1 → i ≠ 2 → i < 11 → J' i = J i) → J' 1 = nI (sz + (pgD be tg ln ch c s w h d mt ec pr sz).length) → g' = puL (puL gg sz (pgD be tg ln ch c s w h d mt ec pr sz)) (wkR b sz).2.2 (bN be 4 (sz + (eL sz (pgT be tg ln ch c s w h d mt ec pr sz)).length)) → post (nI (pgD be tg ln ch c s w h d mt ec pr sz).length) J' da' dr' g' mn' nb' gp' gs' st') : wp_M_write post gl gc gS gt J da dr gg mn nb gp gs st x1 x2 x3 := by
  have h8 := hF.1
  obtain ⟨wk1, _, wk3, wk4⟩ := wkR_ok (b := b) h8
  have bad : ∀ (s0 : Int32), (s0 = 0 ∨ s0 = 1) → (s0 = 0 → ¬ ∃ mt, x1 = nI mt ∧ mtO mt) → (s0 = 1 → ∃ mt, x1 = nI mt ∧ mtO mt) → wp_M_write_b21 post gl gc gS gt J da dr gg mn nb gp gs st x1 x2 x3 s0 := by
    intro s0 hs0 z0 z1
    unfold wp_M_write_b21
    refine br_c (fun q => k1 (fun ⟨mt, ec, pr, ho⟩ => z0 q ⟨mt, ho.1, ho.2.2.2.1⟩)) (fun q => ?_)
    obtain ⟨mt, em, hmt⟩ := z1 (hs0.resolve_left q)
    refine br_c (fun q3 => k1 (fun ⟨mt, ec, pr, ho⟩ => ?_)) (fun q3 => br_c (fun q4 => k1 (fun ⟨mt, ec, pr, ho⟩ => ?_)) (fun q4 => br_c (fun q5 => k1 (fun ⟨mt, ec, pr, ho⟩ => ?_)) (fun q5 => ?_)))
    · rw [ho.2.2.1] at q3
      have e : nI pr < nI 1 := q3
      rw [nI_ltI (by have := ho.2.2.2.2.1; omega) (by decide)] at e
      have := ho.2.2.2.2.1
      omega
    · rw [ho.2.2.1] at q4
      have e : nI 2 < nI pr := q4
      rw [nI_ltI (by decide) (by have := ho.2.2.2.2.1; omega)] at e
      have := ho.2.2.2.2.1
      omega
    · rw [ho.2.1] at q5
      have e : nI ec < nI 1 := q5
      rw [nI_ltI (by have := ho.2.2.2.2.2; omega) (by decide)] at e
      have := ho.2.2.2.2.2
      omega
    rw [j4]
    refine br_c (fun q6 => ?_) (fun q6 => k1 (fun ⟨mt, ec, pr, ho⟩ => ?_))
    rotate_left
    · rw [ho.2.1] at q6
      rw [nI_leI (by have := ho.2.2.2.2.2; omega) (by omega)] at q6
      exact q6 ho.2.2.2.2.2.2
    obtain ⟨ec, ee, he, he2⟩ := in_h hh q5 q6
    have q3' : ¬ x3 < 0 := fun z => q3 (Int32.lt_trans z (by decide))
    obtain ⟨pr, hpr0, ep⟩ := nI_of q3'
    have hpr : pr = 1 ∨ pr = 2 := by
      rw [ep] at q3 q4
      have a1 : ¬ nI pr < nI 1 := q3
      have a2 : ¬ nI 2 < nI pr := q4
      rw [nI_ltI hpr0 (by decide)] at a1
      rw [nI_ltI (by decide) hpr0] at a2
      omega
    have ho : okW h x1 x2 x3 mt ec pr := ⟨em, ee, ep, hmt, hpr, he, he2⟩
    have hg : gd s w h d mt ec pr sz := ⟨hd, hmt, hw, hw2, hh, he, he2, hpr, fun y x hy hx => (hs y x hy hx).1, h8, hz2⟩
    have hn := nSt_le he he2
    refine p_walk e1 hF (fun J1 dr1 hm => ?_)
    obtain ⟨w1, w2, w3, w4, w5⟩ := hm
    have low : ∀ i, i < 11 → J1 i = J i := fun i hi => w5 i (by omega) (by omega) (by omega)
    rw [w2, w1]
    unfold wp_M_write_b73
    rw [w2]
    cases hb : (wkR b sz).2.1 with
    | false => exact br_t rfl (br_t rfl (k2 mt ec pr ho hb J1 dr1 low))
    | true =>
      refine br_f (by decide) (pk_eq (wkR b sz).1.length 8 (fun q8 => br_f (by decide) (k3 mt ec pr ho hb q8 J1 dr1 low)) (fun q8 => ?_))
      refine ⟨?_, ?_⟩
      · rw [ee]; exact nI_ne0 (by omega) (by omega)
      rw [low 4 (by decide), j4, low 1 (by decide), e1, em, ee, ep]
      have ens : (nI h + nI ec - 1) / nI ec = nI (nSt h ec) := by
        rw [nI_add, show (1 : Int32) = nI 1 from rfl, pk_sub (by omega), pk_div (by omega) (by omega) (by omega)]
        rfl
      rw [ens]
      have x0 : MA J1 gg sz [] (upd J1 2 (nI sz)) gg := ⟨rfl, fun j hj _ _ => by rw [upd_at, if_neg hj], (puL_nil gg sz).symm⟩
      have i3 : J1 3 = nI w := (low 3 (by decide)).trans j3
      have i4 : J1 4 = nI h := (low 4 (by decide)).trans j4
      have i5 : J1 5 = nI d := (low 5 (by decide)).trans j5
      have i7 : J1 7 = nI c := (low 7 (by decide)).trans j7
      refine p_M_lay (s := s) i3 i4 i5 hd hmt hpr hw hw2 hh he he2 hs x0 hz2 (fun J2 da2 g2 mn2 nb2 gp2 gs2 st2 x2' hnum => ?_)
      have hS := hg.S
      refine x2'.even (by unfold pgS at hS; omega) (fun J3 g3 x3' => ?_)
      rw [x3'.1]
      refine p_M_lists hg hl i3 i4 i5 i7 hbe (fun xx J' g' exx x' => ?_) hnum x3'
      have hD := hg.D hl be
      have j14 : J' 14 = nI (wkR b sz).2.2 := (x'.2.1 14 (by decide) (by decide) (by decide)).trans w3
      have j1' : J' 1 = nI sz := (x'.2.1 1 (by decide) (by decide) (by decide)).trans ((low 1 (by decide)).trans e1)
      have lo' : ∀ i, i ≠ 2 → i < 11 → J' i = J i := fun i h2 hi => (x'.2.1 i h2 (by omega) (by omega)).trans (low i hi)
      have hlo : (g' 0 = nI 77) ↔ be = true := x'.be (by omega) hbe
      rw [x'.1, j14, j1', exx]
      refine pk_le (sz + (pgD be tg ln ch c s w h d mt ec pr sz).length) 900 (fun q9 => ?_) (fun q9 => ?_) rfl rfl (by omega) (by decide)
      · refine p_M_store (n := 4) hlo (by omega) (by omega) (by omega) ?_
        rw [pk_sub (by omega), Nat.add_sub_cancel_left, x'.2.2]
        refine k5 mt ec pr ho hb q8 q9 _ _ _ _ _ _ _ _ _ (fun i h1 h2 hi => ?_) ?_ rfl
        · rw [upd_at, if_neg h1]; exact lo' i h2 hi
        · rw [upd_at, if_pos rfl]
      · exact k4 mt ec pr ho hb q8 q9 _ _ _ _ _ _ _ _ _ lo' x'.2.2
  unfold wp_M_write wp_M_write_b16
  refine br_c (fun z => bad 1 (Or.inr rfl) (fun y => absurd y (by decide)) (fun _ => ⟨1, z, Or.inl rfl⟩)) (fun z => br_c (fun z2 => bad 1 (Or.inr rfl) (fun y => absurd y (by decide)) (fun _ => ⟨5, z2, Or.inr (Or.inl rfl)⟩)) (fun z2 => br_c (fun z3 => bad 1 (Or.inr rfl) (fun y => absurd y (by decide)) (fun _ => ⟨32773, z3, Or.inr (Or.inr rfl)⟩)) (fun z3 => bad 0 (Or.inl rfl) (fun _ ⟨mt, e, hm⟩ => ?_) (fun y => absurd y (by decide)))))
  rcases hm with rfl | rfl | rfl
  · exact z e
  · exact z2 e
  · exact z3 e
