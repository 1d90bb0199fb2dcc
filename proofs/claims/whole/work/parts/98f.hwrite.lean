/-! write: what the law's loop needs of it -/
theorem p_X_write {post : Int32 → (Nat → Int32) → (Nat → Int32) → (Nat → Int32) → (Nat → Int32) → (Nat → Int32) → (Nat → Int32) → (Nat → Int32) → (Nat → Int32) → (Nat → Int32) → (Nat → Int32) → (Nat → Int32) → (Nat → Int32) → (Nat → Int32) → Prop} {IL fc fs ft IPi fS f Ie e1 e2 e3 I fb IY W pl wl wp wt : Nat → Int32} {s : Nat → Nat → Nat} {w h d sz c : Nat} {tg ln : Nat → Nat} {ch : Nat → Nat → Nat} {b : Nat → Nat} {be : Bool} {x1 x2 x3 : Int32} (i1 : I 1 = nI sz) (hF : Fb sz b fb) (hz2 : sz ≤ 900) (hl : lb1 c tg ln ch fc fs ft) (p1 : IPi 1 = nI w) (p2 : IPi 2 = nI h) (p3 : IPi 3 = nI d) (el : IL 3 = nI c) (hd : dpO d) (hw : 1 ≤ w) (hw2 : w ≤ 16) (hh : h ≤ 16) (hs : ∀ y x, y < h → x < w → s y x < 2 ^ d ∧ fS (16 * y + x) = nI (s y x)) (hbe : (fb 0 = nI 77) ↔ be = true)
  (k1 : (¬ ∃ mt ec pr, okW h x1 x2 x3 mt ec pr) → post (-1) f Ie e1 e2 e3 I fb IY W pl wl wp wt)
  (k2 : ∀ mt ec pr, okW h x1 x2 x3 mt ec pr → (wkR b sz).2.1 = false → ∀ W' pl', post (-2) f Ie e1 e2 e3 I fb IY W' pl' wl wp wt)
  (k3 : ∀ mt ec pr, okW h x1 x2 x3 mt ec pr → (wkR b sz).2.1 = true → (wkR b sz).1.length = 8 → ∀ W' pl', post (-3) f Ie e1 e2 e3 I fb IY W' pl' wl wp wt)
  (k4 : ∀ mt ec pr, okW h x1 x2 x3 mt ec pr → (wkR b sz).2.1 = true → (wkR b sz).1.length ≠ 8 → 900 < sz + (pgD be tg ln ch c s w h d mt ec pr sz).length → ∀ f' Ie' e1' e2' e3' I' fb' IY' W' pl' wl' wp' wt', I' 1 = I 1 → fb' = apL fb sz (pgD be tg ln ch c s w h d mt ec pr sz) → post (-3) f' Ie' e1' e2' e3' I' fb' IY' W' pl' wl' wp' wt')
  (k5 : ∀ mt ec pr, okW h x1 x2 x3 mt ec pr → (wkR b sz).2.1 = true → (wkR b sz).1.length ≠ 8 → sz + (pgD be tg ln ch c s w h d mt ec pr sz).length ≤ 900 → ∀ f' Ie' e1' e2' e3' I' fb' IY' W' pl' wl' wp' wt', I' 1 = nI (sz + (pgD be tg ln ch c s w h d mt ec pr sz).length) → fb' = puL (apL fb sz (pgD be tg ln ch c s w h d mt ec pr sz)) (wkR b sz).2.2 (bN be 4 (sz + (eL sz (pgT be tg ln ch c s w h d mt ec pr sz)).length)) → post (nI (pgD be tg ln ch c s w h d mt ec pr sz).length) f' Ie' e1' e2' e3' I' fb' IY' W' pl' wl' wp' wt') : wp_X_write post IL fc fs ft IPi fS f Ie e1 e2 e3 I fb IY W pl wl wp wt x1 x2 x3 := by
  have h8 := hF.1
  obtain ⟨wk1, _, wk3, wk4⟩ := wkR_ok (b := b) h8
  unfold wp_X_write
  refine p_isCompL (fun mt em hmt => br_f (by decide) ?_) (fun no => br_t rfl (k1 (fun ⟨mt, ec, pr, ho⟩ => ?_)))
  rotate_left
  · refine no ⟨mt, ?_, ho.2.2.2.1⟩
    rw [ho.1, nI_l (by rcases ho.2.2.2.1 with rfl | rfl | rfl <;> decide)]
  have em := of_l (by rcases hmt with rfl | rfl | rfl <;> decide) em
  refine p_isPredL (fun pr ep hpr => br_f (by decide) ?_) (fun no => br_t rfl (k1 (fun ⟨mt, ec, pr, ho⟩ => ?_)))
  rotate_left
  · refine no ⟨pr, ?_, ho.2.2.2.2.1⟩
    rw [ho.2.2.1, nI_l (by have := ho.2.2.2.2.1; omega)]
  have ep := of_l (by omega) ep
  refine br_c (fun q5 => k1 (fun ⟨mt, ec, pr, ho⟩ => ?_)) (fun q5 => ?_)
  · rw [ho.2.1] at q5
    have e : nI ec < nI 1 := q5
    rw [nI_ltI (by have := ho.2.2.2.2.2; omega) (by decide)] at e
    have := ho.2.2.2.2.2
    omega
  rw [p2]
  refine br_c (fun q6 => ?_) (fun q6 => k1 (fun ⟨mt, ec, pr, ho⟩ => ?_))
  rotate_left
  · rw [ho.2.1] at q6
    rw [nI_leI (by have := ho.2.2.2.2.2; omega) (by omega)] at q6
    exact q6 ho.2.2.2.2.2.2
  obtain ⟨ec, ee, he, he2⟩ := in_h hh q5 q6
  have ho : okW h x1 x2 x3 mt ec pr := ⟨em, ee, ep, hmt, hpr, he, he2⟩
  have hg : gd s w h d mt ec pr sz := ⟨hd, hmt, hw, hw2, hh, he, he2, hpr, fun y x hy hx => (hs y x hy hx).1, h8, hz2⟩
  refine p_follow i1 hF (fun W1 pl1 hm => ?_)
  obtain ⟨w1, w2, w3, w4⟩ := hm
  rw [w2, w1, w3]
  cases hb : (wkR b sz).2.1 with
  | false => exact br_t rfl (k2 mt ec pr ho hb W1 pl1)
  | true =>
    refine br_f (by decide) (pk_eq (wkR b sz).1.length 8 (fun q8 => k3 mt ec pr ho hb q8 W1 pl1) (fun q8 => ?_))
    unfold wp_Ly_become wp_Ly_choose wp_St_startAppending
    rw [em, ee, ep, p1, p3, i1]
    have hch : (if (1 : Int32) < nI ec then nI ec else 1) = nI ec := by
      by_cases q : (1 : Int32) < nI ec
      · rw [if_pos q]
      · rw [if_neg q]
        have e : ¬ nI 1 < nI ec := q
        rw [nI_ltI (by decide) (by omega)] at e
        rw [show ec = 1 by omega]
        rfl
    rw [hch]
    have x0 : XA I fb sz [] (upd I 2 (nI sz)) fb := ⟨rfl, fun j hj => by rw [upd_at, if_neg hj], (apL_nil fb sz).symm⟩
    refine p_X_page (s := s) hg hl el ⟨rfl, rfl, rfl, rfl, rfl, rfl⟩ p1 p2 p3 hs x0 hbe (fun f' Ie' e1' e2' e3' I' fb' wl' wp' wt' x' => ?_)
    have hD := hg.D hl be
    have j1' : I' 1 = nI sz := (x'.2.1 1 (by decide)).trans i1
    rw [x'.1]
    refine pk_le (sz + (pgD be tg ln ch c s w h d mt ec pr sz).length) 900 (fun q9 => ?_) (fun q9 => ?_) rfl rfl (by omega) (by decide)
    · refine p_putLong j1' hz2 (by omega) wk4 (by omega) (x'.be (by omega) hbe) ?_
      unfold wp_St_keepAppended
      rw [x'.1, j1', pk_sub (by omega), Nat.add_sub_cancel_left, x'.2.2]
      exact k5 mt ec pr ho hb q8 q9 _ _ _ _ _ _ _ _ _ _ _ _ _ (by rw [upd_at, if_pos rfl]) rfl
    · exact k4 mt ec pr ho hb q8 q9 _ _ _ _ _ _ _ _ _ _ _ _ _ (j1'.trans i1.symm) x'.2.2
def nwB (sz a : Nat) (B D : List Nat) (b : Nat → Nat) (j : Nat) : Nat := if a ≤ j ∧ j < a + B.length then B.getD (j - a) 0 else if sz ≤ j then D.getD (j - sz) 0 else b j
theorem RF.page {sz a : Nat} {b : Nat → Nat} {I f J g I' f' J' g' : Nat → Int32} {B D : List Nat} (h : RF sz b I f J g) (hB : aB B) (hD : aB D) (hz : sz + D.length ≤ 900) (i1 : I' 1 = nI (sz + D.length)) (j1 : J' 1 = nI (sz + D.length)) (ef : f' = puL (apL f sz D) a B) (eg : g' = puL (puL g sz D) a B) : RF (sz + D.length) (nwB sz a B D b) I' f' J' g' := by
  obtain ⟨_, _, h3, h4, h5⟩ := h
  refine ⟨i1, j1, by omega, hz, fun j hj => ?_⟩
  subst ef eg
  unfold nwB puL apL
  by_cases q : a ≤ j ∧ j < a + B.length
  · rw [if_pos q, if_pos q, if_pos q]
    exact ⟨getD_lt (by decide) hB, rfl, rfl⟩
  · rw [if_neg q, if_neg q, if_neg q]
    by_cases q2 : sz ≤ j
    · rw [if_pos q2, if_pos ⟨q2, hj, by omega⟩, if_pos ⟨q2, hj⟩]
      exact ⟨getD_lt (by decide) hD, rfl, rfl⟩
    · rw [if_neg q2, if_neg (fun z => q2 z.1), if_neg (fun z => q2 z.1)]
      exact h5 j (by omega)
theorem RF.full {sz : Nat} {b : Nat → Nat} {I f J g I' f' J' g' : Nat → Int32} {D : List Nat} (h : RF sz b I f J g) (i1 : I' 1 = I 1) (j1 : J' 1 = J 1) (ef : f' = apL f sz D) (eg : g' = puL g sz D) : RF sz b I' f' J' g' := by
  obtain ⟨h1, h2, h3, h4, h5⟩ := h
  refine ⟨i1.trans h1, j1.trans h2, h3, h4, fun j hj => ?_⟩
  rw [ef, eg, apL_low hj, puL_low hj]
  exact h5 j hj
theorem hwrite : HWrite := by
  unfold HWrite
  intro f D zs st IE e1 e2 e3 In Ln I fb IL fc fs ft IY IPi fS IS LS IP LP W pl wl wp wt J da dr g gl gc mn nx nb gp sm gz sr gt hrel x1 x2 x3 Wr K hP kk
  obtain ⟨⟨sz, b, hF⟩, ⟨w, h, d, s, hPi⟩, ⟨c, tg, ln, ch, hLb⟩⟩ := id hrel
  obtain ⟨⟨pi1, pj3, pi2, pj4, pi3, pj5⟩, ⟨pw1, pw2, ph1, ph2, pd⟩, ps⟩ := id hPi
  obtain ⟨lbX, lbM⟩ := hLb.lb
  have z2 : sz ≤ 900 := hF.2.2.2.1
  have h8 : 8 ≤ sz := hF.2.2.1
  have hbX : (fb 0 = nI 77) ↔ decide (b 0 = 77) = true := by
    obtain ⟨q1, q2, q3⟩ := hF.2.2.2.2 0 (by omega)
    rw [q2, nI_eq (by omega) (by decide), decide_eq_true_iff]
  have hbM : (g 0 = nI 77) ↔ decide (b 0 = 77) = true := by
    obtain ⟨q1, q2, q3⟩ := hF.2.2.2.2 0 (by omega)
    rw [q3, nI_eq (by omega) (by decide), decide_eq_true_iff]
  have fr : ∀ (I' f' J' g' : Nat → Int32) (sz' : Nat) (b' : Nat → Nat), RF sz' b' I' f' J' g' → (∀ i, i ≠ 1 → i ≠ 2 → i < 11 → J' i = J i) → Rel I' f' IPi fS IL fc fs ft J' g' sm gl gc gt := fun I' f' J' g' sz' b' hr lo => ⟨⟨sz', b', hr⟩, ⟨w, h, d, s, hPi.frame (lo 3 (by decide) (by decide) (by decide)) (lo 4 (by decide) (by decide) (by decide)) (lo 5 (by decide) (by decide) (by decide))⟩, ⟨c, tg, ln, ch, hLb.frame (lo 7 (by decide) (by decide) (by decide))⟩⟩
  have sX : ∀ y x, y < h → x < w → s y x < 2 ^ d ∧ fS (16 * y + x) = nI (s y x) := fun y x hy hx => ⟨(ps y x hy hx).1, (ps y x hy hx).2.1⟩
  have sM : ∀ y x, y < h → x < w → s y x < 2 ^ d ∧ sm (16 * y + x) = nI (s y x) := fun y x hy hx => ⟨(ps y x hy hx).1, (ps y x hy hx).2.2⟩
  refine p_X_write (s := s) (be := decide (b 0 = 77)) hF.1 hF.fX z2 lbX pi1 pi2 pi3 hLb.1.1 pd pw1 pw2 ph2 sX hbX ?_ ?_ ?_ ?_ ?_
  · intro no
    refine hP _ (p_M_write (s := s) (be := decide (b 0 = 77)) hF.2.1 hF.fM z2 lbM pj3 pj4 pj5 hLb.1.2.1 pd pw1 pw2 ph2 sM hbM ?_ ?_ ?_ ?_ ?_)
    · intro _
      exact ⟨fun _ => kk _ _ _ _ _ _ _ _ _ _ _ _ _ _ _ _ _ _ _ _ _ _ (fr _ _ _ _ sz b hF (fun i _ _ _ => rfl)), fun z => z rfl⟩
    · intro mt ec pr ho
      exact absurd ⟨mt, ec, pr, ho⟩ no
    · intro mt ec pr ho
      exact absurd ⟨mt, ec, pr, ho⟩ no
    · intro mt ec pr ho
      exact absurd ⟨mt, ec, pr, ho⟩ no
    · intro mt ec pr ho
      exact absurd ⟨mt, ec, pr, ho⟩ no
  · intro mt ec pr ho hb W' pl'
    refine hP _ (p_M_write (s := s) (be := decide (b 0 = 77)) hF.2.1 hF.fM z2 lbM pj3 pj4 pj5 hLb.1.2.1 pd pw1 pw2 ph2 sM hbM ?_ ?_ ?_ ?_ ?_)
    · intro no
      exact absurd ⟨mt, ec, pr, ho⟩ no
    · intro mt' ec' pr' _ _ J' dr' lo
      exact ⟨fun _ => kk _ _ _ _ _ _ _ _ _ _ _ _ _ _ _ _ _ _ _ _ _ _ (fr _ _ _ _ sz b (hF.frame (lo 1 (by decide))) (fun i _ _ hi => lo i hi)), fun z => z rfl⟩
    · intro mt' ec' pr' _ hb'
      rw [hb] at hb'; cases hb'
    · intro mt' ec' pr' _ hb'
      rw [hb] at hb'; cases hb'
    · intro mt' ec' pr' _ hb'
      rw [hb] at hb'; cases hb'
  · intro mt ec pr ho hb h8' W' pl'
    refine hP _ (p_M_write (s := s) (be := decide (b 0 = 77)) hF.2.1 hF.fM z2 lbM pj3 pj4 pj5 hLb.1.2.1 pd pw1 pw2 ph2 sM hbM ?_ ?_ ?_ ?_ ?_)
    · intro no
      exact absurd ⟨mt, ec, pr, ho⟩ no
    · intro mt' ec' pr' _ hb'
      rw [hb] at hb'; cases hb'
    · intro mt' ec' pr' _ _ _ J' dr' lo
      exact ⟨fun _ => kk _ _ _ _ _ _ _ _ _ _ _ _ _ _ _ _ _ _ _ _ _ _ (fr _ _ _ _ sz b (hF.frame (lo 1 (by decide))) (fun i _ _ hi => lo i hi)), fun z => z rfl⟩
    · intro mt' ec' pr' _ _ n8
      exact absurd h8' n8
    · intro mt' ec' pr' _ _ n8
      exact absurd h8' n8
  · intro mt ec pr ho hb h8' hfull f' Ie' e1' e2' e3' I' fb' IY' W' pl' wl' wp' wt' i1 ef
    refine hP _ (p_M_write (s := s) (be := decide (b 0 = 77)) hF.2.1 hF.fM z2 lbM pj3 pj4 pj5 hLb.1.2.1 pd pw1 pw2 ph2 sM hbM ?_ ?_ ?_ ?_ ?_)
    · intro no
      exact absurd ⟨mt, ec, pr, ho⟩ no
    · intro mt' ec' pr' _ hb'
      rw [hb] at hb'; cases hb'
    · intro mt' ec' pr' _ _ n8
      exact absurd n8 h8'
    · intro mt' ec' pr' ho' _ _ hfull' J' da' dr' g' mn' nb' gp' gs' st' lo eg
      obtain ⟨rfl, rfl, rfl⟩ := ho.uni ho' ph2
      exact ⟨fun _ => kk _ _ _ _ _ _ _ _ _ _ _ _ _ _ _ _ _ _ _ _ _ _ (fr _ _ _ _ sz b (hF.full i1 (lo 1 (by decide) (by decide)) ef eg) (fun i _ h2 hi => lo i h2 hi)), fun z => z rfl⟩
    · intro mt' ec' pr' ho' _ _ hfit
      obtain ⟨rfl, rfl, rfl⟩ := ho.uni ho' ph2
      omega
  · intro mt ec pr ho hb h8' hfit f' Ie' e1' e2' e3' I' fb' IY' W' pl' wl' wp' wt' i1 ef
    refine hP _ (p_M_write (s := s) (be := decide (b 0 = 77)) hF.2.1 hF.fM z2 lbM pj3 pj4 pj5 hLb.1.2.1 pd pw1 pw2 ph2 sM hbM ?_ ?_ ?_ ?_ ?_)
    · intro no
      exact absurd ⟨mt, ec, pr, ho⟩ no
    · intro mt' ec' pr' _ hb'
      rw [hb] at hb'; cases hb'
    · intro mt' ec' pr' _ _ n8
      exact absurd n8 h8'
    · intro mt' ec' pr' ho' _ _ hfull'
      obtain ⟨rfl, rfl, rfl⟩ := ho.uni ho' ph2
      omega
    · intro mt' ec' pr' ho' _ _ _ J' da' dr' g' mn' nb' gp' gs' st' lo j1 eg
      obtain ⟨rfl, rfl, rfl⟩ := ho.uni ho' ph2
      have hg : gd s w h d mt ec pr sz := ⟨pd, ho.2.2.2.1, pw1, pw2, ph2, ho.2.2.2.2.2.1, ho.2.2.2.2.2.2, ho.2.2.2.2.1, fun y x hy hx => (ps y x hy hx).1, h8, z2⟩
      exact ⟨fun _ => kk _ _ _ _ _ _ _ _ _ _ _ _ _ _ _ _ _ _ _ _ _ _ (fr _ _ _ _ _ _ (hF.page (aB.bN _ _ _) (hg.D lbX _).2.1 hfit i1 j1 ef eg) lo), fun z => z rfl⟩
