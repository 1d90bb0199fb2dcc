/-! load: the layout that a page's fields tell -/
theorem m1_ne {n : Nat} (h : n < 2 ^ 40) : ¬ (-1 : Int64) = lN n := fun q => by
  have h1 := congrArg Int64.toInt q
  rw [pk_lT (by omega)] at h1
  have h2 : Int64.toInt (-1) = -1 := by decide
  omega
def rng (v : Int64) : Prop := v = -1 ∨ ∃ n : Nat, n < 2 ^ 32 ∧ v = lN n
theorem vl_lt {b : Nat → Nat} {sz p n e k : Nat} {t : Int32} {f : Nat → Int32} (h : Fb sz b f) (g : gdE b sz p t n e) (hk : k < n) : vlE b e k < 2 ^ 32 := by
  obtain ⟨g1, g2, g3, g4⟩ := g
  obtain ⟨q1, q2⟩ := brk_f.mp g2
  have hin := in_al (u := unK (knd b e)) (k := k) (c := cnt b e) (by omega)
  have ea : unK (knd b e) * cnt b e = alB b e := rfl
  have hu := unK_le (knd b e)
  unfold vlE rdN
  have h1 := rdK_lt (b := b) (a := plc b e + unK (knd b e) * k) (n := unK (knd b e)) (fun j _ q => (h.2.2 j (by omega)).1) (unK (knd b e)) (Nat.le_refl _)
  have h2 : 256 ^ unK (knd b e) ≤ 256 ^ 4 := Nat.pow_le_pow_right (by decide) hu
  have h3 : (256 : Nat) ^ 4 = 2 ^ 32 := by decide
  omega
theorem onV.rng {b : Nat → Nat} {sz p : Nat} {t : Int32} {v : Int64} {f : Nat → Int32} (h : onV b sz p t v) (hf : Fb sz b f) : rng v := by
  rcases h with ⟨e, g, rfl⟩ | ⟨n, rfl⟩
  · exact Or.inr ⟨_, vl_lt hf g (by omega), rfl⟩
  · exact Or.inl rfl
theorem p_isSideL {post : Int32 → Prop} {v : Int64} (hv : rng v) (h1 : ∀ n : Nat, v = lN n → 1 ≤ n → n ≤ 16 → post 1) (h0 : (¬ ∃ n : Nat, v = lN n ∧ 1 ≤ n ∧ n ≤ 16) → post 0) : wp_X_isSide post v := by
  unfold wp_X_isSide wp_X_isSide_b18
  rcases hv with rfl | ⟨n, hn, rfl⟩
  · have no : ¬ ∃ n : Nat, (-1 : Int64) = lN n ∧ 1 ≤ n ∧ n ≤ 16 := fun ⟨n, q1, q2, q3⟩ => m1_ne (by omega) q1
    have a1 : (-1 : Int64) < 1 := by decide
    grind
  · rw [show (1 : Int64) = lN 1 from rfl, show (16 : Int64) = lN 16 from rfl, pk_lLT (by omega) (by decide), pk_lLT (by decide) (by omega)]
    have k0 : ¬ (1 ≤ n ∧ n ≤ 16) → post 0 := fun z => h0 (fun ⟨m, q1, q2, q3⟩ => z (by rw [pk_lEQ (by omega) (by omega)] at q1; omega))
    have k1 := h1 n rfl
    grind
def dpO (d : Nat) : Prop := d = 1 ∨ d = 2 ∨ d = 4 ∨ d = 8
theorem p_isDepthL {post : Int32 → Prop} {v : Int64} (h1 : ∀ n : Nat, v = lN n → dpO n → post 1) (h0 : (¬ ∃ n : Nat, v = lN n ∧ dpO n) → post 0) : wp_X_isDepth post v := by
  unfold wp_X_isDepth wp_X_isDepth_b30
  refine br_c (fun q => h1 1 q (Or.inl rfl)) (fun q1 => br_c (fun q => h1 2 q (Or.inr (Or.inl rfl))) (fun q2 => br_c (fun q => h1 4 q (Or.inr (Or.inr (Or.inl rfl)))) (fun q4 => br_c (fun q => h1 8 q (Or.inr (Or.inr (Or.inr rfl)))) (fun q8 => h0 ?_))))
  rintro ⟨n, rfl, rfl | rfl | rfl | rfl⟩
  · exact q1 rfl
  · exact q2 rfl
  · exact q4 rfl
  · exact q8 rfl
def mtO (d : Nat) : Prop := d = 1 ∨ d = 5 ∨ d = 32773
theorem p_isCompL {post : Int32 → Prop} {v : Int64} (h1 : ∀ n : Nat, v = lN n → mtO n → post 1) (h0 : (¬ ∃ n : Nat, v = lN n ∧ mtO n) → post 0) : wp_X_isCompression post v := by
  unfold wp_X_isCompression wp_X_isCompression_b22
  refine br_c (fun q => h1 1 q (Or.inl rfl)) (fun q1 => br_c (fun q => h1 5 q (Or.inr (Or.inl rfl))) (fun q2 => br_c (fun q => h1 32773 q (Or.inr (Or.inr rfl))) (fun q4 => h0 ?_)))
  rintro ⟨n, rfl, rfl | rfl | rfl⟩
  · exact q1 rfl
  · exact q2 rfl
  · exact q4 rfl
theorem p_isPredL {post : Int32 → Prop} {v : Int64} (h1 : ∀ n : Nat, v = lN n → (n = 1 ∨ n = 2) → post 1) (h0 : (¬ ∃ n : Nat, v = lN n ∧ (n = 1 ∨ n = 2)) → post 0) : wp_X_isPredictor post v := by
  unfold wp_X_isPredictor wp_X_isPredictor_b14
  refine br_c (fun q => h1 1 q (Or.inl rfl)) (fun q1 => br_c (fun q => h1 2 q (Or.inr rfl)) (fun q2 => h0 ?_))
  rintro ⟨n, rfl, rfl | rfl⟩
  · exact q1 rfl
  · exact q2 rfl
/-- the predictor's value -/
def prV (b : Nat → Nat) (sz p : Nat) (v : Int64) : Prop := (enT b p 317 = none ∧ v = lN 1) ∨ ((∃ e, enT b p 317 = some e) ∧ onV b sz p 317 v)
theorem prV.uni {b : Nat → Nat} {sz p : Nat} {v v' : Int64} (h : prV b sz p v) (h' : prV b sz p v') : v = v' := by
  rcases h with ⟨q, rfl⟩ | ⟨⟨e, q⟩, g⟩ <;> rcases h' with ⟨q', rfl⟩ | ⟨⟨e', q'⟩, g'⟩
  · rfl
  · rw [q] at q'; cases q'
  · rw [q] at q'; cases q'
  · exact g.uni g'
theorem prV.rng {b : Nat → Nat} {sz p : Nat} {v : Int64} {f : Nat → Int32} (h : prV b sz p v) (hf : Fb sz b f) : rng v := by
  rcases h with ⟨q, rfl⟩ | ⟨q, g⟩
  · exact Or.inr ⟨1, by decide, rfl⟩
  · exact g.rng hf
def nSt (rs ec : Nat) : Nat := (rs + ec - 1) / ec
def okG (b : Nat → Nat) (sz p cs rs dp mt ec pr e1 e2 : Nat) : Prop :=
  rsS b p (rdN b p 2) ∧ (onV b sz p 256 (lN cs) ∧ 1 ≤ cs ∧ cs ≤ 16) ∧ (onV b sz p 257 (lN rs) ∧ 1 ≤ rs ∧ rs ≤ 16) ∧ (onV b sz p 258 (lN dp) ∧ dpO dp) ∧ (onV b sz p 259 (lN mt) ∧ mtO mt) ∧ (∃ r : Nat, r < 2 ^ 32 ∧ onV b sz p 278 (lN r) ∧ 1 ≤ r ∧ ec = if r < rs then r else rs) ∧ (prV b sz p (lN pr) ∧ (pr = 1 ∨ pr = 2)) ∧ gdE b sz p 273 (nSt rs ec) e1 ∧ gdE b sz p 279 (nSt rs ec) e2
theorem nSt_le {rs ec : Nat} (h1 : 1 ≤ ec) (h2 : ec ≤ rs) : 1 ≤ nSt rs ec ∧ nSt rs ec ≤ rs := by
  unfold nSt
  constructor
  · rw [Nat.le_div_iff_mul_le h1]; omega
  · have h3 : rs + ec - 1 < (rs + 1) * ec := by
      have : rs * 1 ≤ rs * ec := Nat.mul_le_mul_left _ h1
      rw [Nat.add_mul]
      omega
    have := (Nat.div_lt_iff_lt_mul h1).mpr h3
    omega
theorem p_Ly_strips {post : Int32 → Prop} {I : Nat → Int32} {rs ec : Nat} (e1 : I 1 = nI rs) (e4 : I 4 = nI ec) (h1 : 1 ≤ ec) (h2 : ec ≤ rs) (h3 : rs ≤ 16) (hp : post (nI (nSt rs ec))) : wp_Ly_strips post I := by
  unfold wp_Ly_strips
  rw [e1, e4, nI_add, show (1 : Int32) = nI 1 from rfl, pk_sub (by omega), pk_div (by omega) (by omega) (by omega)]
  exact ⟨nI_ne0 (by omega) (by omega), hp⟩
theorem p_M_strips {post : Int32 → Prop} {I : Nat → Int32} {rs ec : Nat} (e1 : I 24 = nI rs) (e4 : I 27 = nI ec) (h1 : 1 ≤ ec) (h2 : ec ≤ rs) (h3 : rs ≤ 16) (hp : post (nI (nSt rs ec))) : wp_M_strips post I := by
  unfold wp_M_strips
  rw [e1, e4, nI_add, show (1 : Int32) = nI 1 from rfl, pk_sub (by omega), pk_div (by omega) (by omega) (by omega)]
  exact ⟨nI_ne0 (by omega) (by omega), hp⟩
/-- the class's layout object -/
def lyX (cs rs dp mt ec pr : Nat) (I : Nat → Int32) : Prop := I 0 = nI cs ∧ I 1 = nI rs ∧ I 2 = nI dp ∧ I 3 = nI mt ∧ I 4 = nI ec ∧ I 5 = nI pr
theorem lN_inj {a c : Nat} (ha : a < 2 ^ 40) (hc : c < 2 ^ 40) (h : lN a = lN c) : a = c := (pk_lEQ (by omega) (by omega)).mp h
theorem p_readLayout {post : Int32 → (Nat → Int32) → (Nat → Int64) → (Nat → Int32) → (Nat → Int32) → (Nat → Int64) → (Nat → Int32) → (Nat → Int64) → Prop} {I f In IY IS IP : Nat → Int32} {Ln LS LP : Nat → Int64} {sz p : Nat} {b : Nat → Nat} (e1 : I 1 = nI sz) (h : Fb sz b f) (hs : stS b sz p = true)
    (h0 : (¬ ∃ cs rs dp mt ec pr a1 a2, okG b sz p cs rs dp mt ec pr a1 a2) → ∀ (In : Nat → Int32) (Ln : Nat → Int64) (IY IS : Nat → Int32) (LS : Nat → Int64) (IP : Nat → Int32) (LP : Nat → Int64), post 0 In Ln IY IS LS IP LP)
    (h1 : ∀ cs rs dp mt ec pr a1 a2, okG b sz p cs rs dp mt ec pr a1 a2 → ∀ (In : Nat → Int32) (Ln : Nat → Int64) (IY IS : Nat → Int32) (LS : Nat → Int64) (IP : Nat → Int32) (LP : Nat → Int64), lyX cs rs dp mt ec pr IY → enX b sz a1 IP LP → enX b sz a2 IS LS → post 1 In Ln IY IS LS IP LP) : wp_X_readLayout post I f In Ln IY IS LS IP LP (nI p) := by
  unfold wp_X_readLayout
  refine p_tagsGoUp e1 h hs (fun up => br_f (by decide) ?_) (fun up => br_t rfl (h0 (fun ⟨cs, rs, dp, mt, ec, pr, a1, a2, g⟩ => up g.1) _ _ _ _ _ _ _))
  refine p_onlyNumber e1 h hs (fun v1 In1 Ln1 o1 => p_onlyNumber e1 h hs (fun v2 In2 Ln2 o2 => p_onlyNumber e1 h hs (fun v3 In3 Ln3 o3 => ?_)))
  refine p_isSideL (o1.rng h) (fun cs ec1 c1 c2 => br_f (by decide) ?_) (fun n => br_t rfl (h0 (fun ⟨cs, rs, dp, mt, ec, pr, a1, a2, g⟩ => n ⟨cs, o1.uni g.2.1.1, g.2.1.2⟩) _ _ _ _ _ _ _))
  refine p_isSideL (o2.rng h) (fun rs ec2 r1 r2 => br_f (by decide) ?_) (fun n => br_t rfl (h0 (fun ⟨cs, rs, dp, mt, ec, pr, a1, a2, g⟩ => n ⟨rs, o2.uni g.2.2.1.1, g.2.2.1.2⟩) _ _ _ _ _ _ _))
  refine p_isDepthL (fun dp ec3 d1 => br_f (by decide) ?_) (fun n => br_t rfl (h0 (fun ⟨cs, rs, dp, mt, ec, pr, a1, a2, g⟩ => n ⟨dp, o3.uni g.2.2.2.1.1, g.2.2.2.1.2⟩) _ _ _ _ _ _ _))
  subst ec1 ec2 ec3
  refine p_onlyNumber e1 h hs (fun v4 In4 Ln4 o4 => p_onlyNumber e1 h hs (fun v5 In5 Ln5 o5 => ?_))
  have fin : ∀ (v6 : Int64) (In6 : Nat → Int32) (Ln6 : Nat → Int64), prV b sz p v6 → wp_X_readLayout_b120 post I f In6 Ln6 IY IS LS IP LP (nI p) (lN cs) (lN rs) (lN dp) v4 (if v5 < lN rs then v5 else lN rs) v6 := by
    intro v6 In6 Ln6 o6
    unfold wp_X_readLayout_b120 wp_X_readLayout_b210 wp_Ly_become wp_Ly_choose
    refine p_isCompL (fun mt ec4 d4 => br_f (by decide) ?_) (fun n => br_t rfl (h0 (fun ⟨cs, rs, dp, mt, ec, pr, a1, a2, g⟩ => n ⟨mt, o4.uni g.2.2.2.2.1.1, g.2.2.2.2.1.2⟩) _ _ _ _ _ _ _))
    subst ec4
    have bad5 : (¬ ∃ r : Nat, r < 2 ^ 32 ∧ v5 = lN r ∧ 1 ≤ r) → (¬ ∃ cs rs dp mt ec pr a1 a2, okG b sz p cs rs dp mt ec pr a1 a2) := fun n => fun ⟨cs, rs, dp, mt, ec, pr, a1, a2, g⟩ => by
      obtain ⟨r, hr, q1, q2, q3⟩ := g.2.2.2.2.2.1
      exact n ⟨r, hr, o5.uni q1, q2⟩
    rcases o5.rng h with rfl | ⟨r, hr, rfl⟩
    · have a1 : (-1 : Int64) < lN rs := by
        rw [Int64.lt_iff_toInt_lt, pk_lT (by omega)]
        have h2 : Int64.toInt (-1) = -1 := by decide
        omega
      rw [if_pos a1]
      exact br_t (by decide) (h0 (bad5 (fun ⟨r, hr, q1, q2⟩ => m1_ne (by omega) q1)) _ _ _ _ _ _ _)
    · have ev : (if lN r < lN rs then lN r else lN rs) = lN (if r < rs then r else rs) := by
        by_cases q : r < rs
        · rw [if_pos q, if_pos ((pk_lLT (by omega) (by omega)).mpr q)]
        · rw [if_neg q, if_neg (fun z => q ((pk_lLT (by omega) (by omega)).mp z))]
      rw [ev]
      generalize hec : (if r < rs then r else rs) = ec
      have hel : ec ≤ rs := by rw [← hec]; split <;> omega
      rw [show (1 : Int64) = lN 1 from rfl, pk_lLT (by omega) (by decide)]
      refine br_c (fun q => h0 (bad5 (fun ⟨r', hr', q1, q2⟩ => ?_)) _ _ _ _ _ _ _) (fun q => ?_)
      · have := lN_inj (by omega) (by omega) q1
        subst this
        split at hec <;> omega
      refine p_isPredL (fun pr ec6 d6 => br_f (by decide) ?_) (fun n => br_t rfl (h0 (fun ⟨cs, rs, dp, mt, ec, pr, a1, a2, g⟩ => n ⟨pr, o6.uni g.2.2.2.2.2.2.1.1, g.2.2.2.2.2.2.1.2⟩) _ _ _ _ _ _ _))
      subst ec6
      simp only [lN_i]
      have hr1 : 1 ≤ r := by split at hec <;> omega
      have e4 : (if (1 : Int32) < nI ec then nI ec else 1) = nI ec := by
        by_cases z : 1 < ec
        · exact if_pos ((nI_ltI (a := 1) (by decide) (by omega)).mpr z)
        · refine (if_neg (fun y => z ((nI_ltI (a := 1) (by decide) (by omega)).mp y))).trans ?_
          rw [show ec = 1 by omega]
          rfl
      rw [e4]
      have hn := nSt_le (rs := rs) (ec := ec) (by omega) hel
      have hst : ∀ post' : Int32 → Prop, post' (nI (nSt rs ec)) → wp_Ly_strips post' (upd (upd (upd (upd (upd (upd IY 0 (nI cs)) 1 (nI rs)) 2 (nI dp)) 3 (nI mt)) 4 (nI ec)) 5 (nI pr)) := fun post' hp => p_Ly_strips (rs := rs) (ec := ec) rfl rfl (by omega) hel r2 hp
      have uq : ∀ cs' rs' dp' mt' ec' pr' a1 a2, okG b sz p cs' rs' dp' mt' ec' pr' a1 a2 → rs' = rs ∧ ec' = ec := by
        intro cs' rs' dp' mt' ec' pr' a1 a2 g
        have hg := g.2.2.1.2
        have q1 := lN_inj (by omega) (by omega) (o2.uni g.2.2.1.1)
        obtain ⟨r', hr', z1, z2, z3⟩ := g.2.2.2.2.2.1
        have q2 := lN_inj (by omega) (by omega) (o5.uni z1)
        subst q1
        subst q2
        exact ⟨rfl, z3.trans hec⟩
      refine p_findStrips e1 h hs (n := nSt rs ec) (by omega) hst (fun IP' LP' n => br_t rfl (h0 (fun ⟨cs', rs', dp', mt', ec', pr', a1, a2, g⟩ => ?_) _ _ _ _ _ _ _)) (fun a1 IP' LP' g1 x1 => br_f (by decide) ?_)
      · obtain ⟨rfl, rfl⟩ := uq _ _ _ _ _ _ _ _ g
        exact n ⟨a1, g.2.2.2.2.2.2.2.1⟩
      refine p_findStrips e1 h hs (n := nSt rs ec) (by omega) hst (fun IS' LS' n => br_t rfl (h0 (fun ⟨cs', rs', dp', mt', ec', pr', a1, a2, g⟩ => ?_) _ _ _ _ _ _ _)) (fun a2 IS' LS' g2 x2 => br_f (by decide) ?_)
      · obtain ⟨rfl, rfl⟩ := uq _ _ _ _ _ _ _ _ g
        exact n ⟨a2, g.2.2.2.2.2.2.2.2⟩
      exact h1 cs rs dp mt ec pr a1 a2 ⟨up, ⟨o1, c1, c2⟩, ⟨o2, r1, r2⟩, ⟨o3, d1⟩, ⟨o4, d4⟩, ⟨r, hr, o5, hr1, hec.symm⟩, ⟨o6, d6⟩, g1, g2⟩ _ _ _ _ _ _ _ ⟨rfl, rfl, rfl, rfl, rfl, rfl⟩ x1 x2
  refine p_En_find e1 h hs (fun z => br_t rfl (fin _ _ _ (Or.inl ⟨z, rfl⟩))) (fun e z In6 Ln6 hx => br_f (by decide) (p_onlyNumber e1 h hs (fun v6 In7 Ln7 o6 => fin _ _ _ (Or.inr ⟨⟨e, z⟩, o6⟩))))
/-- the reference's fields of the layout -/
def lyM (cs rs dp mt ec pr : Nat) (J : Nat → Int32) : Prop := J 23 = nI cs ∧ J 24 = nI rs ∧ J 25 = nI dp ∧ J 26 = nI mt ∧ J 27 = nI ec ∧ J 28 = nI pr
theorem rng_lt1 {v : Int64} (h : rng v) : v < 1 ↔ ¬ ∃ n : Nat, n < 2 ^ 32 ∧ v = lN n ∧ 1 ≤ n := by
  rcases h with rfl | ⟨n, hn, rfl⟩
  · exact ⟨fun _ => fun ⟨n, q1, q2, q3⟩ => m1_ne (by omega) q2, fun _ => by decide⟩
  · rw [show (1 : Int64) = lN 1 from rfl, pk_lLT (by omega) (by decide)]
    exact ⟨fun q => fun ⟨m, q1, q2, q3⟩ => by have := lN_inj (by omega) (by omega) q2; omega, fun q => Nat.lt_of_not_le (fun z => q ⟨n, hn, rfl, z⟩)⟩
theorem p_M_fields {post : Int32 → (Nat → Int32) → (Nat → Int32) → Prop} {J g dr : Nat → Int32} {sz i p : Nat} {b : Nat → Nat} (e1 : J 1 = nI sz) (h : Fb sz b g) (hi : i < (wkR b sz).1.length) (ep : (wkR b sz).1.getD i 0 = p)
    (h0 : (¬ ∃ cs rs dp mt ec pr a1 a2, okG b sz p cs rs dp mt ec pr a1 a2) → ∀ J' dr' : Nat → Int32, (∀ j, j < 11 → J' j = J j) → post 0 J' dr')
    (h1 : ∀ cs rs dp mt ec pr a1 a2, okG b sz p cs rs dp mt ec pr a1 a2 → ∀ J' dr' : Nat → Int32, (∀ j, j < 11 → J' j = J j) → lyM cs rs dp mt ec pr J' → post 1 J' dr') : wp_M_fields post g J dr (nI i) := by
  have h8 := h.1
  have h4 := h.2.1
  have hok := wkR_ok (b := b) (sz := sz) h8
  have hl := hok.1
  have hs : stS b sz p = true := ep ▸ wk_mem h8 hi
  unfold wp_M_fields
  have eJ : ∀ {J1 J2 d : Nat → Int32}, wM (wkR b sz) J1 J2 d → J1 1 = nI sz → J2 1 = nI sz := fun q1 q2 => (q1.2.2.2.2 1 (by decide) (by decide) (by decide)).trans q2
  refine p_M_one e1 h hi (fun v1 J1 d1 m1 o1 => ?_)
  have j1 := eJ m1 e1
  refine p_M_one j1 h hi (fun v2 J2 d2 m2 o2 => ?_)
  have j2 := eJ m2 j1
  refine p_M_one j2 h hi (fun v3 J3 d3 m3 o3 => ?_)
  have j3 := eJ m3 j2
  refine p_M_one j3 h hi (fun v4 J4 d4 m4 o4 => ?_)
  have j4 := eJ m4 j3
  refine p_M_one j4 h hi (fun v5 J5 d5 m5 o5 => ?_)
  have j5 := eJ m5 j4
  have ma := (((m1.trans m2).trans m3).trans m4).trans m5
  rw [ep] at o1 o2 o3 o4 o5
  have fin : ∀ (v6 : Int64) (J6 d6 : Nat → Int32), prV b sz p v6 → wM (wkR b sz) J J6 d6 → wp_M_fields_b72 post g J6 d6 (nI i) v1 v2 v3 v4 v5 v6 := by
    intro v6 J6 d6 o6 m6
    have j6 := eJ m6 e1
    have lo : ∀ j, j < 11 → J6 j = J j := fun j hj => m6.2.2.2.2 j (by omega) (by omega) (by omega)
    unfold wp_M_fields_b72
    refine p_M_rising (p := p) h (by omega) (by rw [m6.2.2.2.1 i hi, ep]) hs (fun up => br_f (by decide) ?_) (fun up => br_t rfl (h0 (fun ⟨cs, rs, dp, mt, ec, pr, a1, a2, g⟩ => up g.1) _ _ lo))
    rw [rng_lt1 (o1.rng h), rng_lt1 (o2.rng h), rng_lt1 (o5.rng h), rng_lt1 (o6.rng h)]
    refine br_c (fun n => h0 (fun ⟨cs, rs, dp, mt, ec, pr, a1, a2, g⟩ => n ⟨cs, by have := g.2.1.2; omega, o1.uni g.2.1.1, g.2.1.2.1⟩) _ _ lo) (fun n => ?_)
    obtain ⟨cs, c0, rfl, c1⟩ := Classical.not_not.mp n
    rw [show (16 : Int64) = lN 16 from rfl, pk_lLT (by decide) (by omega)]
    refine br_c (fun n => h0 (fun ⟨cs', rs, dp, mt, ec, pr, a1, a2, g⟩ => by have z := g.2.1.2; have := lN_inj (by omega) (by omega) (o1.uni g.2.1.1); omega) _ _ lo) (fun c2 => ?_)
    refine br_c (fun n => h0 (fun ⟨cs, rs, dp, mt, ec, pr, a1, a2, g⟩ => n ⟨rs, by have := g.2.2.1.2; omega, o2.uni g.2.2.1.1, g.2.2.1.2.1⟩) _ _ lo) (fun n => ?_)
    obtain ⟨rs, r0, rfl, r1⟩ := Classical.not_not.mp n
    rw [pk_lLT (by decide) (by omega)]
    refine br_c (fun n => h0 (fun ⟨cs', rs', dp, mt, ec, pr, a1, a2, g⟩ => by have z := g.2.2.1.2; have := lN_inj (by omega) (by omega) (o2.uni g.2.2.1.1); omega) _ _ lo) (fun r2 => ?_)
    refine br_c (fun n => h0 (fun ⟨cs, rs, dp, mt, ec, pr, a1, a2, g⟩ => by obtain ⟨r, z0, z1, z2, z3⟩ := g.2.2.2.2.2.1; exact n ⟨r, z0, o5.uni z1, z2⟩) _ _ lo) (fun n => ?_)
    obtain ⟨r, hr, rfl, hr1⟩ := Classical.not_not.mp n
    have bad6 : (¬ ∃ n : Nat, v6 = lN n ∧ (n = 1 ∨ n = 2)) → ¬ ∃ cs rs dp mt ec pr a1 a2, okG b sz p cs rs dp mt ec pr a1 a2 := fun n => fun ⟨cs, rs, dp, mt, ec, pr, a1, a2, g⟩ => n ⟨pr, o6.uni g.2.2.2.2.2.2.1.1, g.2.2.2.2.2.2.1.2⟩
    refine br_c (fun n => h0 (bad6 (fun ⟨m, q1, q2⟩ => n ⟨m, by omega, q1, by omega⟩)) _ _ lo) (fun n => ?_)
    obtain ⟨pr, p0, rfl, p1⟩ := Classical.not_not.mp n
    rw [show (2 : Int64) = lN 2 from rfl, pk_lLE (by omega) (by decide)]
    refine br_c (fun p2 => ?_) (fun n => h0 (bad6 (fun ⟨m, q1, q2⟩ => by have := lN_inj (by omega) (by omega) q1; omega)) _ _ lo)
    have f171 : ∀ dp : Nat, v3 = lN dp → dpO dp → wp_M_fields_b171 post g J6 d6 (nI i) (lN cs) (lN rs) v3 v4 (lN r) (lN pr) := by
      intro dp ev3 hdp
      subst ev3
      have f198 : ∀ mt : Nat, v4 = lN mt → mtO mt → wp_M_fields_b198 post g J6 d6 (nI i) (lN cs) (lN rs) (lN dp) v4 (lN r) (lN pr) := by
        intro mt ev4 hmt
        subst ev4
        unfold wp_M_fields_b198
        intro w1 q1 w2 q2 w3 q3 w4 q4
        rw [lN_i] at q1 q2 q3 q4
        subst q1 q2 q3 q4
        have f241 : ∀ ec : Nat, (if r < rs then r else rs) = ec → wp_M_fields_b241 post g (upd (upd (upd (upd J6 23 (nI cs)) 24 (nI rs)) 25 (nI dp)) 26 (nI mt)) d6 (nI i) (lN pr) (lN ec) := by
          intro ec hec
          have hel : ec ≤ rs := by rw [← hec]; split <;> omega
          have he1 : 1 ≤ ec := by rw [← hec]; split <;> omega
          unfold wp_M_fields_b241 wp_M_fields_b290
          intro w1 q1 w2 q2
          rw [lN_i] at q1 q2
          subst q1 q2
          have hn := nSt_le (rs := rs) (ec := ec) he1 hel
          refine p_M_strips (rs := rs) (ec := ec) rfl rfl he1 hel (by omega) ?_
          rw [nI_l (by omega)]
          have uq : ∀ cs' rs' dp' mt' ec' pr' a1 a2, okG b sz p cs' rs' dp' mt' ec' pr' a1 a2 → rs' = rs ∧ ec' = ec := by
            intro cs' rs' dp' mt' ec' pr' a1 a2 g
            have hg := g.2.2.1.2
            have q1 := lN_inj (by omega) (by omega) (o2.uni g.2.2.1.1)
            obtain ⟨r', hr', z1, z2, z3⟩ := g.2.2.2.2.2.1
            have q2 := lN_inj (by omega) (by omega) (o5.uni z1)
            subst q1
            subst q2
            exact ⟨rfl, z3.trans hec⟩
          have lo2 : ∀ j, j < 11 → upd (upd (upd (upd (upd (upd J6 23 (nI cs)) 24 (nI rs)) 25 (nI dp)) 26 (nI mt)) 27 (nI ec)) 28 (nI pr) j = J j := fun j hj => by
            simp only [upd_at]
            rw [if_neg (by omega), if_neg (by omega), if_neg (by omega), if_neg (by omega), if_neg (by omega), if_neg (by omega)]
            exact lo j hj
          refine p_M_good (n := nSt rs ec) (by rw [lo2 1 (by decide)]; exact e1) h hi (by omega) (fun J7 d7 m7 n => br_t (by decide) (h0 (fun ⟨cs', rs', dp', mt', ec', pr', a1, a2, g⟩ => ?_) _ _ (fun j hj => (m7.2.2.2.2 j (by omega) (by omega) (by omega)).trans (lo2 j hj)))) (fun a1 J7 d7 m7 g1 => ?_)
          · obtain ⟨rfl, rfl⟩ := uq _ _ _ _ _ _ _ _ g
            rw [ep] at n
            exact n ⟨a1, g.2.2.2.2.2.2.2.1⟩
          rw [ep] at g1
          have lo7 : ∀ j, j < 11 → J7 j = J j := fun j hj => (m7.2.2.2.2 j (by omega) (by omega) (by omega)).trans (lo2 j hj)
          have a1t := enT_in hs g1.1
          refine br_f (nI_pos (by omega)) ?_
          refine p_M_good (n := nSt rs ec) (by rw [lo7 1 (by decide)]; exact e1) h hi (by omega) (fun J8 d8 m8 n => br_t (by decide) (h0 (fun ⟨cs', rs', dp', mt', ec', pr', a1, a2, g⟩ => ?_) _ _ (fun j hj => (m8.2.2.2.2 j (by omega) (by omega) (by omega)).trans (lo7 j hj)))) (fun a2 J8 d8 m8 g2 => ?_)
          · obtain ⟨rfl, rfl⟩ := uq _ _ _ _ _ _ _ _ g
            rw [ep] at n
            exact n ⟨a2, g.2.2.2.2.2.2.2.2⟩
          rw [ep] at g2
          have a2t := enT_in hs g2.1
          have mm := m7.trans m8
          refine br_f (nI_pos (by omega)) (h1 cs rs dp mt ec pr a1 a2 ⟨up, ⟨o1, c1, by omega⟩, ⟨o2, r1, by omega⟩, ⟨o3, hdp⟩, ⟨o4, hmt⟩, ⟨r, hr, o5, hr1, hec.symm⟩, ⟨o6, by omega⟩, g1, g2⟩ _ _ (fun j hj => (m8.2.2.2.2 j (by omega) (by omega) (by omega)).trans (lo7 j hj)) ⟨?_, ?_, ?_, ?_, ?_, ?_⟩)
          · exact mm.2.2.2.2 23 (by decide) (by decide) (by decide)
          · exact mm.2.2.2.2 24 (by decide) (by decide) (by decide)
          · exact mm.2.2.2.2 25 (by decide) (by decide) (by decide)
          · exact mm.2.2.2.2 26 (by decide) (by decide) (by decide)
          · exact mm.2.2.2.2 27 (by decide) (by decide) (by decide)
          · exact mm.2.2.2.2 28 (by decide) (by decide) (by decide)
        rw [pk_lLE (by omega) (by omega)]
        exact br_c (fun q => f241 rs (if_neg (by omega))) (fun q => f241 r (if_pos (by omega)))
      unfold wp_M_fields_b171
      refine br_c (fun q => f198 1 q (Or.inl rfl)) (fun q1 => br_c (fun q => f198 5 q (Or.inr (Or.inl rfl))) (fun q2 => br_c (fun q => f198 32773 q (Or.inr (Or.inr rfl))) (fun q4 => h0 ?_ _ _ lo)))
      intro ⟨cs, rs, dp, mt, ec, pr, a1, a2, g⟩
      have e4 := o4.uni g.2.2.2.2.1.1
      rcases g.2.2.2.2.1.2 with rfl | rfl | rfl
      · exact q1 e4
      · exact q2 e4
      · exact q4 e4
    refine br_c (fun q => f171 1 q (Or.inl rfl)) (fun q1 => br_c (fun q => f171 2 q (Or.inr (Or.inl rfl))) (fun q2 => br_c (fun q => f171 4 q (Or.inr (Or.inr (Or.inl rfl)))) (fun q4 => br_c (fun q => f171 8 q (Or.inr (Or.inr (Or.inr rfl)))) (fun q8 => h0 ?_ _ _ lo))))
    intro ⟨cs, rs, dp, mt, ec, pr, a1, a2, g⟩
    have e4 := o3.uni g.2.2.2.1.1
    rcases g.2.2.2.1.2 with rfl | rfl | rfl | rfl
    · exact q1 e4
    · exact q2 e4
    · exact q4 e4
    · exact q8 e4
  have same : ∀ j, nI i = nI j → j < (wkR b sz).1.length → i = j := fun j q q2 => (nI_eq (by omega) (by omega)).mp q
  refine p_M_entry j5 h (fun J6 d6 m6 q => absurd ⟨nI_pos' (by omega), nI_lt hi (by omega)⟩ q) (fun J6 d6 m6 j hj eq hn => br_f (by decide) (fin _ _ _ (Or.inl ⟨?_, rfl⟩) (ma.trans m6))) (fun J6 d6 m6 j e hj eq hn => br_t (nI_pos' ?_) (p_M_one (eJ m6 j5) h hi (fun v6 J7 d7 m7 o6 => fin _ _ _ (Or.inr ⟨⟨e, ?_⟩, ep ▸ o6⟩) ((ma.trans m6).trans m7))))
  · have := same j eq hj
    subst this
    rw [← ep]; exact hn
  · have := same j eq hj
    subst this
    have := enT_in (wk_mem h8 hi) hn
    omega
  · have := same j eq hj
    subst this
    rw [← ep]; exact hn
