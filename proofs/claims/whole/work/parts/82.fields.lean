/-! load: the fields of a page -/
/-- the entry of the tag has n numbers, SHORT or LONG, and stands at e -/
def gdE (b : Nat → Nat) (sz p : Nat) (t : Int32) (n e : Nat) : Prop := enT b p t = some e ∧ ¬ brk b sz e = true ∧ 2 ≤ unK (knd b e) ∧ cnt b e = n
theorem gdE.uni {b : Nat → Nat} {sz p n e e' : Nat} {t : Int32} (h : gdE b sz p t n e) (h' : gdE b sz p t n e') : e = e' := Option.some.inj (h.1.symm.trans h'.1)
theorem unK2 (k : Nat) : 2 ≤ unK k ↔ (k = 3 ∨ k = 4) := by
  rcases unK_cases k with ⟨u, q⟩ | ⟨u, q⟩ | ⟨u, q⟩ | ⟨u, q⟩ <;> omega
/-- the only number of a field, or -1 -/
def onV (b : Nat → Nat) (sz p : Nat) (t : Int32) (v : Int64) : Prop := (∃ e, gdE b sz p t 1 e ∧ v = lN (vlE b e 0)) ∨ ((¬ ∃ e, gdE b sz p t 1 e) ∧ v = -1)
theorem onV.uni {b : Nat → Nat} {sz p : Nat} {t : Int32} {v v' : Int64} (h : onV b sz p t v) (h' : onV b sz p t v') : v = v' := by
  rcases h with ⟨e, g, rfl⟩ | ⟨n, rfl⟩ <;> rcases h' with ⟨e', g', rfl⟩ | ⟨n', rfl⟩
  · rw [g.uni g']
  · exact absurd ⟨e, g⟩ n'
  · exact absurd ⟨e', g'⟩ n
  · rfl
theorem p_isNumbers {post : Int32 → Prop} {In : Nat → Int32} {Ln : Nat → Int64} {b : Nat → Nat} {sz e n : Nat} (hx : enX b sz e In Ln) (hk : knd b e < 65536) (hc : cnt b e < 2 ^ 40) (hn : n < 2 ^ 31) (h1 : ¬ brk b sz e = true → 2 ≤ unK (knd b e) → cnt b e = n → post 1) (h0 : ¬ (¬ brk b sz e = true ∧ 2 ≤ unK (knd b e) ∧ cnt b e = n) → post 0) : wp_En_isNumbers post In Ln (nI n) := by
  rw [unK2] at h1 h0
  obtain ⟨x0, x3, x1, x2⟩ := hx
  unfold wp_En_isNumbers wp_En_isNumbers_b33 wp_En_isNumbers_b37
  rw [x0, x1, x3, nI_l hn, pk_lEQ (by omega) (by omega), show (3 : Int32) = nI 3 from rfl, show (4 : Int32) = nI 4 from rfl, nI_eq (by omega) (by decide), nI_eq (by omega) (by decide)]
  have hb : (b1 (brk b sz e) = 0) ↔ ¬ brk b sz e = true := by
    cases brk b sz e <;> simp [b1]
  rw [hb]
  refine br_c (fun q1 => br_c (fun q2 => br_c (fun q3 => h1 q1 (Or.inl q3) q2) (fun q3 => br_c (fun q4 => h1 q1 (Or.inr q4) q2) (fun q4 => h0 (fun z => z.2.1.elim q3 q4)))) (fun q2 => h0 (fun z => q2 z.2.2))) (fun q1 => h0 (fun z => q1 z.1))
theorem p_onlyNumber {post : Int64 → (Nat → Int32) → (Nat → Int64) → Prop} {I f In : Nat → Int32} {Ln : Nat → Int64} {sz p : Nat} {t : Int32} {b : Nat → Nat} (e1 : I 1 = nI sz) (h : Fb sz b f) (hs : stS b sz p = true) (hp : ∀ (v : Int64) (In' : Nat → Int32) (Ln' : Nat → Int64), onV b sz p t v → post v In' Ln') : wp_X_onlyNumber post I f In Ln (nI p) t := by
  unfold wp_X_onlyNumber
  refine p_En_find e1 h hs (fun z => br_t rfl (hp _ _ _ (Or.inr ⟨fun y => ?_, rfl⟩))) (fun e z In' Ln' hx => br_f (by decide) ?_)
  · obtain ⟨e, g⟩ := y
    have := g.1
    rw [z] at this
    cases this
  · have hat := enT_in hs z
    obtain ⟨a1, a2, a3, a4⟩ := al_lt h (e := e) (by omega)
    rw [show (1 : Int32) = nI 1 from rfl]
    refine p_isNumbers hx a1 (by omega) (by decide) (fun q1 q2 q3 => br_f (by decide) ?_) (fun q => br_t rfl (hp _ _ _ (Or.inr ⟨fun y => ?_, rfl⟩)))
    · exact p_En_value (k := 0) e1 h (by omega) hx q1 (by omega) (hp _ _ _ (Or.inl ⟨e, ⟨z, q1, q2, q3⟩, rfl⟩))
    · obtain ⟨e', g⟩ := y
      have : e = e' := Option.some.inj (z.symm.trans g.1)
      subst this
      exact q ⟨g.2.1, g.2.2.1, g.2.2.2⟩
theorem p_findStrips {post : Int32 → (Nat → Int32) → (Nat → Int64) → Prop} {I f IY In : Nat → Int32} {Ln : Nat → Int64} {sz p n : Nat} {t : Int32} {b : Nat → Nat} (e1 : I 1 = nI sz) (h : Fb sz b f) (hs : stS b sz p = true) (hn : n < 2 ^ 31) (hst : ∀ post' : Int32 → Prop, post' (nI n) → wp_Ly_strips post' IY) (h0 : ∀ (In' : Nat → Int32) (Ln' : Nat → Int64), (¬ ∃ e, gdE b sz p t n e) → post 0 In' Ln') (h1 : ∀ (e : Nat) (In' : Nat → Int32) (Ln' : Nat → Int64), gdE b sz p t n e → enX b sz e In' Ln' → post 1 In' Ln') : wp_X_findStripNumbers post I f IY In Ln (nI p) t := by
  unfold wp_X_findStripNumbers wp_X_findStripNumbers_b31
  refine p_En_find e1 h hs (fun z => br_t rfl (h0 _ _ (fun y => ?_))) (fun e z In' Ln' hx => br_f (by decide) (hst _ ?_))
  · obtain ⟨e, g⟩ := y
    have := g.1
    rw [z] at this
    cases this
  · have hat := enT_in hs z
    obtain ⟨a1, a2, a3, a4⟩ := al_lt h (e := e) (by omega)
    refine p_isNumbers hx a1 (by omega) hn (fun q1 q2 q3 => br_f (by decide) (h1 e _ _ ⟨z, q1, q2, q3⟩ hx)) (fun q => br_t rfl (h0 _ _ (fun y => ?_)))
    obtain ⟨e', g⟩ := y
    have : e = e' := Option.some.inj (z.symm.trans g.1)
    subst this
    exact q ⟨g.2.1, g.2.2.1, g.2.2.2⟩
theorem wM.trans {r : List Nat × Bool × Nat} {J J1 J2 d1 d2 : Nat → Int32} (h1 : wM r J J1 d1) (h2 : wM r J1 J2 d2) : wM r J J2 d2 := ⟨h2.1, h2.2.1, h2.2.2.1, h2.2.2.2.1, fun i q1 q2 q3 => (h2.2.2.2.2 i q1 q2 q3).trans (h1.2.2.2.2 i q1 q2 q3)⟩
theorem p_M_good {post : Int32 → (Nat → Int32) → (Nat → Int32) → Prop} {J g dr : Nat → Int32} {sz i n : Nat} {b : Nat → Nat} {t : Int32} (e1 : J 1 = nI sz) (h : Fb sz b g) (hi : i < (wkR b sz).1.length) (hn : n < 2 ^ 40) (h0 : ∀ J' dr' : Nat → Int32, wM (wkR b sz) J J' dr' → (¬ ∃ e, gdE b sz ((wkR b sz).1.getD i 0) t n e) → post (-1) J' dr') (h1 : ∀ (e : Nat) (J' dr' : Nat → Int32), wM (wkR b sz) J J' dr' → gdE b sz ((wkR b sz).1.getD i 0) t n e → post (nI e) J' dr') : wp_M_good post g J dr (nI i) t (lN n) := by
  have h8 := h.1
  have h4 := h.2.1
  have hl := (wkR_ok (b := b) h8).1
  unfold wp_M_good wp_M_good_b48
  have same : ∀ j, nI i = nI j → j < (wkR b sz).1.length → i = j := fun j q q2 => (nI_eq (by omega) (by omega)).mp q
  refine p_M_entry e1 h (fun J' dr' hm q => absurd ⟨nI_pos' (by omega), nI_lt hi (by omega)⟩ q) (fun J' dr' hm j hj ep hnn => ?_) (fun J' dr' hm j e hj ep hs => ?_)
  · have := same j ep hj
    subst this
    refine br_t (by decide) (h0 J' dr' hm (fun y => ?_))
    obtain ⟨e, g⟩ := y
    have := g.1
    rw [hnn] at this
    cases this
  · have := same j ep hj
    subst this
    have hat := enT_in (wk_mem h8 hi) hs
    obtain ⟨a1, a2, a3, a4⟩ := al_lt h (e := e) (by omega)
    have eJ : J' 1 = nI sz := (hm.2.2.2.2 1 (by decide) (by decide) (by decide)).trans e1
    have no : ¬ (¬ brk b sz e = true ∧ 2 ≤ unK (knd b e) ∧ cnt b e = n) → post (-1) J' dr' := fun q => h0 J' dr' hm (fun y => by
      obtain ⟨e', g⟩ := y
      have : e = e' := Option.some.inj (hs.symm.trans g.1)
      subst this
      exact q ⟨g.2.1, g.2.2.1, g.2.2.2⟩)
    have hu := unK_le (knd b e)
    refine br_f (nI_pos (by omega)) (p_M_unit h (by omega) ?_)
    rw [show (2 : Int32) = nI 2 from rfl, nI_ltI (by omega) (by decide)]
    refine br_c (fun q => no (by omega)) (fun q => p_M_values eJ h (by omega) (fun hb => br_t (by decide) (no (fun z => z.1 hb))) (fun hb => ?_))
    rw [show (0 : Int64) = lN 0 from rfl, pk_lLT (by omega) (by decide), show (4 : Int32) = nI 4 from rfl, nI_add]
    refine br_f (by omega) (p_M_read (n := 4) h (by omega) (by decide) ?_)
    have ec : rdN b (e + 4) 4 = cnt b e := rfl
    rw [ec, pk_lEQ (by omega) (by omega)]
    exact br_c (fun q2 => h1 e J' dr' hm ⟨hs, hb, by omega, q2⟩) (fun q2 => no (fun z => q2 z.2.2))
theorem p_M_one {post : Int64 → (Nat → Int32) → (Nat → Int32) → Prop} {J g dr : Nat → Int32} {sz i : Nat} {b : Nat → Nat} {t : Int32} (e1 : J 1 = nI sz) (h : Fb sz b g) (hi : i < (wkR b sz).1.length) (hp : ∀ (v : Int64) (J' dr' : Nat → Int32), wM (wkR b sz) J J' dr' → onV b sz ((wkR b sz).1.getD i 0) t v → post v J' dr') : wp_M_one post g J dr (nI i) t := by
  have h8 := h.1
  have hl := (wkR_ok (b := b) h8).1
  unfold wp_M_one
  rw [show (1 : Int64) = lN 1 from rfl]
  refine p_M_good e1 h hi (by decide) (fun J' dr' hm n => br_f (by decide) (hp _ _ _ hm (Or.inr ⟨n, rfl⟩))) (fun e J' dr' hm hg => ?_)
  have hat := enT_in (wk_mem h8 hi) hg.1
  have h4 := h.2.1
  have eJ : J' 1 = nI sz := (hm.2.2.2.2 1 (by decide) (by decide) (by decide)).trans e1
  have hse : SE b sz (nI i) t e := ⟨i, hi, rfl, hg.1, hg.2.1⟩
  refine br_t (nI_pos' (by omega)) (p_M_field eJ h (fun J2 d2 hm2 n => absurd ⟨e, 0, hse, rfl, by rw [hg.2.2.2]; omega⟩ n) (fun e' k' J2 d2 hm2 y1 y2 y3 => ?_))
  have := SE.uni h8 hse y1
  subst this
  rw [hg.2.2.2] at y3
  have : k' = 0 := by omega
  subst this
  exact hp _ _ _ (hm.trans hm2) (Or.inl ⟨e, hg, rfl⟩)
/-- the tags of the directory's entries go up -/
def rsS (b : Nat → Nat) (p n : Nat) : Prop := ∀ k, k + 1 < n → rdN b (p + 2 + 12 * k) 2 < rdN b (p + 2 + 12 * (k + 1)) 2
theorem p_tagsGoUp {post : Int32 → Prop} {I f : Nat → Int32} {sz p : Nat} {b : Nat → Nat} (e1 : I 1 = nI sz) (h : Fb sz b f) (hs : stS b sz p = true) (h1 : rsS b p (rdN b p 2) → post 1) (h0 : ¬ rsS b p (rdN b p 2) → post 0) : wp_X_tagsGoUp post I f (nI p) := by
  have s3 := stS_iff.mp hs
  have h4 := h.2.1
  unfold wp_X_tagsGoUp
  refine p_St_shortAt e1 h (by omega) ?_
  have key : ∀ (m k : Nat) (x : Int32), k + m = rdN b p 2 → (k = 0 → x = -1) → (∀ j, k = j + 1 → x = nI (rdN b (p + 2 + 12 * j) 2)) → (∀ j, j + 1 < k → rdN b (p + 2 + 12 * j) 2 < rdN b (p + 2 + 12 * (j + 1)) 2) → wp_X_tagsGoUp_l14 post I f (m + 1) (nI p) (nI (rdN b p 2)) x (nI k) := by
    intro m
    induction m with
    | zero =>
      intro k x hk q0 q1 q2
      unfold wp_X_tagsGoUp_l14
      have : k = rdN b p 2 := by omega
      rw [← this] at h1
      exact br_t (nI_le (by omega) (by omega)) (h1 q2)
    | succ m ih =>
      intro k x hk q0 q1 q2
      unfold wp_X_tagsGoUp_l14
      rw [show (2 : Int32) = nI 2 from rfl, show (12 : Int32) = nI 12 from rfl, nI_add, pk_mul, nI_add, nI_1]
      refine br_f (nI_ge (by omega) (by omega)) (p_St_shortAt e1 h (by omega) ?_)
      have l2 := h.lt2 (a := p + 2 + 12 * k) (by omega)
      rcases Nat.eq_zero_or_pos k with hk0 | hk0
      · rw [q0 hk0]
        refine br_t ?_ (ih (k + 1) _ (by omega) (fun q => absurd q (by omega)) (fun j q => by rw [show j = k by omega]) (fun j q => absurd q (by omega)))
        have : (0 : Int32) ≤ nI (rdN b (p + 2 + 12 * k) 2) := nI_pos' (by omega)
        grind
      · obtain ⟨j, rfl⟩ : ∃ j, k = j + 1 := ⟨k - 1, by omega⟩
        have l1 := h.lt2 (a := p + 2 + 12 * j) (by omega)
        rw [q1 j rfl, nI_ltI (by omega) (by omega)]
        refine br_c (fun q => ih (j + 1 + 1) _ (by omega) (fun z => absurd z (by omega)) (fun i z => by rw [show i = j + 1 by omega]) (fun i z => ?_)) (fun q => h0 (fun z => q (z j (by omega))))
        by_cases hij : i = j
        · rw [hij]; exact q
        · exact q2 i (by omega)
  exact ⟨rdN b p 2 + 1, key (rdN b p 2) 0 (-1) (by omega) (fun _ => rfl) (fun j q => absurd q (by omega)) (fun j q => absurd q (by omega))⟩
theorem p_M_rising {post : Int32 → Prop} {J g dr : Nat → Int32} {sz p i : Nat} {b : Nat → Nat} (h : Fb sz b g) (hi : i < 8) (hd : dr i = nI p) (hs : stS b sz p = true) (h1 : rsS b p (rdN b p 2) → post 1) (h0 : ¬ rsS b p (rdN b p 2) → post 0) : wp_M_rising post J dr g (nI i) := by
  have s3 := stS_iff.mp hs
  have h4 := h.2.1
  unfold wp_M_rising
  refine ⟨vp_in_nI hi (by decide), ?_⟩
  rw [nI_clamp (by omega), hd]
  refine p_M_read (n := 2) h (by omega) (by decide) ?_
  rw [lN_i]
  have key : ∀ (m k : Nat), (k + m = rdN b p 2) → 1 ≤ k → (∀ j, j + 1 < k → rdN b (p + 2 + 12 * j) 2 < rdN b (p + 2 + 12 * (j + 1)) 2) → wp_M_rising_l15 post J dr g (m + 1) (nI i) (nI (rdN b p 2)) (nI k) := by
    intro m
    induction m with
    | zero =>
      intro k hk hk1 q2
      unfold wp_M_rising_l15
      have : k = rdN b p 2 := by omega
      rw [← this] at h1
      exact br_t (nI_le (by omega) (by omega)) (h1 q2)
    | succ m ih =>
      intro k hk hk1 q2
      unfold wp_M_rising_l15
      obtain ⟨j, rfl⟩ : ∃ j, k = j + 1 := ⟨k - 1, by omega⟩
      rw [nI_clamp (by omega), hd, show (2 : Int32) = nI 2 from rfl, show (12 : Int32) = nI 12 from rfl, show (10 : Int32) = nI 10 from rfl, nI_add, pk_mul, nI_add, nI_add, pk_sub (by omega), nI_1, show p + 12 * (j + 1) - 10 = p + 2 + 12 * j by omega]
      have v : vp_in (nI i) 8 := vp_in_nI hi (by decide)
      refine br_f (nI_ge (by omega) (by omega)) ⟨v, p_M_read (n := 2) h (by omega) (by decide) ⟨v, p_M_read (n := 2) h (by omega) (by decide) ?_⟩⟩
      have l1 := h.lt2 (a := p + 2 + 12 * j) (by omega)
      have l2 := h.lt2 (a := p + 2 + 12 * (j + 1)) (by omega)
      rw [pk_lLT (by omega) (by omega)]
      refine br_c (fun q => ih (j + 1 + 1) (by omega) (by omega) (fun i' z => ?_)) (fun q => h0 (fun z => q (z j (by omega))))
      by_cases hij : i' = j
      · rw [hij]; exact q
      · exact q2 i' (by omega)
  refine ⟨rdN b p 2, ?_⟩
  have := key (rdN b p 2 - 1) 1 (by omega) (by omega) (fun j q => absurd q (by omega))
  rw [show rdN b p 2 - 1 + 1 = rdN b p 2 by omega] at this
  exact this
