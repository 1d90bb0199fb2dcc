/-! load: strips of codes, the reference's side -/
theorem p_M_decode {post : Int32 → (Nat → Int32) → (Nat → Int32) → (Nat → Int32) → Prop} {J fb mn nb st : Nat → Int32} {sz a n want : Nat} {b : Nat → Nat} (h : Fb sz b fb) (ha : a + n ≤ sz) (hw : want ≤ 256) (h1 : ∀ acc mn' nb' st', dNb b a n (2 * want) (8 * n + 1) 0 [] [] = some acc → gX nb nb' 0 acc → post 1 mn' nb' st') (h0 : dNb b a n (2 * want) (8 * n + 1) 0 [] [] = none → ∀ mn' nb' st', post 0 mn' nb' st') : wp_M_decode post J fb mn nb st (nI a) (nI n) (nI (2 * want)) := by
  have h4 := h.2.1
  unfold wp_M_decode
  have key : ∀ (m bit : Nat) (acc : List Nat) (tab : List (Nat × Nat)) (mn nb' st : Nat → Int32), 8 * n < bit + m → bit ≤ 8 * n → tab.length ≤ bit → acc.length ≤ 2 * want → (∀ x ∈ acc, x < 16) → gX nb nb' 0 acc → tbK acc tab → tbA 110 0 tab st mn → (∀ l mn' nb' st', dNb b a n (2 * want) m bit acc tab = some l → gX nb nb' 0 l → post 1 mn' nb' st') → (dNb b a n (2 * want) m bit acc tab = none → ∀ mn' nb' st', post 0 mn' nb' st') → wp_M_decode_l9 post J fb m mn nb' st (nI a) (nI n) (nI (2 * want)) (nI bit) (nI (tab.length + 1)) (nI acc.length) := by
    intro m
    induction m with
    | zero => intro bit acc tab mn nb' st q1 q2; omega
    | succ m ih =>
      intro bit acc tab mn nb' st q1 q2 q4 q5 q6 hx hk hA k1 k0
      unfold wp_M_decode_l9
      have hwd := wdN_le (tab.length + 1)
      unfold dNb at k1 k0
      refine p_M_width (by omega) ?_
      rw [show (8 : Int32) = nI 8 from rfl, pk_mul, nI_add bit]
      refine pk_lt (8 * n) (bit + wdN (tab.length + 1)) (fun z2 => ?_) (fun z2 => ?_)
      · rw [if_pos (by omega)] at k0
        exact k0 rfl _ _ _
      rw [if_neg (by omega)] at k1 k0
      refine p_M_width (by omega) (p_M_code (n := n) h ha hwd.2 (by omega) (p_M_width (by omega) ?_))
      have hc := rdB_lt b a bit (wdN (tab.length + 1))
      have hp7 : 2 ^ wdN (tab.length + 1) ≤ 2 ^ 7 := Nat.pow_le_pow_right (by decide) hwd.2
      generalize rdB b a bit (wdN (tab.length + 1)) = c at k1 k0 hc ⊢
      rw [nI_add bit]
      refine pk_eq c 17 (fun z3 => pk_eq acc.length (2 * want) (fun z4 => ?_) (fun z4 => ?_)) (fun z3 => ?_)
      · rw [if_pos z3, if_pos (by omega)] at k1
        exact k1 _ _ _ _ rfl hx
      · rw [if_pos z3, if_neg (by omega)] at k0
        exact k0 rfl _ _ _
      rw [if_neg z3] at k1 k0
      -- the end of a code that gives z nibbles
      have note : ∀ (z : Nat) (acc' : List Nat) (nb'' : Nat → Int32) (x8 : Int32) (m' k : Nat), c ≠ 16 → z ≤ k → k < 2 ^ 20 → 1 ≤ z → acc'.length = acc.length + z → acc'.length ≤ 2 * want → (∀ x ∈ acc', x < 16) → gX nb nb'' 0 acc' → (∀ l mn' nb' st', dNb b a n (2 * want) m (bit + wdN (tab.length + 1)) acc' (tab ++ [(acc.length, z)]) = some l → gX nb nb' 0 l → post 1 mn' nb' st') → (dNb b a n (2 * want) m (bit + wdN (tab.length + 1)) acc' (tab ++ [(acc.length, z)]) = none → ∀ mn' nb' st', post 0 mn' nb' st') → wp_M_decode_l142 post (wp_M_decode_l9 post J fb m) J fb (m' + 1) mn nb'' st (nI a) (nI n) (nI (2 * want)) (nI (bit + wdN (tab.length + 1))) (nI (tab.length + 1)) (nI acc.length) (nI c) x8 (nI z) (nI k) := by
        intro z acc' nb'' x8 m' k y0 yk yk2 y1 y2 y3 y4 y5 y6 y7
        have el : (tab ++ [(acc.length, z)]).length = tab.length + 1 := by simp
        unfold wp_M_decode_l142 wp_M_decode_b217 wp_M_decode_b239
        rw [nI_1, nI_add acc.length, ← y2, nI_clamp (n := tab.length + 1) (by omega)]
        have n16 : ¬ nI c = 16 := fun z => y0 ((nI_eq (b := 16) (by omega) (by decide)).mp z)
        refine br_t (nI_le yk (by omega)) (pk_lt 110 (tab.length + 1) (fun y8 => br_f n16 ?_) (fun y8 => ⟨vp_in_nI (by omega) (by decide), vp_in_nI (by omega) (by decide), br_f n16 ?_⟩))
        · have := ih (bit + wdN (tab.length + 1)) acc' (tab ++ [(acc.length, z)]) mn nb'' st (by omega) (by omega) (by rw [el]; omega) y3 y4 y5 (hk.snoc y1 y2) (hA.full (by omega)) y6 y7
          rw [el] at this
          exact this
        · have := ih (bit + wdN (tab.length + 1)) acc' (tab ++ [(acc.length, z)]) (upd mn (tab.length + 1) (nI z)) nb'' (upd st (tab.length + 1) (nI acc.length)) (by omega) (by omega) (by rw [el]; omega) y3 y4 y5 (hk.snoc y1 y2) (by have := hA.snoc (x := acc.length) (z := z); rw [Nat.zero_add] at this; exact this) y6 y7
          rw [el] at this
          exact this
      by_cases z4 : c = 16
      · rw [if_pos z4] at k1 k0
        subst z4
        refine br_t (by decide) ?_
        unfold wp_M_decode_b95 wp_M_decode_b126
        rw [show nI acc.length + 0 = nI acc.length from nI_add acc.length 0]
        refine br_t rfl (br_t (nI_le q5 (by omega)) ⟨1, ?_⟩)
        unfold wp_M_decode_l142 wp_M_decode_b217 wp_M_decode_b239
        rw [show nI acc.length + 0 = nI acc.length from nI_add acc.length 0]
        have go : ∀ mn' st' : Nat → Int32, wp_M_decode_l9 post J fb m mn' nb' st' (nI a) (nI n) (nI (2 * want)) (nI (bit + wdN (tab.length + 1))) 1 (nI acc.length) := fun mn' st' => ih (bit + wdN (tab.length + 1)) acc [] mn' nb' st' (by omega) (by omega) (Nat.zero_le _) q5 q6 hx (tbK.nil _) (tbA.nil _ _ _ _) k1 k0
        exact br_t (by decide) (pk_lt 110 (tab.length + 1) (fun y8 => br_t rfl (go _ _)) (fun y8 => ⟨vp_in_nI (by omega) (by decide), vp_in_nI (by omega) (by decide), br_t rfl (go _ _)⟩))
      rw [if_neg z4] at k1 k0
      have n16 : ¬ nI c = 16 := fun z => z4 ((nI_eq (b := 16) (by omega) (by decide)).mp z)
      by_cases z5 : c < 16
      · rw [if_pos z5] at k1 k0
        refine br_t (Int32.le_of_lt (pk_sneg (b := 17) (by decide) (by omega))) ?_
        unfold wp_M_decode_b95 wp_M_decode_b126
        refine br_f n16 (br_f (nI_ge (b := 16) z5 (by decide)) ?_)
        rw [nI_1]
        refine pk_le (acc.length + 1) (2 * want) (fun z9 => ⟨2, ?_⟩) (fun z9 => ?_)
        · rw [if_pos (by omega)] at k1 k0
          unfold wp_M_decode_l142 wp_M_decode_b185
          rw [show nI acc.length + 0 = nI acc.length from nI_add acc.length 0, nI_clamp (n := acc.length) (by omega)]
          refine br_f (by decide) (br_f (nI_ge (b := 16) z5 (by decide)) ⟨vp_in_nI (by omega) (by decide), ?_⟩)
          have := hx.snoc (x := c)
          rw [Nat.zero_add] at this
          exact note 1 (acc ++ [c]) _ _ 0 1 z4 (by omega) (by decide) (by omega) (by simp) (by simp; omega) (snoc_lt q6 z5) this k1 k0
        · rw [if_neg (by omega)] at k0
          exact k0 rfl _ _ _
      · rw [if_neg z5] at k1 k0
        rw [show (17 : Int32) = nI 17 from rfl, pk_sub (by omega)]
        refine br_f (nI_nle (by omega) (by omega)) (pk_le (tab.length + 1) (c - 17) (fun z6 => ?_) (fun z6 => pk_le c 126 (fun z7 => ?_) (fun z7 => ?_)))
        · rw [if_neg (by omega)] at k0
          exact k0 rfl _ _ _
        · rw [if_pos (by omega)] at k1 k0
          obtain ⟨t1, t2⟩ := hA (c - 18) (by omega) (by omega)
          obtain ⟨t3, t4⟩ := hk (c - 18) (by omega)
          rw [show c - 18 + 1 = c - 17 by omega] at t1 t2
          rw [Nat.zero_add] at t1
          unfold wp_M_decode_b95 wp_M_decode_b126
          rw [nI_clamp (n := c - 17) (by omega), t2, nI_1, nI_add]
          have vc : vp_in (nI (c - 17)) 120 := vp_in_nI (by omega) (by decide)
          refine br_f n16 (br_t (nI_le (a := 16) (by omega) (by omega)) ⟨vc, pk_le (acc.length + (tbZ tab (c - 18) + 1)) (2 * want) (fun z9 => ?_) (fun z9 => ?_)⟩)
          · rw [if_pos (by omega)] at k1 k0
            have inn : ∀ (m' k : Nat) (nb'' : Nat → Int32), k + m' = tbZ tab (c - 18) + 1 → gX nb nb'' 0 (cpN (tbS tab (c - 18)) acc k) → wp_M_decode_l142 post (wp_M_decode_l9 post J fb m) J fb (m' + 1) mn nb'' st (nI a) (nI n) (nI (2 * want)) (nI (bit + wdN (tab.length + 1))) (nI (tab.length + 1)) (nI acc.length) (nI c) (nI (c - 17)) (nI (tbZ tab (c - 18) + 1)) (nI k) := by
              intro m'
              induction m' with
              | zero =>
                intro k nb'' hk' hg
                have : k = tbZ tab (c - 18) + 1 := by omega
                subst this
                exact note (tbZ tab (c - 18) + 1) _ nb'' _ 0 _ z4 (Nat.le_refl _) (by omega) (by omega) (by rw [cpN_len]) (by rw [cpN_len]; omega) (cpN_lt q6 _) hg k1 k0
              | succ m' ihm =>
                intro k nb'' hk' hg
                unfold wp_M_decode_l142 wp_M_decode_b185
                rw [nI_clamp (n := c - 17) (by omega), t1, nI_add (tbS tab (c - 18)) k, nI_add acc.length k, nI_1 k, nI_clamp (n := tbS tab (c - 18) + k) (by omega), nI_clamp (n := acc.length + k) (by omega)]
                refine br_f (nI_ge (by omega) (by omega)) (br_t (nI_le (a := 16) (by omega) (by omega)) ⟨vc, vp_in_nI (by omega) (by decide), vp_in_nI (by omega) (by decide), ?_⟩)
                have e1 := hg.1 (tbS tab (c - 18) + k) (by rw [cpN_len]; omega)
                rw [Nat.zero_add] at e1
                rw [e1]
                refine ihm (k + 1) _ (by omega) ?_
                have := hg.snoc (x := (cpN (tbS tab (c - 18)) acc k).getD (tbS tab (c - 18) + k) 0)
                rw [cpN_len, Nat.zero_add] at this
                exact this
            exact ⟨_, inn (tbZ tab (c - 18) + 1) 0 nb' (by omega) hx⟩
          · rw [if_neg (by omega)] at k0
            exact k0 rfl _ _ _
        · rw [if_neg (by omega)] at k0
          exact k0 rfl _ _ _
  exact ⟨8 * n + 1, key (8 * n + 1) 0 [] [] mn nb st (by omega) (by omega) (Nat.le_refl _) (Nat.zero_le _) (fun x hx => absurd hx List.not_mem_nil) (gX.nil nb 0) (tbK.nil _) (tbA.nil _ _ _ _) h1 h0⟩
theorem p_M_bytes {post : Int32 → (Nat → Int32) → (Nat → Int32) → (Nat → Int32) → (Nat → Int32) → (Nat → Int32) → (Nat → Int32) → Prop} {J fb d dr mn nb0 nb st : Nat → Int32} {want : Nat} {acc : List Nat} (hg : gX nb0 nb 0 acc) (hl : acc.length = 2 * want) (hw : want ≤ 256) (hp : ∀ d', gX d d' 0 (byN acc want) → post 1 J d' dr mn nb st) : ∃ n1, wp_M_strip_l197 post fb n1 J d dr mn nb st (nI want) 0 := by
  have key : ∀ (m k : Nat) (d' : Nat → Int32), k + m = want → gX d d' 0 (byN acc k) → wp_M_strip_l197 post fb (m + 1) J d' dr mn nb st (nI want) (nI k) := by
    intro m
    induction m with
    | zero =>
      intro k d' hk hd
      unfold wp_M_strip_l197
      have : k = want := by omega
      subst this
      exact br_t (nI_le (by omega) (by omega)) (hp _ hd)
    | succ m ih =>
      intro k d' hk hd
      unfold wp_M_strip_l197
      have e1 := hg.1 (2 * k) (by omega)
      have e2 := hg.1 (2 * k + 1) (by omega)
      rw [Nat.zero_add] at e1 e2
      rw [show (2 : Int32) = nI 2 from rfl, pk_mul, nI_1, nI_1, nI_clamp (n := k) (by omega), nI_clamp (by omega), nI_clamp (by omega), e1, e2, show (16 : Int32) = nI 16 from rfl, pk_mul, nI_add]
      refine br_f (nI_ge (by omega) (by omega)) ⟨vp_in_nI (by omega) (by decide), vp_in_nI (by omega) (by decide), vp_in_nI (by omega) (by decide), ih (k + 1) _ (by omega) ?_⟩
      have := hd.snoc (x := 16 * acc.getD (2 * k) 0 + acc.getD (2 * k + 1) 0)
      rw [byN_len, Nat.zero_add] at this
      exact this
  exact ⟨want + 1, key want 0 d (by omega) (gX.nil d 0)⟩
