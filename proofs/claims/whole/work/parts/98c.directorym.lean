/-! write: the reference's directory and texts -/
theorem p_M_txE {post : (Nat → Int32) → (Nat → Int32) → Prop} {k176 : (Nat → Int32) → (Nat → Int32) → Int32 → Int32 → Int32 → Int32 → Prop} {gl gc gp gs gt J0 g0 J g : Nat → Int32} {x6 x7 x8 x9 : Int32} {c q sz : Nat} {tg ln : Nat → Nat} {ch : Nat → Nat → Nat} {P : Nat → Nat} {be : Bool} {L : List Nat} (h : lb1 c tg ln ch gc gl gt) (hq : q < c) (hT : 4 ≤ ln q → (if q = 0 then x6 else x7) = nI (P q)) (hP : P q < 2 ^ 31) (hx : MA J0 g0 sz L J g) (hs : 1 ≤ sz) (hbe : (g0 0 = nI 77) ↔ be = true) (hb : sz + L.length + 40 ≤ 2000) (k : ∀ J' g', MA J0 g0 sz (txE be tg ln ch P q L) J' g' → k176 J' g' x6 x7 x8 (x9 + 1)) : wp_M_directory_b199 post k176 gl gc gp gs gt J g x6 x7 x8 x9 (nI q) := by
  have hc := h.1
  obtain ⟨⟨t1, t2⟩, ⟨l1, l2, l3⟩, l4⟩ := h.2 q hq
  unfold wp_M_directory_b199
  rw [nI_clamp (n := q) (by omega), l3, t2, nI_1]
  unfold txE at k
  have v2 : vp_in (nI q) 2 := vp_in_nI (by omega) (by decide)
  refine ⟨v2, v2, p_M_head (kd := 2) hx hs hbe (by omega) (by omega) (by decide) (by omega) (fun J1 g1 x1 => ⟨v2, pk_le (ln q) 3 (fun z => ?_) (fun z => ?_)⟩)⟩
  · rw [if_neg (by omega)] at k
    refine p_M_text h hq x1 (by simp only [List.length_append, bN_len]; omega) (fun J2 g2 x2 => ⟨v2, ?_⟩)
    have inn : ∀ (m j : Nat) (J g : Nat → Int32), j + m = 4 → ln q + 1 ≤ j → MA J0 g0 sz (L ++ bN be 2 (tg q) ++ bN be 2 2 ++ bN be 4 (ln q + 1) ++ rgL (cz ch ln q) 0 j) J g → wp_M_directory_l272 post k176 gl gc gp gs gt (m + 1) J g x6 x7 x8 x9 (nI j) := by
      intro m
      induction m with
      | zero =>
        intro j J g hj hl x
        unfold wp_M_directory_l272 wp_M_directory_b289
        have : j = 4 := by omega
        subst this
        exact br_t (nI_le (a := 4) (by omega) (by omega)) (k _ _ x)
      | succ m ih =>
        intro j J g hj hl x
        unfold wp_M_directory_l272
        rw [nI_1]
        refine br_f (nI_ge (b := 4) (by omega) (by omega)) (x.put (v := 0) (by simp only [List.length_append, bN_len, rgL_len]; omega) (fun J3 g3 x3 => ih (j + 1) J3 g3 (by omega) (by omega) ?_))
        have : cz ch ln q j = 0 := if_neg (by omega)
        simp only [rgL]
        rw [Nat.zero_add, this]
        rw [List.append_assoc] at x3
        exact x3
    exact ⟨4 - (ln q + 1) + 1, inn (4 - (ln q + 1)) (ln q + 1) J2 g2 (by omega) (by omega) x2⟩
  · rw [if_pos (by omega)] at k
    have hT := hT (by omega)
    have nx : wp_M_directory_b249 post k176 gl gc gp gs gt J1 g1 x6 x7 x8 x9 (lN (P q)) 4 := by
      unfold wp_M_directory_b249 wp_M_directory_b289
      exact x1.number (n := 4) hs hbe (by simp only [List.length_append, bN_len]; omega) (by omega) (fun J2 g2 x2 => k _ _ x2)
    rw [← nI_l hP, ← hT] at nx
    refine pk_eq q 0 (fun w => ?_) (fun w => ?_)
    · rw [if_pos w] at nx
      exact nx
    · rw [if_neg w] at nx
      exact nx
theorem p_M_directory {post : (Nat → Int32) → (Nat → Int32) → Prop} {gl gc gp gs gt J0 g0 J g : Nat → Int32} {x6 x7 : Int32} {c w h d mt ec pr pa la a sz : Nat} {tg ln : Nat → Nat} {ch : Nat → Nat → Nat} {P : Nat → Nat} {be : Bool} {L : List Nat} (hl : lb1 c tg ln ch gc gl gt) (e3 : J0 3 = nI w) (e4 : J0 4 = nI h) (e5 : J0 5 = nI d) (e7 : J0 7 = nI c) (hd : dpO d) (hmt : mtO mt) (hw2 : w ≤ 16) (hh : h ≤ 16) (he : 1 ≤ ec) (he2 : ec ≤ h) (hpr : pr ≤ 2) (hT : ∀ i, i < c → 4 ≤ ln (oK (lwN c tg) i) → (if oK (lwN c tg) i = 0 then x6 else x7) = nI (P (oK (lwN c tg) i))) (hP : ∀ i, i < c → P (oK (lwN c tg) i) < 2 ^ 31) (hpa : pa < 2 ^ 31) (hla : la < 2 ^ 31) (h1 : nSt h ec = 1 → gp 0 = nI pa ∧ gs 0 = nI la) (h2 : nSt h ec ≠ 1 → a = pa ∧ a + 4 * nSt h ec = la) (hx : MA J0 g0 sz L J g) (hs : 1 ≤ sz) (hbe : (g0 0 = nI 77) ↔ be = true) (hb : sz + L.length + 150 ≤ 2000) (k : ∀ J' g', MA J0 g0 sz (dirL be tg ln ch P c w h d mt ec pr pa la L) J' g' → post J' g') : wp_M_directory post gl gc gp gs gt J g (nI mt) (nI ec) (nI pr) (nI (nSt h ec)) (nI a) x6 x7 := by
  have hc := hl.1
  have hdv : d < 65536 := by rcases hd with rfl | rfl | rfl | rfl <;> decide
  have hmv : mt < 65536 := by rcases hmt with rfl | rfl | rfl <;> decide
  have hn := nSt_le he he2
  have v0 : vp_in 0 16 := vp_in_nI (n := 0) (by decide) (by decide)
  have main : wp_M_directory_b28 post gl gc gp gs gt J g (nI mt) (nI ec) (nI pr) (nI (nSt h ec)) (nI a) x6 x7 (nI (lwN c tg)) := by
    unfold wp_M_directory_b28
    rw [hx.2.1 7 (by decide) (by decide) (by decide), e7, show (8 : Int32) = nI 8 from rfl, nI_add, nI_l (n := 8 + c) (by omega)]
    refine hx.number (n := 2) hs hbe (by omega) (by omega) (fun J1 g1 x1 => ?_)
    rw [x1.2.1 3 (by decide) (by decide) (by decide), e3]
    refine p_M_small (tag := 256) x1 hs hbe (by simp only [List.length_append, bN_len]; omega) (by decide) (by omega) (fun J2 g2 x2 => ?_)
    rw [x2.2.1 4 (by decide) (by decide) (by decide), e4]
    refine p_M_small (tag := 257) x2 hs hbe (by simp only [List.length_append, bN_len, snE_len]; omega) (by decide) (by omega) (fun J3 g3 x3 => ?_)
    rw [x3.2.1 5 (by decide) (by decide) (by decide), e5]
    refine p_M_small (tag := 258) x3 hs hbe (by simp only [List.length_append, bN_len, snE_len]; omega) (by decide) (by omega) (fun J4 g4 x4 => ?_)
    refine p_M_small (tag := 259) x4 hs hbe (by simp only [List.length_append, bN_len, snE_len]; omega) (by decide) (by omega) (fun J5 g5 x5 => ?_)
    refine p_M_head (tag := 273) (kd := 4) x5 hs hbe (by simp only [List.length_append, bN_len, snE_len]; omega) (by decide) (by decide) (by omega) (fun J6 g6 x6' => ?_)
    have fin : ∀ (J g : Nat → Int32), MA J0 g0 sz (snE be 278 ec (spE be 273 (nSt h ec) pa (snE be 259 mt (snE be 258 d (snE be 257 h (snE be 256 w (L ++ bN be 2 (8 + c)))))))  ++ bN be 2 279 ++ bN be 2 4 ++ bN be 4 (nSt h ec)) J g → wp_M_directory_b162 post gl gc gp gs gt J g (nI pr) x6 x7 (nI (lwN c tg)) (lN la) 4 := by
      intro J g x
      unfold wp_M_directory_b162
      refine x.number (n := 4) hs hbe (by simp only [List.length_append, bN_len, snE_len, spE_len]; omega) (by omega) (fun J7 g7 x7' => ?_)
      refine p_M_small (tag := 317) x7' hs hbe (by simp only [List.length_append, bN_len, snE_len, spE_len]; omega) (by decide) (by omega) (fun J8 g8 x8' => ?_)
      unfold dirL at k
      have x8 : MA J0 g0 sz (snE be 317 pr (spE be 279 (nSt h ec) la (snE be 278 ec (spE be 273 (nSt h ec) pa (snE be 259 mt (snE be 258 d (snE be 257 h (snE be 256 w (L ++ bN be 2 (8 + c)))))))))) J8 g8 := x8'
      have hlen : (snE be 317 pr (spE be 279 (nSt h ec) la (snE be 278 ec (spE be 273 (nSt h ec) pa (snE be 259 mt (snE be 258 d (snE be 257 h (snE be 256 w (L ++ bN be 2 (8 + c)))))))))).length = L.length + 98 := by
        simp only [List.length_append, bN_len, snE_len, spE_len]
      generalize snE be 317 pr (spE be 279 (nSt h ec) la (snE be 278 ec (spE be 273 (nSt h ec) pa (snE be 259 mt (snE be 258 d (snE be 257 h (snE be 256 w (L ++ bN be 2 (8 + c))))))))) = D at *
      have key : ∀ (m j : Nat) (J g : Nat → Int32), j + m = c → MA J0 g0 sz (teL be tg ln ch P (lwN c tg) D j) J g → wp_M_directory_l176 post gl gc gp gs gt (m + 1) J g x6 x7 (nI (lwN c tg)) (nI j) := by
        intro m
        induction m with
        | zero =>
          intro j J g hj x
          unfold wp_M_directory_l176
          have : j = c := by omega
          subst this
          rw [x.2.1 7 (by decide) (by decide) (by decide), e7]
          exact br_t (nI_le (by omega) (by omega)) (x.number (n := 4) (v := 0) hs hbe (by rw [teL_len]; omega) (by decide) (fun _ _ x2 => k _ _ x2))
        | succ m ih =>
          intro j J g hj x
          unfold wp_M_directory_l176
          rw [x.2.1 7 (by decide) (by decide) (by decide), e7]
          have nx : wp_M_directory_b199 post (wp_M_directory_l176 post gl gc gp gs gt (m + 1)) gl gc gp gs gt J g x6 x7 (nI (lwN c tg)) (nI j) (nI (oK (lwN c tg) j)) := by
            refine p_M_txE (P := P) hl (oK_lt hc (by omega)) (hT j (by omega)) (hP j (by omega)) x hs hbe (by rw [teL_len]; omega) (fun J2 g2 x2 => ?_)
            rw [nI_1]
            exact ih (j + 1) J2 g2 (by omega) x2
          have hlw := lwN_le c tg
          refine br_f (nI_ge (by omega) (by omega)) (pk_eq j 0 (fun z => ?_) (fun z => ?_))
          · have e : oK (lwN c tg) j = lwN c tg := if_pos z
            rw [e] at nx
            exact nx
          · have e : oK (lwN c tg) j = 1 - lwN c tg := if_neg z
            rw [e] at nx
            rw [show (1 : Int32) = nI 1 from rfl, pk_sub (by omega)]
            exact nx
      exact ⟨c + 1, key c 0 J8 g8 (by omega) x8⟩
    have mid : wp_M_directory_b115 post gl gc gp gs gt J6 g6 (nI ec) (nI pr) (nI (nSt h ec)) (nI a) x6 x7 (nI (lwN c tg)) (lN pa) 4 := by
      unfold wp_M_directory_b115
      refine x6'.number (n := 4) hs hbe (by simp only [List.length_append, bN_len, snE_len]; omega) (by omega) (fun J7 g7 x7' => ?_)
      have x7'' : MA J0 g0 sz (spE be 273 (nSt h ec) pa (snE be 259 mt (snE be 258 d (snE be 257 h (snE be 256 w (L ++ bN be 2 (8 + c))))))) J7 g7 := x7'
      refine p_M_small (tag := 278) x7'' hs hbe (by simp only [List.length_append, bN_len, snE_len, spE_len]; omega) (by decide) (by omega) (fun J8 g8 x8 => ?_)
      refine p_M_head (tag := 279) (kd := 4) x8 hs hbe (by simp only [List.length_append, bN_len, snE_len, spE_len]; omega) (by decide) (by decide) (by omega) (fun J9 g9 x9 => ?_)
      refine pk_eq (nSt h ec) 1 (fun z => ⟨v0, ?_⟩) (fun z => ?_)
      · rw [(h1 z).2, nI_l hla]
        exact fin J9 g9 x9
      · rw [show (4 : Int32) = nI 4 from rfl, pk_mul, nI_add, (h2 z).2, nI_l hla]
        exact fin J9 g9 x9
    refine pk_eq (nSt h ec) 1 (fun z => ⟨v0, ?_⟩) (fun z => ?_)
    · rw [(h1 z).1, nI_l hpa]
      exact mid
    · rw [nI_l (by have := (h2 z).1; omega)]
      have ea := (h2 z).1
      rw [← ea] at mid
      exact mid
  unfold wp_M_directory wp_M_directory_b27
  rw [hx.2.1 7 (by decide) (by decide) (by decide), e7]
  have lw0 : (c ≠ 2 ∨ tg 0 ≤ tg 1) → lwN c tg = 0 := fun z => if_neg (by omega)
  refine pk_eq c 2 (fun z => ⟨vp_in_nI (n := 1) (by decide) (by decide), vp_in_nI (n := 0) (by decide) (by decide), ?_⟩) (fun z => ?_)
  · have t0 := (hl.2 0 (by omega)).1
    have t1 := (hl.2 1 (by omega)).1
    rw [t0.2, t1.2]
    have b0 := t0.1
    have b1' := t1.1
    refine pk_le (tg 0) (tg 1) (fun y => ?_) (fun y => ?_)
    · rw [lw0 (Or.inr y)] at main
      exact main
    · have : lwN c tg = 1 := if_pos ⟨z, y⟩
      rw [this] at main
      exact main
  · rw [lw0 (Or.inl z)] at main
    exact main
