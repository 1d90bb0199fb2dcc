/-! write: the directory -/
def snE (be : Bool) (tag v : Nat) (L : List Nat) : List Nat := L ++ bN be 2 tag ++ bN be 2 3 ++ bN be 4 1 ++ bN be 2 v ++ bN be 2 0
def spE (be : Bool) (tag n x : Nat) (L : List Nat) : List Nat := L ++ bN be 2 tag ++ bN be 2 4 ++ bN be 4 n ++ bN be 4 x
def txE (be : Bool) (tg ln : Nat → Nat) (ch : Nat → Nat → Nat) (P : Nat → Nat) (q : Nat) (L : List Nat) : List Nat := L ++ bN be 2 (tg q) ++ bN be 2 2 ++ bN be 4 (ln q + 1) ++ (if 4 ≤ ln q then bN be 4 (P q) else rgL (cz ch ln q) 0 4)
def teL (be : Bool) (tg ln : Nat → Nat) (ch : Nat → Nat → Nat) (P : Nat → Nat) (lw : Nat) (L : List Nat) : Nat → List Nat
  | 0 => L
  | i + 1 => txE be tg ln ch P (oK lw i) (teL be tg ln ch P lw L i)
theorem snE_len (be : Bool) (tag v : Nat) (L : List Nat) : (snE be tag v L).length = L.length + 12 := by
  unfold snE
  simp only [List.length_append, bN_len]
theorem spE_len (be : Bool) (tag n x : Nat) (L : List Nat) : (spE be tag n x L).length = L.length + 12 := by
  unfold spE
  simp only [List.length_append, bN_len]
theorem txE_len (be : Bool) (tg ln : Nat → Nat) (ch : Nat → Nat → Nat) (P : Nat → Nat) (q : Nat) (L : List Nat) : (txE be tg ln ch P q L).length = L.length + 12 := by
  unfold txE
  simp only [List.length_append, bN_len]
  split
  · rw [bN_len]
  · rw [rgL_len]
theorem teL_len (be : Bool) (tg ln : Nat → Nat) (ch : Nat → Nat → Nat) (P : Nat → Nat) (lw : Nat) (L : List Nat) (i : Nat) : (teL be tg ln ch P lw L i).length = L.length + 12 * i := by
  induction i with
  | zero => rfl
  | succ i ih => simp only [teL, txE_len, ih]; omega
theorem aB.snE {be : Bool} {tag v : Nat} {L : List Nat} (h : aB L) : aB (snE be tag v L) := ((((h.app (aB.bN _ _ _)).app (aB.bN _ _ _)).app (aB.bN _ _ _)).app (aB.bN _ _ _)).app (aB.bN _ _ _)
theorem aB.spE {be : Bool} {tag n x : Nat} {L : List Nat} (h : aB L) : aB (spE be tag n x L) := (((h.app (aB.bN _ _ _)).app (aB.bN _ _ _)).app (aB.bN _ _ _)).app (aB.bN _ _ _)
theorem aB.teL {c : Nat} {tg ln : Nat → Nat} {ch : Nat → Nat → Nat} {fc fs ft : Nat → Int32} {be : Bool} {P : Nat → Nat} {L : List Nat} (h : lb1 c tg ln ch fc fs ft) (hL : aB L) : ∀ i, i ≤ c → aB (teL be tg ln ch P (lwN c tg) L i) := by
  intro i
  induction i with
  | zero => intro _; exact hL
  | succ i ih =>
    intro hi
    refine ((((ih (by omega)).app (aB.bN _ _ _)).app (aB.bN _ _ _)).app (aB.bN _ _ _)).app ?_
    split
    · exact aB.bN _ _ _
    · exact aB.cz h (oK_lt h.1 (by omega))
def dirL (be : Bool) (tg ln : Nat → Nat) (ch : Nat → Nat → Nat) (P : Nat → Nat) (c w h d mt ec pr pa la : Nat) (L : List Nat) : List Nat := teL be tg ln ch P (lwN c tg) (snE be 317 pr (spE be 279 (nSt h ec) la (snE be 278 ec (spE be 273 (nSt h ec) pa (snE be 259 mt (snE be 258 d (snE be 257 h (snE be 256 w (L ++ bN be 2 (8 + c)))))))))) c ++ bN be 4 0
theorem dirL_len (be : Bool) (tg ln : Nat → Nat) (ch : Nat → Nat → Nat) (P : Nat → Nat) (c w h d mt ec pr pa la : Nat) (L : List Nat) : (dirL be tg ln ch P c w h d mt ec pr pa la L).length = L.length + 102 + 12 * c := by
  unfold dirL
  simp only [List.length_append, bN_len, teL_len, snE_len, spE_len]
  omega
theorem aB.dirL {be : Bool} {tg ln : Nat → Nat} {ch : Nat → Nat → Nat} {P : Nat → Nat} {c w h d mt ec pr pa la : Nat} {L : List Nat} {fc fs ft : Nat → Int32} (hb : lb1 c tg ln ch fc fs ft) (hL : aB L) : aB (dirL be tg ln ch P c w h d mt ec pr pa la L) :=
  (aB.teL hb (aB.snE (aB.spE (aB.snE (aB.spE (aB.snE (aB.snE (aB.snE (aB.snE (hL.app (aB.bN _ _ _)))))))))) c (Nat.le_refl _)).app (aB.bN _ _ _)
theorem dirL_pre (be : Bool) (tg ln : Nat → Nat) (ch : Nat → Nat → Nat) (P : Nat → Nat) (lw i : Nat) (L : List Nat) : ∃ M, teL be tg ln ch P lw L i = L ++ M := by
  induction i with
  | zero => exact ⟨[], (List.append_nil L).symm⟩
  | succ i ih =>
    obtain ⟨M, hM⟩ := ih
    simp only [teL, txE]
    rw [hM]
    exact ⟨_, by simp only [List.append_assoc]; rfl⟩
theorem p_X_small {post : (Nat → Int32) → (Nat → Int32) → Prop} {I0 f0 I fb : Nat → Int32} {sz tag v : Nat} {be : Bool} {L : List Nat} (hx : XA I0 f0 sz L I fb) (hs : 1 ≤ sz) (hbe : (f0 0 = nI 77) ↔ be = true) (hb : sz + L.length < 2 ^ 20) (ht : tag < 65536) (hv : v < 65536) (k : ∀ I' f', XA I0 f0 sz (snE be tag v L) I' f' → post I' f') : wp_X_appendShortEntry post I fb (nI tag) (nI v) := by
  unfold wp_X_appendShortEntry
  refine hx.short hs hbe (by omega) ht (fun _ _ x1 => ?_)
  refine x1.short (v := 3) hs hbe (by simp only [List.length_append, bN_len]; omega) (by decide) (fun _ _ x2 => ?_)
  refine x2.long (v := 1) hs hbe (by simp only [List.length_append, bN_len]; omega) (by decide) (fun _ _ x3 => ?_)
  refine x3.short hs hbe (by simp only [List.length_append, bN_len]; omega) hv (fun _ _ x4 => ?_)
  exact x4.short (v := 0) hs hbe (by simp only [List.length_append, bN_len]; omega) (by decide) (fun _ _ x5 => k _ _ x5)
theorem p_X_spE {post : (Nat → Int32) → (Nat → Int32) → Prop} {IY I0 f0 I fb : Nat → Int32} {sz rs ec tag x : Nat} {be : Bool} {L : List Nat} (e1 : IY 1 = nI rs) (e4 : IY 4 = nI ec) (h1 : 1 ≤ ec) (h2 : ec ≤ rs) (h3 : rs ≤ 16) (hx : XA I0 f0 sz L I fb) (hs : 1 ≤ sz) (hbe : (f0 0 = nI 77) ↔ be = true) (hb : sz + L.length < 2 ^ 20) (ht : tag < 65536) (hv : x < 2 ^ 31) (k : ∀ I' f', XA I0 f0 sz (spE be tag (nSt rs ec) x L) I' f' → post I' f') : wp_X_appendStripsEntry post IY I fb (nI tag) (nI x) := by
  have hn := nSt_le h1 h2
  unfold wp_X_appendStripsEntry
  refine hx.short hs hbe (by omega) ht (fun _ _ x1 => ?_)
  refine x1.short (v := 4) hs hbe (by simp only [List.length_append, bN_len]; omega) (by decide) (fun _ _ x2 => ?_)
  refine p_Ly_strips e1 e4 h1 h2 h3 ?_
  refine x2.long hs hbe (by simp only [List.length_append, bN_len]; omega) (by omega) (fun _ _ x3 => ?_)
  exact x3.long hs hbe (by simp only [List.length_append, bN_len]; omega) hv (fun _ _ x4 => k _ _ x4)
theorem p_X_txE {post : (Nat → Int32) → (Nat → Int32) → Prop} {Il fc fs ft fT I0 f0 I fb : Nat → Int32} {c q sz : Nat} {tg ln : Nat → Nat} {ch : Nat → Nat → Nat} {P : Nat → Nat} {be : Bool} {L : List Nat} (h : lb1 c tg ln ch fc fs ft) (hq : q < c) (hT : 4 ≤ ln q → fT q = nI (P q)) (hP : P q < 2 ^ 31) (hx : XA I0 f0 sz L I fb) (hs : 1 ≤ sz) (hbe : (f0 0 = nI 77) ↔ be = true) (hb : sz + L.length < 2 ^ 19) (k : ∀ I' f', XA I0 f0 sz (txE be tg ln ch P q L) I' f' → post I' f') : wp_X_appendTextEntry post Il fc fs ft fT I fb (nI q) := by
  have hc := h.1
  obtain ⟨⟨t1, t2⟩, ⟨l1, l2, l3⟩, l4⟩ := h.2 q hq
  unfold wp_X_appendTextEntry wp_Lb_bytesOf
  rw [nI_clamp (n := q) (by omega), l3, t2, nI_1]
  unfold txE at k
  refine ⟨vp_in_nI (by omega) (by decide), vp_in_nI (by omega) (by decide), ?_⟩
  refine hx.short hs hbe (by omega) t1 (fun _ _ x1 => ?_)
  refine x1.short (v := 2) hs hbe (by simp only [List.length_append, bN_len]; omega) (by decide) (fun _ _ x2 => ?_)
  refine x2.long hs hbe (by simp only [List.length_append, bN_len]; omega) (by omega) (fun _ _ x3 => ?_)
  refine pk_le (ln q + 1) 4 (fun z => ?_) (fun z => ⟨vp_in_nI (by omega) (by decide), ?_⟩)
  · rw [if_neg (by omega)] at k
    exact p_X_text (n := 4) h hq (by decide) x3 (by simp only [List.length_append, bN_len]; omega) (fun _ _ x4 => k _ _ x4)
  · rw [if_pos (by omega)] at k
    rw [hT (by omega)]
    exact x3.long hs hbe (by simp only [List.length_append, bN_len]; omega) hP (fun _ _ x4 => k _ _ x4)
theorem p_X_directory {post : Int32 → (Nat → Int32) → (Nat → Int32) → Prop} {Il fc fs ft fT IY I0 f0 I fb : Nat → Int32} {c w h d mt ec pr pa la sz : Nat} {tg ln : Nat → Nat} {ch : Nat → Nat → Nat} {P : Nat → Nat} {be : Bool} {L : List Nat} (hl : lb1 c tg ln ch fc fs ft) (el : Il 3 = nI c) (hy : lyX w h d mt ec pr IY) (hd : dpO d) (hmt : mtO mt) (hw2 : w ≤ 16) (hh : h ≤ 16) (he : 1 ≤ ec) (he2 : ec ≤ h) (hpr : pr ≤ 2) (hT : ∀ i, i < c → 4 ≤ ln (oK (lwN c tg) i) → fT (oK (lwN c tg) i) = nI (P (oK (lwN c tg) i))) (hP : ∀ i, i < c → P (oK (lwN c tg) i) < 2 ^ 31) (hpa : pa < 2 ^ 31) (hla : la < 2 ^ 31) (hx : XA I0 f0 sz L I fb) (hs : 1 ≤ sz) (hbe : (f0 0 = nI 77) ↔ be = true) (hb : sz + L.length < 2 ^ 18) (k : ∀ I' f', XA I0 f0 sz (dirL be tg ln ch P c w h d mt ec pr pa la (eL sz L)) I' f' → post (nI (sz + (eL sz L).length)) I' f') : wp_X_appendDirectory post Il fc fs ft IY fT I fb (nI pa) (nI la) := by
  obtain ⟨y0, y1, y2, y3, y4, y5⟩ := hy
  have hc := hl.1
  have hdv : d < 65536 := by rcases hd with rfl | rfl | rfl | rfl <;> decide
  have hmv : mt < 65536 := by rcases hmt with rfl | rfl | rfl <;> decide
  have hel := eL_len sz L
  unfold wp_X_appendDirectory
  rw [el, y0, y1, y2, y3, y4, y5, show (8 : Int32) = nI 8 from rfl, nI_add]
  refine hx.even (by omega) (fun I1 f1 x1 => ?_)
  rw [x1.1]
  refine x1.short hs hbe (by omega) (by omega) (fun _ _ x2 => ?_)
  refine p_X_small (tag := 256) x2 hs hbe (by simp only [List.length_append, bN_len]; omega) (by decide) (by omega) (fun _ _ x3 => ?_)
  refine p_X_small (tag := 257) x3 hs hbe (by simp only [List.length_append, bN_len, snE_len]; omega) (by decide) (by omega) (fun _ _ x4 => ?_)
  refine p_X_small (tag := 258) x4 hs hbe (by simp only [List.length_append, bN_len, snE_len]; omega) (by decide) hdv (fun _ _ x5 => ?_)
  refine p_X_small (tag := 259) x5 hs hbe (by simp only [List.length_append, bN_len, snE_len]; omega) (by decide) hmv (fun _ _ x6 => ?_)
  refine p_X_spE (tag := 273) y1 y4 he he2 hh x6 hs hbe (by simp only [List.length_append, bN_len, snE_len]; omega) (by decide) hpa (fun _ _ x7 => ?_)
  refine p_X_small (tag := 278) x7 hs hbe (by simp only [List.length_append, bN_len, snE_len, spE_len]; omega) (by decide) (by omega) (fun _ _ x8 => ?_)
  refine p_X_spE (tag := 279) y1 y4 he he2 hh x8 hs hbe (by simp only [List.length_append, bN_len, snE_len, spE_len]; omega) (by decide) hla (fun _ _ x9 => ?_)
  refine p_X_small (tag := 317) x9 hs hbe (by simp only [List.length_append, bN_len, snE_len, spE_len]; omega) (by decide) (by omega) (fun I10 f10 x10 => ?_)
  unfold dirL at k
  have hlen : (snE be 317 pr (spE be 279 (nSt h ec) la (snE be 278 ec (spE be 273 (nSt h ec) pa (snE be 259 mt (snE be 258 d (snE be 257 h (snE be 256 w (eL sz L ++ bN be 2 (8 + c)))))))))).length = (eL sz L).length + 98 := by
    simp only [List.length_append, bN_len, snE_len, spE_len]
  generalize snE be 317 pr (spE be 279 (nSt h ec) la (snE be 278 ec (spE be 273 (nSt h ec) pa (snE be 259 mt (snE be 258 d (snE be 257 h (snE be 256 w (eL sz L ++ bN be 2 (8 + c))))))))) = D at *
  have key : ∀ (m j : Nat) (I fb : Nat → Int32), j + m = c → XA I0 f0 sz (teL be tg ln ch P (lwN c tg) D j) I fb → wp_X_appendDirectory_l135 post Il fc fs ft IY fT (m + 1) I fb (nI (sz + (eL sz L).length)) (nI j) := by
    intro m
    induction m with
    | zero =>
      intro j I fb hj x
      unfold wp_X_appendDirectory_l135
      have : j = c := by omega
      subst this
      rw [el]
      exact br_t (nI_le (by omega) (by omega)) (x.long (v := 0) hs hbe (by rw [teL_len]; omega) (by decide) (fun _ _ x2 => k _ _ x2))
    | succ m ih =>
      intro j I fb hj x
      unfold wp_X_appendDirectory_l135
      rw [el, nI_1]
      refine br_f (nI_ge (by omega) (by omega)) (p_inOrder hl el (by omega) ?_)
      exact p_X_txE (P := P) hl (oK_lt hc (by omega)) (hT j (by omega)) (hP j (by omega)) x hs hbe (by rw [teL_len]; omega) (fun I2 f2 x2 => ih (j + 1) I2 f2 (by omega) x2)
  exact ⟨c + 1, key c 0 I10 f10 (by omega) x10⟩
theorem p_M_head {post : (Nat → Int32) → (Nat → Int32) → Prop} {J0 g0 J g : Nat → Int32} {sz tag kd n : Nat} {be : Bool} {L : List Nat} (hx : MA J0 g0 sz L J g) (hs : 1 ≤ sz) (hbe : (g0 0 = nI 77) ↔ be = true) (hb : sz + L.length + 8 ≤ 2000) (ht : tag < 2 ^ 31) (hk : kd < 2 ^ 31) (hn : n < 2 ^ 31) (k : ∀ J' g', MA J0 g0 sz (L ++ bN be 2 tag ++ bN be 2 kd ++ bN be 4 n) J' g' → post J' g') : wp_M_head post J g (nI tag) (nI kd) (nI n) := by
  unfold wp_M_head
  rw [nI_l ht, nI_l hk, nI_l hn]
  refine hx.number (n := 2) hs hbe (by omega) (by omega) (fun _ _ x1 => ?_)
  refine x1.number (n := 2) hs hbe (by simp only [List.length_append, bN_len]; omega) (by omega) (fun _ _ x2 => ?_)
  exact x2.number (n := 4) hs hbe (by simp only [List.length_append, bN_len]; omega) (by omega) (fun _ _ x3 => k _ _ x3)
theorem p_M_small {post : (Nat → Int32) → (Nat → Int32) → Prop} {J0 g0 J g : Nat → Int32} {sz tag v : Nat} {be : Bool} {L : List Nat} (hx : MA J0 g0 sz L J g) (hs : 1 ≤ sz) (hbe : (g0 0 = nI 77) ↔ be = true) (hb : sz + L.length + 12 ≤ 2000) (ht : tag < 2 ^ 31) (hv : v < 2 ^ 31) (k : ∀ J' g', MA J0 g0 sz (snE be tag v L) J' g' → post J' g') : wp_M_small post J g (nI tag) (nI v) := by
  unfold wp_M_small
  rw [nI_l hv]
  refine p_M_head (kd := 3) (n := 1) hx hs hbe (by omega) ht (by decide) (by decide) (fun _ _ x1 => ?_)
  refine x1.number (n := 2) hs hbe (by simp only [List.length_append, bN_len]; omega) (by omega) (fun _ _ x2 => ?_)
  exact x2.number (n := 2) (v := 0) hs hbe (by simp only [List.length_append, bN_len]; omega) (by decide) (fun _ _ x3 => k _ _ x3)
