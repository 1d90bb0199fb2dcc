/-! write: numbers of strips, texts -/
def lgL (be : Bool) (F : Nat → Nat) : Nat → List Nat
  | 0 => []
  | k + 1 => lgL be F k ++ bN be 4 (F k)
theorem lgL_len (be : Bool) (F : Nat → Nat) (n : Nat) : (lgL be F n).length = 4 * n := by
  induction n with
  | zero => rfl
  | succ n ih => simp only [lgL, List.length_append, ih, bN_len]; omega
theorem aB.lgL (be : Bool) (F : Nat → Nat) (n : Nat) : aB (lgL be F n) := by
  induction n with
  | zero => exact aB.nil
  | succ n ih => exact ih.app (aB.bN be 4 _)
def nmL (sz : Nat) (be : Bool) (F : Nat → Nat) (n : Nat) (L : List Nat) : List Nat := if n = 1 then L else eL sz L ++ lgL be F n
def nmP (sz : Nat) (F : Nat → Nat) (n : Nat) (L : List Nat) : Nat := if n = 1 then F 0 else sz + (eL sz L).length
theorem aB.nmL {sz : Nat} {be : Bool} {F : Nat → Nat} {n : Nat} {L : List Nat} (h : aB L) : aB (nmL sz be F n L) := by
  unfold Jvm.Pilot.CTaggedRasterLaw_law_r6233_95c97e.nmL
  split
  · exact h
  · exact h.e.app (aB.lgL be F n)
theorem nmL_len (sz : Nat) (be : Bool) (F : Nat → Nat) (n : Nat) (L : List Nat) : (nmL sz be F n L).length ≤ L.length + 1 + 4 * n := by
  unfold nmL
  split
  · omega
  · rw [List.length_append, eL_len, lgL_len]; omega
/-- both lists of numbers -/
theorem nmL_2 {sz n : Nat} {be : Bool} {F G : Nat → Nat} {L : List Nat} (h : n ≠ 1) : nmL sz be G n (nmL sz be F n L) = eL sz L ++ lgL be F n ++ lgL be G n ∧ eL sz (eL sz L ++ lgL be F n ++ lgL be G n) = eL sz L ++ lgL be F n ++ lgL be G n ∧ nmP sz G n (nmL sz be F n L) = sz + (eL sz L).length + 4 * n ∧ nmP sz F n L = sz + (eL sz L).length := by
  have he := eL_even sz L
  have e1 : eL sz (eL sz L ++ lgL be F n) = eL sz L ++ lgL be F n := eL_id (by rw [List.length_append, lgL_len]; omega)
  have e2 : eL sz (eL sz L ++ lgL be F n ++ lgL be G n) = eL sz L ++ lgL be F n ++ lgL be G n := eL_id (by rw [List.length_append, List.length_append, lgL_len, lgL_len]; omega)
  unfold nmL nmP
  rw [if_neg h, if_neg h, if_neg h, if_neg h, e1, e2]
  refine ⟨rfl, rfl, ?_, rfl⟩
  rw [List.length_append, lgL_len]
  omega
theorem p_X_numbers {post : Int32 → (Nat → Int32) → (Nat → Int32) → Prop} {IY I0 f0 I fb fq : Nat → Int32} {sz rs ec : Nat} {be : Bool} {F : Nat → Nat} {L : List Nat} (e1 : IY 1 = nI rs) (e4 : IY 4 = nI ec) (h1 : 1 ≤ ec) (h2 : ec ≤ rs) (h3 : rs ≤ 16) (hF : ∀ j, j < nSt rs ec → fq j = nI (F j) ∧ F j < 2 ^ 31) (hx : XA I0 f0 sz L I fb) (hs : 1 ≤ sz) (hbe : (f0 0 = nI 77) ↔ be = true) (hb : sz + L.length < 2 ^ 20) (k : ∀ I' f', XA I0 f0 sz (nmL sz be F (nSt rs ec) L) I' f' → post (nI (nmP sz F (nSt rs ec) L)) I' f') : wp_X_appendStripNumbers post IY fq I fb := by
  have hn := nSt_le h1 h2
  unfold nmL nmP at k
  unfold wp_X_appendStripNumbers
  refine p_Ly_strips e1 e4 h1 h2 h3 ?_
  generalize nSt rs ec = n at *
  refine pk_eq n 1 (fun q => ⟨vp_in_nI (n := 0) (by decide) (by decide), ?_⟩) (fun q => ?_) rfl rfl (by omega) (by decide)
  · rw [if_pos q, if_pos q] at k
    rw [(hF 0 (by omega)).1]
    exact k _ _ hx
  · rw [if_neg q, if_neg q] at k
    refine hx.even (by omega) (fun I2 f2 x2 => ?_)
    rw [x2.1]
    have hel := eL_len sz L
    have key : ∀ (m j : Nat) (I fb : Nat → Int32), j + m = n → XA I0 f0 sz (eL sz L ++ lgL be F j) I fb → wp_X_appendStripNumbers_l35 post IY fq (m + 1) I fb (nI n) (nI (sz + (eL sz L).length)) (nI j) := by
      intro m
      induction m with
      | zero =>
        intro j I fb hj x
        unfold wp_X_appendStripNumbers_l35
        have : j = n := by omega
        subst this
        exact br_t (nI_le (by omega) (by omega)) (k _ _ x)
      | succ m ih =>
        intro j I fb hj x
        unfold wp_X_appendStripNumbers_l35
        rw [nI_clamp (n := j) (by omega), (hF j (by omega)).1, nI_1]
        refine br_f (nI_ge (by omega) (by omega)) ⟨vp_in_nI (by omega) (by decide), x.long hs hbe (by rw [List.length_append, lgL_len]; omega) (hF j (by omega)).2 (fun I3 f3 x3 => ih (j + 1) I3 f3 (by omega) ?_)⟩
        rw [List.append_assoc] at x3
        exact x3
    exact ⟨n + 1, key n 0 I2 f2 (by omega) (by simp only [lgL, List.append_nil]; exact x2)⟩
def cz (ch : Nat → Nat → Nat) (ln : Nat → Nat) (q j : Nat) : Nat := if j < ln q then ch q j else 0
def oK (lw i : Nat) : Nat := if i = 0 then lw else 1 - lw
theorem oK_inj {lw i j : Nat} (hl : lw ≤ 1) (hi : i < 2) (hj : j < 2) (h : oK lw i = oK lw j) : i = j := by
  unfold oK at h
  split at h <;> split at h <;> omega
def lwN (c : Nat) (tg : Nat → Nat) : Nat := if c = 2 ∧ tg 1 < tg 0 then 1 else 0
theorem lwN_le (c : Nat) (tg : Nat → Nat) : lwN c tg ≤ 1 := by unfold lwN; split <;> omega
theorem oK_lt {c i : Nat} {tg : Nat → Nat} (hc : c ≤ 2) (hi : i < c) : oK (lwN c tg) i < c := by
  unfold oK lwN
  split <;> split <;> omega
theorem oK_2 {c i : Nat} {tg : Nat → Nat} : oK (lwN c tg) i < 2 := by
  unfold oK lwN
  split <;> split <;> omega
/-- one label, on one side -/
def lb1 (c : Nat) (tg ln : Nat → Nat) (ch : Nat → Nat → Nat) (fc fs ft : Nat → Int32) : Prop := c ≤ 2 ∧ ∀ q, q < c → (tg q < 65536 ∧ ft q = nI (tg q)) ∧ (1 ≤ ln q ∧ ln q ≤ 12 ∧ fs q = nI (ln q)) ∧ ∀ j, j < ln q → ch q j < 256 ∧ fc (12 * q + j) = nI (ch q j)
theorem RLb.lb {c : Nat} {tg ln : Nat → Nat} {ch : Nat → Nat → Nat} {I fc fs ft J gl gc gt : Nat → Int32} (h : RLb c tg ln ch I fc fs ft J gl gc gt) : lb1 c tg ln ch fc fs ft ∧ lb1 c tg ln ch gc gl gt := by
  obtain ⟨⟨_, _, hc⟩, h2, _⟩ := h
  refine ⟨⟨hc, fun q hq => ?_⟩, ⟨hc, fun q hq => ?_⟩⟩
  · obtain ⟨⟨a1, a2, a3, a4⟩, ⟨b1, b2, b3, b4⟩, c1⟩ := h2 q hq
    exact ⟨⟨a2, a3⟩, ⟨b1, b2, b3⟩, fun j hj => by obtain ⟨⟨d1, d2⟩, d3, d4⟩ := c1 j hj; exact ⟨by omega, d3⟩⟩
  · obtain ⟨⟨a1, a2, a3, a4⟩, ⟨b1, b2, b3, b4⟩, c1⟩ := h2 q hq
    exact ⟨⟨a2, a4⟩, ⟨b1, b2, b4⟩, fun j hj => by obtain ⟨⟨d1, d2⟩, d3, d4⟩ := c1 j hj; exact ⟨by omega, d4⟩⟩
theorem aB.cz {c : Nat} {tg ln : Nat → Nat} {ch : Nat → Nat → Nat} {fc fs ft : Nat → Int32} (h : lb1 c tg ln ch fc fs ft) {q n : Nat} (hq : q < c) : aB (rgL (cz ch ln q) 0 n) := by
  refine aB.rg (fun j _ => ?_)
  unfold Jvm.Pilot.CTaggedRasterLaw_law_r6233_95c97e.cz
  split
  · next z => exact ((h.2 q hq).2.2 _ z).1
  · decide
theorem p_inOrder {post : Int32 → Prop} {I fc fs ft : Nat → Int32} {c i : Nat} {tg ln : Nat → Nat} {ch : Nat → Nat → Nat} (h : lb1 c tg ln ch fc fs ft) (e : I 3 = nI c) (hi : i < c) (hp : post (nI (oK (lwN c tg) i))) : wp_Lb_inOrder post I ft (nI i) := by
  have hc := h.1
  unfold wp_Lb_inOrder
  unfold wp_Lb_inOrder_b27 wp_Lb_inOrder_b28
  rw [e]
  refine pk_eq c 2 (fun q => ⟨vp_in_nI (n := 1) (by decide) (by decide), vp_in_nI (n := 0) (by decide) (by decide), ?_⟩) (fun q => br_t rfl ?_)
  · rw [((h.2 0 (by omega)).1).2, ((h.2 1 (by omega)).1).2]
    have t0 := ((h.2 0 (by omega)).1).1
    have t1 := ((h.2 1 (by omega)).1).1
    refine pk_le (tg 0) (tg 1) (fun z => br_t rfl ?_) (fun z => br_f (by decide) ?_)
    · have : oK (lwN c tg) i = i := by
        unfold oK lwN
        split <;> split <;> omega
      rw [this] at hp
      exact hp
    · have : oK (lwN c tg) i = 1 - i := by
        unfold oK lwN
        split <;> split <;> omega
      rw [this] at hp
      rw [show (1 : Int32) = nI 1 from rfl, pk_sub (by omega)]
      exact hp
  · have : oK (lwN c tg) i = i := by
      unfold oK lwN
      split <;> split <;> omega
    rw [this] at hp
    exact hp
theorem p_X_text {post : (Nat → Int32) → (Nat → Int32) → Prop} {Il fc fs ft I0 f0 I fb : Nat → Int32} {c q n sz : Nat} {tg ln : Nat → Nat} {ch : Nat → Nat → Nat} {L : List Nat} (h : lb1 c tg ln ch fc fs ft) (hq : q < c) (hn : n ≤ 13) (hx : XA I0 f0 sz L I fb) (hb : sz + L.length < 2 ^ 20) (k : ∀ I' f', XA I0 f0 sz (L ++ rgL (cz ch ln q) 0 n) I' f' → post I' f') : wp_Lb_appendText post Il fc fs I fb (nI q) (nI n) := by
  have hc := h.1
  obtain ⟨_, ⟨l1, l2, l3⟩, l4⟩ := h.2 q hq
  unfold wp_Lb_appendText
  have key : ∀ (m j : Nat) (I fb : Nat → Int32), j + m = n → XA I0 f0 sz (L ++ rgL (cz ch ln q) 0 j) I fb → wp_Lb_appendText_l3 post Il fc fs (m + 1) I fb (nI q) (nI n) (nI j) := by
    intro m
    induction m with
    | zero =>
      intro j I fb hj x
      unfold wp_Lb_appendText_l3
      have : j = n := by omega
      subst this
      exact br_t (nI_le (by omega) (by omega)) (k _ _ x)
    | succ m ih =>
      intro j I fb hj x
      unfold wp_Lb_appendText_l3
      rw [nI_clamp (n := q) (by omega), l3]
      have nx : wp_Lb_appendText_b49 post (wp_Lb_appendText_l3 post Il fc fs (m + 1)) Il fc fs I fb (nI q) (nI n) (nI j) (nI (cz ch ln q j)) := by
        unfold wp_Lb_appendText_b49
        refine x.one (by rw [List.length_append, rgL_len]; omega) (fun I2 f2 x2 => ?_)
        rw [nI_1]
        refine ih (j + 1) I2 f2 (by omega) ?_
        rw [List.append_assoc] at x2
        simp only [rgL]
        rw [Nat.zero_add]
        exact x2
      unfold wp_Lb_appendText_b25
      unfold cz at nx
      refine br_f (nI_ge (by omega) (by omega)) ⟨vp_in_nI (by omega) (by decide), pk_le (ln q) j (fun z => br_t rfl ?_) (fun z => br_f (by decide) ?_)⟩
      · rw [if_neg (by omega)] at nx
        exact nx
      · rw [if_pos z] at nx
        rw [show (12 : Int32) = nI 12 from rfl, pk_mul, nI_add, nI_clamp (by omega), Nat.mul_comm q 12, (l4 j z).2]
        exact ⟨vp_in_nI (by omega) (by decide), nx⟩
  exact ⟨n + 1, key n 0 I fb (by omega) (by simp only [rgL, List.append_nil]; exact hx)⟩
theorem p_M_text {post : (Nat → Int32) → (Nat → Int32) → Prop} {gc gl gt J0 g0 J g : Nat → Int32} {c q sz : Nat} {tg ln : Nat → Nat} {ch : Nat → Nat → Nat} {L : List Nat} (h : lb1 c tg ln ch gc gl gt) (hq : q < c) (hx : MA J0 g0 sz L J g) (hb : sz + L.length + 13 < 2000) (k : ∀ J' g', MA J0 g0 sz (L ++ rgL (cz ch ln q) 0 (ln q + 1)) J' g' → post J' g') : wp_M_text post gl gc J g (nI q) := by
  have hc := h.1
  obtain ⟨_, ⟨l1, l2, l3⟩, l4⟩ := h.2 q hq
  unfold wp_M_text
  have key : ∀ (m j : Nat) (J g : Nat → Int32), j + m = ln q → MA J0 g0 sz (L ++ rgL (cz ch ln q) 0 j) J g → wp_M_text_l2 post gl gc (m + 1) J g (nI q) (nI j) := by
    intro m
    induction m with
    | zero =>
      intro j J g hj x
      unfold wp_M_text_l2
      have : j = ln q := by omega
      subst this
      rw [nI_clamp (n := q) (by omega), l3]
      refine ⟨vp_in_nI (by omega) (by decide), br_t (nI_le (by omega) (by omega)) (x.put (v := 0) (by rw [List.length_append, rgL_len]; omega) (fun J2 g2 x2 => k _ _ ?_))⟩
      rw [List.append_assoc] at x2
      simp only [rgL]
      unfold cz
      rw [Nat.zero_add, if_neg (by omega)]
      exact x2
    | succ m ih =>
      intro j J g hj x
      unfold wp_M_text_l2
      rw [nI_clamp (n := q) (by omega), l3, show (12 : Int32) = nI 12 from rfl, pk_mul, nI_add, nI_clamp (by omega), (l4 j (by omega)).2, nI_1]
      refine ⟨vp_in_nI (by omega) (by decide), br_f (nI_ge (by omega) (by omega)) ⟨vp_in_nI (by omega) (by decide), x.put (by rw [List.length_append, rgL_len]; omega) (fun J2 g2 x2 => ih (j + 1) J2 g2 (by omega) ?_)⟩⟩
      rw [List.append_assoc] at x2
      have : cz ch ln q j = ch q j := if_pos (by omega)
      simp only [rgL]
      rw [Nat.zero_add, this]
      exact x2
  exact ⟨ln q + 1, key (ln q) 0 J g (by omega) (by simp only [rgL, List.append_nil]; exact hx)⟩
/-- the long texts, each at an even place -/
def tL (sz : Nat) (ch : Nat → Nat → Nat) (ln : Nat → Nat) (lw : Nat) (L : List Nat) : Nat → List Nat
  | 0 => L
  | i + 1 => if 4 ≤ ln (oK lw i) then eL sz (tL sz ch ln lw L i) ++ rgL (cz ch ln (oK lw i)) 0 (ln (oK lw i) + 1) else tL sz ch ln lw L i
def tP (sz : Nat) (ch : Nat → Nat → Nat) (ln : Nat → Nat) (lw : Nat) (L : List Nat) (q : Nat) : Nat := sz + (eL sz (tL sz ch ln lw L (if q = lw then 0 else 1))).length
theorem tP_o {sz : Nat} {ch : Nat → Nat → Nat} {ln : Nat → Nat} {lw : Nat} {L : List Nat} {i : Nat} (hl : lw ≤ 1) (hi : i < 2) : tP sz ch ln lw L (oK lw i) = sz + (eL sz (tL sz ch ln lw L i)).length := by
  unfold tP oK
  have : i = 0 ∨ i = 1 := by omega
  rcases this with rfl | rfl
  · rw [if_pos rfl, if_pos rfl]
  · have e1 : (if (1 : Nat) = 0 then lw else 1 - lw) = 1 - lw := if_neg (by decide)
    rw [e1, if_neg (by omega)]
theorem tL_len {c : Nat} {tg ln : Nat → Nat} {ch : Nat → Nat → Nat} {fc fs ft : Nat → Int32} {sz : Nat} {L : List Nat} (h : lb1 c tg ln ch fc fs ft) : ∀ i, i ≤ c → (tL sz ch ln (lwN c tg) L i).length ≤ L.length + 14 * i := by
  intro i
  induction i with
  | zero => intro _; exact Nat.le_refl _
  | succ i ih =>
    intro hi
    have h1 := ih (by omega)
    have h2 := (h.2 _ (oK_lt (tg := tg) h.1 (show i < c by omega))).2.1.2.1
    simp only [tL]
    split
    · rw [List.length_append, eL_len, rgL_len]; omega
    · omega
theorem aB.tL {c : Nat} {tg ln : Nat → Nat} {ch : Nat → Nat → Nat} {fc fs ft : Nat → Int32} {sz : Nat} {L : List Nat} (h : lb1 c tg ln ch fc fs ft) (hL : aB L) : ∀ i, i ≤ c → aB (tL sz ch ln (lwN c tg) L i) := by
  intro i
  induction i with
  | zero => intro _; exact hL
  | succ i ih =>
    intro hi
    have h1 := ih (by omega)
    simp only [Jvm.Pilot.CTaggedRasterLaw_law_r6233_95c97e.tL]
    split
    · exact h1.e.app (aB.cz h (oK_lt h.1 (by omega)))
    · exact h1
theorem p_X_texts {post : (Nat → Int32) → (Nat → Int32) → (Nat → Int32) → Prop} {Il fc fs ft I0 f0 I fb fT : Nat → Int32} {c sz : Nat} {tg ln : Nat → Nat} {ch : Nat → Nat → Nat} {L : List Nat} (h : lb1 c tg ln ch fc fs ft) (e : Il 3 = nI c) (hx : XA I0 f0 sz L I fb) (hb : sz + L.length < 2 ^ 19) (k : ∀ I' f' fT', XA I0 f0 sz (tL sz ch ln (lwN c tg) L c) I' f' → (∀ i, i < c → 4 ≤ ln (oK (lwN c tg) i) → fT' (oK (lwN c tg) i) = nI (tP sz ch ln (lwN c tg) L (oK (lwN c tg) i))) → post I' f' fT') : wp_X_appendLongTexts post Il fc fs ft I fb fT := by
  have hc := h.1
  have hlw := lwN_le c tg
  unfold wp_X_appendLongTexts
  have key : ∀ (m j : Nat) (I fb fT : Nat → Int32), j + m = c → XA I0 f0 sz (tL sz ch ln (lwN c tg) L j) I fb → (∀ i, i < j → 4 ≤ ln (oK (lwN c tg) i) → fT (oK (lwN c tg) i) = nI (tP sz ch ln (lwN c tg) L (oK (lwN c tg) i))) → wp_X_appendLongTexts_l2 post Il fc fs ft (m + 1) I fb fT (nI j) := by
    intro m
    induction m with
    | zero =>
      intro j I fb fT hj x hT
      unfold wp_X_appendLongTexts_l2
      have : j = c := by omega
      subst this
      rw [e]
      exact br_t (nI_le (by omega) (by omega)) (k _ _ _ x hT)
    | succ m ih =>
      intro j I fb fT hj x hT
      have hq := oK_lt (tg := tg) hc (show j < c by omega)
      obtain ⟨_, ⟨l1, l2, l3⟩, _⟩ := h.2 _ hq
      have hlen := tL_len (sz := sz) (L := L) h j (by omega)
      have hel := eL_len sz (tL sz ch ln (lwN c tg) L j)
      unfold wp_X_appendLongTexts_l2
      rw [e]
      refine br_f (nI_ge (by omega) (by omega)) (p_inOrder h e (by omega) ?_)
      have hP := tP_o (sz := sz) (ch := ch) (ln := ln) (L := L) (i := j) hlw (by omega)
      have hin := fun i (hi : i < j) => oK_inj (i := i) (j := j) hlw (by omega) (by omega)
      have nx := fun I fb fT => ih (j + 1) I fb fT (by omega)
      simp only [tL] at nx
      obtain ⟨q, hqe⟩ : ∃ q, oK (lwN c tg) j = q := ⟨_, rfl⟩
      rw [hqe] at hq l1 l2 l3 hP ⊢
      unfold wp_Lb_bytesOf
      rw [nI_clamp (n := q) (by omega), l3, nI_1]
      unfold wp_X_appendLongTexts_b74
      refine ⟨vp_in_nI (by omega) (by decide), pk_le (ln q + 1) 4 (fun z => ?_) (fun z => ?_)⟩
      · rw [nI_1]
        refine nx I fb fT ?_ (fun i hi h4 => ?_)
        · rw [hqe, if_neg (by omega)]
          exact x
        · by_cases ei : i = j
          · rw [ei, hqe] at h4
            omega
          · exact hT i (by omega) h4
      · refine x.even (by omega) (fun I2 f2 x2 => ⟨vp_in_nI (by omega) (by decide), vp_in_nI (by omega) (by decide), ?_⟩)
        refine p_X_text h hq (by omega) x2 (by omega) (fun I3 f3 x3 => ?_)
        rw [nI_1]
        refine nx I3 f3 _ ?_ (fun i hi h4 => ?_)
        · rw [hqe, if_pos (by omega)]
          exact x3
        · rw [upd_at]
          by_cases ei : i = j
          · rw [ei, hqe, if_pos rfl, x2.1, hP]
          · rw [if_neg (fun w => ei (hin i (by omega) (w.trans hqe.symm)))]
            exact hT i (by omega) h4
  exact ⟨c + 1, key c 0 I fb fT (by omega) hx (fun i hi => by omega)⟩
