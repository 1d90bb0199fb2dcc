/-! load: all strips, and the samples -/
def rbN (cs dp : Nat) : Nat := (cs * dp + 7) / 8
def frR (rs ec k : Nat) : Nat := if k * ec < rs then k * ec else rs
theorem rbN_le {cs dp : Nat} (hd : dpO dp) (hc : cs ≤ 16) : rbN cs dp ≤ 16 := by
  unfold rbN
  rcases hd with rfl | rfl | rfl | rfl <;> omega
theorem frR_le (rs ec k : Nat) : frR rs ec k ≤ rs := by unfold frR; split <;> omega
theorem frR_in {rs ec k : Nat} (h1 : 1 ≤ ec) (hk : k < nSt rs ec) : k * ec < rs ∧ frR rs ec k = k * ec ∧ frR rs ec (k + 1) = (if k * ec + ec < rs then k * ec + ec else rs) ∧ frR rs ec k ≤ frR rs ec (k + 1) := by
  unfold nSt at hk
  have h2 := (Nat.le_div_iff_mul_le h1).mp hk
  rw [Nat.succ_mul] at h2
  unfold frR
  rw [Nat.succ_mul]
  refine ⟨by omega, if_pos (by omega), rfl, ?_⟩
  rw [if_pos (by omega)]
  split <;> omega
theorem frR_last {rs ec : Nat} (h1 : 1 ≤ ec) : frR rs ec (nSt rs ec) = rs := by
  unfold frR
  refine if_neg (fun q => ?_)
  unfold nSt at q
  have h3 := Nat.div_add_mod (rs + ec - 1) ec
  have h4 := Nat.mod_lt (rs + ec - 1) h1
  rw [Nat.mul_comm ec] at h3
  omega
def wnt (cs rs dp ec k : Nat) : Nat := (frR rs ec (k + 1) - frR rs ec k) * rbN cs dp
theorem wnt_add {cs rs dp ec k : Nat} (h1 : 1 ≤ ec) (hk : k < nSt rs ec) : frR rs ec k * rbN cs dp + wnt cs rs dp ec k = frR rs ec (k + 1) * rbN cs dp := by
  have := (frR_in h1 hk).2.2.2
  unfold wnt
  rw [← Nat.add_mul]
  congr 1
  omega
theorem fr_le {cs rs dp ec : Nat} (hd : dpO dp) (hc : cs ≤ 16) (hr : rs ≤ 16) (k : Nat) : frR rs ec k * rbN cs dp ≤ 256 :=
  Nat.mul_le_mul (Nat.le_trans (frR_le rs ec k) hr) (rbN_le hd hc)
def stD (b : Nat → Nat) (sz cs rs dp mt ec a1 a2 k : Nat) : Option (List Nat) :=
  if vlE b a1 k + vlE b a2 k ≤ sz then (if mt = 1 then dPl b (vlE b a1 k) (vlE b a2 k) (wnt cs rs dp ec k) else if mt = 32773 then dPk b (vlE b a1 k + vlE b a2 k) (wnt cs rs dp ec k) (vlE b a2 k + 1) (vlE b a1 k) [] else dCd b (vlE b a1 k) (vlE b a2 k) (wnt cs rs dp ec k)) else none
theorem stD_ok {b : Nat → Nat} {sz cs rs dp mt ec a1 a2 k : Nat} {f : Nat → Int32} {l : List Nat} (hf : Fb sz b f) (h : stD b sz cs rs dp mt ec a1 a2 k = some l) : l.length = wnt cs rs dp ec k ∧ ∀ x ∈ l, x < 256 := by
  unfold stD at h
  split at h
  · next q =>
    have hb : ∀ j, j < vlE b a1 k + vlE b a2 k → b j < 256 := fun j hj => (hf.2.2 j (by omega)).1
    split at h
    · unfold dPl at h
      split at h
      · next q2 =>
        cases h
        refine ⟨by rw [cpL_len]; simp, cpL_lt (fun x hx => absurd hx List.not_mem_nil) _ (fun j hj => hb _ (by omega))⟩
      · cases h
    · split at h
      · exact dPk_ok hb _ _ _ _ (fun x hx => absurd hx List.not_mem_nil) h
      · unfold dCd at h
        rw [Option.map_eq_some_iff] at h
        obtain ⟨acc, h1, h2⟩ := h
        obtain ⟨q1, q2⟩ := dNb_ok _ _ _ _ _ (fun x hx => absurd hx List.not_mem_nil) h1
        subst h2
        exact ⟨byN_len _ _, byN_lt q2 _⟩
  · cases h
theorem p_bytesARow {post : Int32 → Prop} {I : Nat → Int32} {cs dp : Nat} (e0 : I 0 = nI cs) (e2 : I 2 = nI dp) (hd : dpO dp) (hc : cs ≤ 16) (hp : post (nI (rbN cs dp))) : wp_Ly_bytesARow post I := by
  unfold wp_Ly_bytesARow
  have : cs * dp ≤ 16 * 8 := Nat.mul_le_mul hc (by rcases hd with rfl | rfl | rfl | rfl <;> omega)
  rw [e0, e2, pk_mul, show (7 : Int32) = nI 7 from rfl, nI_add, show (8 : Int32) = nI 8 from rfl, pk_div (by omega) (by decide) (by decide)]
  exact hp
theorem p_M_rowBytes {post : Int32 → Prop} {cs dp : Nat} (hd : dpO dp) (hc : cs ≤ 16) (hp : post (nI (rbN cs dp))) : wp_M_rowBytes post (nI cs) (nI dp) := by
  unfold wp_M_rowBytes
  have : cs * dp ≤ 16 * 8 := Nat.mul_le_mul hc (by rcases hd with rfl | rfl | rfl | rfl <;> omega)
  rw [pk_mul, show (7 : Int32) = nI 7 from rfl, nI_add, show (8 : Int32) = nI 8 from rfl, pk_div (by omega) (by decide) (by decide)]
  exact hp
theorem p_firstRow {post : Int32 → Prop} {I : Nat → Int32} {rs ec k : Nat} (e1 : I 1 = nI rs) (e4 : I 4 = nI ec) (hr : rs ≤ 16) (hk : k ≤ 16) (he : ec ≤ 16) (hp : post (nI (frR rs ec k))) : wp_Ly_firstRow post I (nI k) := by
  unfold wp_Ly_firstRow
  have : k * ec ≤ 16 * 16 := Nat.mul_le_mul hk he
  rw [e1, e4, pk_mul]
  unfold frR at hp
  by_cases q : k * ec < rs
  · rw [if_pos q] at hp
    rw [if_pos (nI_lt q (by omega))]; exact hp
  · rw [if_neg q] at hp
    rw [if_neg (nI_nlt (by omega) (by omega))]; exact hp
theorem p_firstByte {post : Int32 → Prop} {I : Nat → Int32} {cs rs dp mt ec pr k : Nat} (hl : lyX cs rs dp mt ec pr I) (hd : dpO dp) (hc : cs ≤ 16) (hr : rs ≤ 16) (hk : k ≤ 16) (he : ec ≤ 16) (hp : post (nI (frR rs ec k * rbN cs dp))) : wp_Ly_firstByte post I (nI k) := by
  unfold wp_Ly_firstByte
  refine p_firstRow hl.2.1 hl.2.2.2.2.1 hr hk he (p_bytesARow hl.1 hl.2.2.1 hd hc ?_)
  rw [pk_mul]; exact hp
theorem p_decodeStrip {post : Int32 → (Nat → Int32) → (Nat → Int32) → (Nat → Int32) → (Nat → Int32) → Prop} {I fb IY IS IP f D zs st : Nat → Int32} {LS LP : Nat → Int64} {sz p cs rs dp mt ec pr a1 a2 k : Nat} {b : Nat → Nat} (e1 : I 1 = nI sz) (h : Fb sz b fb) (hs : stS b sz p = true) (hG : okG b sz p cs rs dp mt ec pr a1 a2) (hl : lyX cs rs dp mt ec pr IY) (x1 : enX b sz a1 IP LP) (x2 : enX b sz a2 IS LS) (hk : k < nSt rs ec)
    (h1 : ∀ l f', stD b sz cs rs dp mt ec a1 a2 k = some l → gX f f' (frR rs ec k * rbN cs dp) l → ∀ D' zs' st' : Nat → Int32, post 1 f' D' zs' st') (h0 : stD b sz cs rs dp mt ec a1 a2 k = none → ∀ f' D' zs' st' : Nat → Int32, post 0 f' D' zs' st') : wp_X_decodeStrip post I fb IY IS LS IP LP f D zs st (nI k) := by
  obtain ⟨u, ⟨o1, c1, c2⟩, ⟨o2, r1, r2⟩, ⟨o3, hd⟩, ⟨o4, hm⟩, ⟨r, hr, o5, r3, hec⟩, ⟨o6, hp⟩, g1, g2⟩ := hG
  have he1 : 1 ≤ ec ∧ ec ≤ rs := by rw [hec]; split <;> omega
  have hn := nSt_le he1.1 he1.2
  have t1 := enT_in hs g1.1
  have t2 := enT_in hs g2.1
  have v1 := vl_lt h g1 hk
  have v2 := vl_lt h g2 hk
  have h4 := h.2.1
  unfold wp_X_decodeStrip
  refine p_En_value e1 h (by omega) x1 g1.2.1 (by rw [g1.2.2.2]; exact hk) (p_En_value e1 h (by omega) x2 g2.2.1 (by rw [g2.2.2.2]; exact hk) ?_)
  unfold stD at h1 h0
  refine p_St_holds e1 h4 (by omega) (by omega) (fun q => br_f (by decide) ?_) (fun q => br_t rfl (h0 (if_neg q) _ _ _ _))
  rw [if_pos q] at h1 h0
  rw [lN_add, lN_i, lN_i, nI_1]
  refine p_firstByte hl hd c2 r2 (by omega) (by omega) (p_firstByte hl hd c2 r2 (by omega) (by omega) ?_)
  have hf := fr_le (ec := ec) hd c2 r2 (k + 1)
  rw [hl.2.2.2.1, ← wnt_add he1.1 hk] at *
  have hmt : mt < 65536 := by rcases hm with rfl | rfl | rfl <;> omega
  refine pk_eq mt 1 (fun q2 => ?_) (fun q2 => pk_eq mt 32773 (fun q3 => ?_) (fun q3 => ?_))
  · rw [if_pos q2] at h1 h0
    exact p_takePlain h q hf (fun l f' y1 y2 => ⟨Or.inr rfl, h1 l f' y1 y2 _ _ _⟩) (fun y f' => ⟨Or.inl rfl, h0 y _ _ _ _⟩)
  · rw [if_neg q2, if_pos q3] at h1 h0
    exact p_Pk_decode h q hf (fun l f' y1 y2 => ⟨Or.inr rfl, h1 l f' y1 y2 _ _ _⟩) (fun y f' => ⟨Or.inl rfl, h0 y _ _ _ _⟩)
  · rw [if_neg q2, if_neg q3] at h1 h0
    exact p_Nd_decode h q hf (fun l f' y1 y2 D' zs' st' => ⟨Or.inr rfl, h1 l f' y1 y2 _ _ _⟩) (fun y f' D' zs' st' => ⟨Or.inl rfl, h0 y _ _ _ _⟩)
theorem p_M_strip {post : Int32 → (Nat → Int32) → (Nat → Int32) → (Nat → Int32) → (Nat → Int32) → (Nat → Int32) → (Nat → Int32) → Prop} {fb J d dr mn nb st : Nat → Int32} {sz p i cs rs dp mt ec pr a1 a2 k : Nat} {b : Nat → Nat} (e1 : J 1 = nI sz) (h : Fb sz b fb) (hi : i < (wkR b sz).1.length) (ep : (wkR b sz).1.getD i 0 = p) (hG : okG b sz p cs rs dp mt ec pr a1 a2) (hl : lyM cs rs dp mt ec pr J) (hk : k < nSt rs ec)
    (h1 : ∀ l d', stD b sz cs rs dp mt ec a1 a2 k = some l → gX d d' 0 l → ∀ J' dr' mn' nb' st' : Nat → Int32, wM (wkR b sz) J J' dr' → post 1 J' d' dr' mn' nb' st') (h0 : stD b sz cs rs dp mt ec a1 a2 k = none → ∀ d' J' dr' mn' nb' st' : Nat → Int32, wM (wkR b sz) J J' dr' → post 0 J' d' dr' mn' nb' st') : wp_M_strip post fb J d dr mn nb st (nI i) (nI k) := by
  obtain ⟨u, ⟨o1, c1, c2⟩, ⟨o2, r1, r2⟩, ⟨o3, hd⟩, ⟨o4, hm⟩, ⟨r, hr, o5, r3, hec⟩, ⟨o6, hp⟩, g1, g2⟩ := hG
  have he1 : 1 ≤ ec ∧ ec ≤ rs := by rw [hec]; split <;> omega
  have hn := nSt_le he1.1 he1.2
  have h8 := h.1
  have hs : stS b sz p = true := ep ▸ wk_mem h8 hi
  have t1 := enT_in hs g1.1
  have t2 := enT_in hs g2.1
  have v1 := vl_lt h g1 hk
  have v2 := vl_lt h g2 hk
  have h4 := h.2.1
  have s1 : SE b sz (nI i) 273 a1 := ⟨i, hi, rfl, by rw [ep]; exact g1.1, g1.2.1⟩
  have s2 : SE b sz (nI i) 279 a2 := ⟨i, hi, rfl, by rw [ep]; exact g2.1, g2.2.1⟩
  unfold wp_M_strip
  refine p_M_field e1 h (fun J' dr' m1 n => absurd ⟨a1, k, s1, rfl, by rw [g1.2.2.2]; exact hk⟩ n) (fun e j J1 d1 m1 y1 y2 y3 => ?_)
  have q1 := SE.uni h8 y1 s1
  subst q1
  rw [g1.2.2.2] at y3
  have q2 : k = j := (nI_eq (by omega) (by omega)).mp y2
  subst q2
  have j1 : J1 1 = nI sz := (m1.2.2.2.2 1 (by decide) (by decide) (by decide)).trans e1
  refine p_M_field j1 h (fun J' dr' m1 n => absurd ⟨a2, k, s2, rfl, by rw [g2.2.2.2]; exact hk⟩ n) (fun e' j' J2 d2 m2 w1 w2 w3 => ?_)
  have q1 := SE.uni h8 w1 s2
  subst q1
  rw [g2.2.2.2] at w3
  have q2 : k = j' := (nI_eq (by omega) (by omega)).mp w2
  subst q2
  have mm := m1.trans m2
  have fr := fun j hj1 hj2 hj3 => mm.2.2.2.2 j hj1 hj2 hj3
  have j2 : J2 1 = nI sz := (fr 1 (by decide) (by decide) (by decide)).trans e1
  have e23 : J2 23 = nI cs := (fr 23 (by decide) (by decide) (by decide)).trans hl.1
  have e24 : J2 24 = nI rs := (fr 24 (by decide) (by decide) (by decide)).trans hl.2.1
  have e25 : J2 25 = nI dp := (fr 25 (by decide) (by decide) (by decide)).trans hl.2.2.1
  have e26 : J2 26 = nI mt := (fr 26 (by decide) (by decide) (by decide)).trans hl.2.2.2.1
  have e27 : J2 27 = nI ec := (fr 27 (by decide) (by decide) (by decide)).trans hl.2.2.2.2.1
  obtain ⟨f1, f2, f3, f4⟩ := frR_in he1.1 hk
  unfold stD at h1 h0
  rw [lN_add, j2, nI_l (by omega), pk_lLE (by omega) (by omega), e24, e27, pk_mul, pk_sub (by omega)]
  refine br_c (fun q => ?_) (fun q => h0 (if_neg q) _ _ _ _ _ _ mm)
  rw [if_pos q] at h1 h0
  have hf := fr_le (ec := ec) hd c2 r2 (k + 1)
  have hwn : wnt cs rs dp ec k ≤ 256 := by
    have := wnt_add (cs := cs) (dp := dp) he1.1 hk
    omega
  have hmt : mt < 65536 := by rcases hm with rfl | rfl | rfl <;> omega
  have body : ∀ s : Nat, s = frR rs ec (k + 1) - frR rs ec k → wp_M_strip_b72 post fb J2 d d2 mn nb st (lN (vlE b e k)) (lN (vlE b e' k)) (nI s) := by
    intro s es
    unfold wp_M_strip_b72
    rw [e23, e25, e26]
    refine p_M_rowBytes hd c2 ?_
    rw [pk_mul, es, lN_i, lN_i]
    have ew : (frR rs ec (k + 1) - frR rs ec k) * rbN cs dp = wnt cs rs dp ec k := rfl
    rw [ew, show (2 : Int32) = nI 2 from rfl, pk_mul]
    refine pk_eq mt 32773 (fun q3 => ?_) (fun q3 => pk_eq mt 1 (fun q2 => ?_) (fun q2 => ?_))
    · rw [if_neg (by omega), if_pos q3] at h1 h0
      exact p_M_unpack h q hwn (fun l f' y1 y2 => ⟨Or.inr rfl, h1 l f' y1 y2 _ _ _ _ _ mm⟩) (fun y f' => ⟨Or.inl rfl, h0 y _ _ _ _ _ _ mm⟩)
    · rw [if_pos q2] at h1 h0
      exact p_M_plain h q hwn (fun l f' y1 y2 => h1 l f' y1 y2 _ _ _ _ _ mm) (fun y f' => h0 y _ _ _ _ _ _ mm)
    · rw [if_neg q2, if_neg q3] at h1 h0
      unfold dCd at h1 h0
      refine p_M_decode h q hwn (fun acc mn' nb' st' y1 y2 => br_f (by decide) ?_) (fun y mn' nb' st' => br_t rfl (h0 (by rw [y]; rfl) _ _ _ _ _ _ mm))
      obtain ⟨z1, z2⟩ := dNb_ok _ _ _ _ _ (fun x hx => absurd hx List.not_mem_nil) y1
      exact p_M_bytes y2 z1 hwn (fun d' hd' => h1 _ d' (by rw [y1]; rfl) hd' _ _ _ _ _ mm)
  refine pk_le ec (rs - k * ec) (fun z => body ec ?_) (fun z => body (rs - k * ec) ?_)
  · rw [f3, f2]; split <;> omega
  · rw [f3, f2]; split <;> omega
