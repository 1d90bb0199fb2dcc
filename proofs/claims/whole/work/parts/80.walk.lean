/-! the walk along the chain -/
def hdS (b : Nat → Nat) : Bool := decide ((b 0 = 73 ∨ b 0 = 77) ∧ b 0 = b 1 ∧ rdN b 2 2 = 42)
theorem hdS_iff {b : Nat → Nat} : hdS b = true ↔ ((b 0 = 73 ∨ b 0 = 77) ∧ b 0 = b 1 ∧ rdN b 2 2 = 42) := by
  unfold hdS
  exact decide_eq_true_iff
/-- the pages met, whether the chain ended, where the last link stands -/
def wkS (b : Nat → Nat) (sz : Nat) : Nat → List Nat → Nat → List Nat × Bool × Nat
  | 0, ms, l => (ms, false, l)
  | n + 1, ms, l => if rdN b l 4 = 0 then (ms, true, l) else if 8 ≤ ms.length ∨ stS b sz (rdN b l 4) = false ∨ rdN b l 4 ∈ ms then (ms, false, l) else wkS b sz n (ms ++ [rdN b l 4]) (rdN b l 4 + 2 + 12 * rdN b (rdN b l 4) 2)
def wkR (b : Nat → Nat) (sz : Nat) : List Nat × Bool × Nat := if hdS b = true then wkS b sz 9 [] 4 else ([], false, 4)
/-- what holds of a walk, at each of its steps -/
def wkOk (b : Nat → Nat) (sz : Nat) (r : List Nat × Bool × Nat) : Prop := r.1.length ≤ 8 ∧ (∀ p ∈ r.1, stS b sz p = true) ∧ 4 ≤ r.2.2 ∧ r.2.2 + 4 ≤ sz
theorem wkS_ok {b : Nat → Nat} {sz : Nat} : ∀ (n : Nat) (ms : List Nat) (l : Nat) (e : Bool), wkOk b sz (ms, e, l) → wkOk b sz (wkS b sz n ms l) := by
  intro n
  induction n with
  | zero => intro ms l e h; exact h
  | succ n ih =>
    intro ms l e h
    simp only [wkS]
    split
    · exact h
    · split
      · exact h
      · next q1 q2 =>
        obtain ⟨h1, h2, h3⟩ := h
        have hs : stS b sz (rdN b l 4) = true := by
          cases hc : stS b sz (rdN b l 4) with
          | true => rfl
          | false => exact absurd (Or.inr (Or.inl hc)) q2
        have hs2 := stS_iff.mp hs
        refine ih _ _ false ⟨?_, fun p hp => ?_, ?_, ?_⟩
        · simp only [List.length_append, List.length_singleton]
          have : ¬ 8 ≤ ms.length := fun q => q2 (Or.inl q)
          omega
        · rcases List.mem_append.mp hp with hp | hp
          · exact h2 p hp
          · rw [List.mem_singleton.mp hp]; exact hs
        · show 4 ≤ rdN b l 4 + 2 + 12 * rdN b (rdN b l 4) 2
          omega
        · show rdN b l 4 + 2 + 12 * rdN b (rdN b l 4) 2 + 4 ≤ sz
          omega
theorem wkR_ok {b : Nat → Nat} {sz : Nat} (h : 8 ≤ sz) : wkOk b sz (wkR b sz) := by
  have h0 : wkOk b sz ([], false, 4) := ⟨by decide, fun p hp => absurd hp List.not_mem_nil, Nat.le_refl _, h⟩
  unfold wkR
  split
  · exact wkS_ok 9 [] 4 false h0
  · exact h0
theorem p_hasHeader {post : Int32 → Prop} {I f : Nat → Int32} {sz : Nat} {b : Nat → Nat} (e1 : I 1 = nI sz) (h : Fb sz b f) (h1 : hdS b = true → post 1) (h0 : ¬ hdS b = true → post 0) : wp_St_hasHeader post I f := by
  rw [hdS_iff] at h1 h0
  have hz := h.1
  obtain ⟨i0, j0⟩ := h.2.2 0 (by omega)
  obtain ⟨i1, j1⟩ := h.2.2 1 (by omega)
  have l2 := h.lt2 (a := 2) (by omega)
  have v1 : vp_in 1 900 := vp900.mpr ⟨by decide, by decide⟩
  have rest : (b 0 = 73 ∨ b 0 = 77) → wp_St_hasHeader_b22 post I f := by
    intro hm
    unfold wp_St_hasHeader_b22 wp_St_hasHeader_b27 wp_St_hasHeader_b61
    refine br_f (by decide) ⟨v0_900, v1, ?_⟩
    rw [j0, j1, nI_eq (by omega) (by omega)]
    refine br_c (fun q => ?_) (fun q => h0 (fun z => q z.2.1))
    rw [show (2 : Int32) = nI 2 from rfl]
    refine p_St_shortAt e1 h (by omega) ?_
    rw [show (42 : Int32) = nI 42 from rfl, nI_eq (by omega) (by decide)]
    exact br_c (fun q2 => h1 ⟨hm, q, q2⟩) (fun q2 => h0 (fun z => q2 z.2.2))
  unfold wp_St_hasHeader
  rw [j0, show (73 : Int32) = nI 73 from rfl, show (77 : Int32) = nI 77 from rfl, nI_eq (by omega) (by decide), nI_eq (by omega) (by decide)]
  refine ⟨v0_900, br_c (fun q => rest (Or.inl q)) (fun q => ⟨v0_900, br_c (fun q2 => rest (Or.inr q2)) (fun q2 => ?_)⟩)⟩
  unfold wp_St_hasHeader_b27 wp_St_hasHeader_b61
  exact br_t rfl (h0 (fun z => z.1.elim q q2))
theorem p_wasMet {post : Int32 → Prop} {W pl : Nat → Int32} {ms : List Nat} {p : Nat} (e1 : W 1 = nI ms.length) (hm : ms.length ≤ 8) (hpl : ∀ j, j < ms.length → pl j = nI (ms.getD j 0)) (hb : ∀ q ∈ ms, q < 2 ^ 31) (hp : p < 2 ^ 40) (h1 : p ∈ ms → post 1) (h0 : ¬ p ∈ ms → post 0) : wp_Wk_wasMet post W pl (lN p) := by
  unfold wp_Wk_wasMet
  have hget : ∀ j, j < ms.length → ms.getD j 0 ∈ ms := fun j hj => by
    rw [List.getD_eq_getElem?_getD, List.getElem?_eq_getElem hj]
    exact List.getElem_mem hj
  have key : ∀ (m k : Nat), k + m = ms.length → (∀ j, j < k → ms.getD j 0 ≠ p) → wp_Wk_wasMet_l2 post W pl (m + 1) (lN p) (nI k) := by
    intro m
    induction m with
    | zero =>
      intro k hk hj
      unfold wp_Wk_wasMet_l2
      rw [e1]
      refine br_t (nI_le (by omega) (by omega)) (h0 (fun q => ?_))
      obtain ⟨i, hi, e⟩ := List.getElem_of_mem q
      refine hj i (by omega) ?_
      rw [List.getD_eq_getElem?_getD, List.getElem?_eq_getElem hi]
      exact e
    | succ m ih =>
      intro k hk hj
      unfold wp_Wk_wasMet_l2
      have hlt := hb _ (hget k (by omega))
      rw [e1, nI_clamp (by omega), hpl k (by omega), nI_l hlt, pk_lEQ (by omega) (by omega), nI_1]
      refine br_f (nI_ge (by omega) (by omega)) ⟨vp_in_nI (by omega) (by decide), br_c (fun q => h1 ?_) (fun q => ih (k + 1) (by omega) (fun j h => ?_))⟩
      · rw [← q]; exact hget k (by omega)
      · by_cases h2 : j = k
        · rw [h2]; exact q
        · exact hj j (by omega)
  exact ⟨ms.length + 1, key ms.length 0 (by omega) (fun j h => absurd h (by omega))⟩
def b1 (e : Bool) : Int32 := if e = true then 1 else 0
/-- the walk's object of the class holds the result r -/
def wX (r : List Nat × Bool × Nat) (W pl : Nat → Int32) : Prop := W 1 = nI r.1.length ∧ W 2 = b1 r.2.1 ∧ W 3 = nI r.2.2 ∧ ∀ j, j < r.1.length → pl j = nI (r.1.getD j 0)
theorem getD_snoc {l : List Nat} {p j : Nat} (h : j < l.length + 1) : (l ++ [p]).getD j 0 = if j = l.length then p else l.getD j 0 := by
  simp only [List.getD_eq_getElem?_getD]
  by_cases hj : j = l.length
  · rw [if_pos hj, hj, List.getElem?_append_right (Nat.le_refl _), Nat.sub_self]
    rfl
  · rw [if_neg hj, List.getElem?_append_left (by omega)]
theorem p_follow {post : (Nat → Int32) → (Nat → Int32) → Prop} {I f W pl : Nat → Int32} {sz : Nat} {b : Nat → Nat} (e1 : I 1 = nI sz) (h : Fb sz b f) (hp : ∀ W' pl' : Nat → Int32, wX (wkR b sz) W' pl' → post W' pl') : wp_Wk_follow post I f W pl := by
  have hz := h.1
  have hz2 := h.2.1
  have key : ∀ (n : Nat) (ms : List Nat) (l : Nat) (W pl : Nat → Int32), ms.length + n = 9 → wkOk b sz (ms, false, l) → wX (ms, false, l) W pl → (∀ W' pl' : Nat → Int32, wX (wkS b sz n ms l) W' pl' → post W' pl') → wp_Wk_follow_l25 post I f n W pl (nI ms.length) := by
    intro n
    induction n with
    | zero =>
      intro ms l W pl hn hok hw hq
      have := hok.1
      simp only at this
      omega
    | succ n ih =>
      intro ms l W pl hn hok hw hq
      obtain ⟨w1, w2, w3, w4⟩ := hw
      obtain ⟨o1, o2, o3, o4⟩ := hok
      simp only at w1 w2 w3 w4 o1 o2 o3 o4
      unfold wp_Wk_follow_l25
      refine br_f (nI_nlt (a := 8) (b := ms.length) (by omega) (by decide)) ?_
      rw [w3]
      refine p_St_longAt e1 h (by omega) ?_
      have l4 := h.lt4 (a := l) (by omega)
      simp only [wkS] at hq
      generalize rdN b l 4 = r at hq l4 ⊢
      rw [show (0 : Int64) = lN 0 from rfl, pk_lEQ (by omega) (by decide)]
      refine br_c (fun q => hq _ _ ?_) (fun q => ?_)
      · rw [if_pos q]
        exact ⟨w1, rfl, w3, w4⟩
      rw [if_neg q] at hq
      rw [w1, show (8 : Int32) = nI 8 from rfl, nI_eq (by omega) (by decide)]
      refine br_c (fun q2 => hq _ _ ?_) (fun q2 => ?_)
      · rw [if_pos (Or.inl (by omega))]
        exact ⟨w1, w2, w3, w4⟩
      refine p_Wk_stands e1 h (by omega) (fun q3 => br_f (by decide) ?_) (fun q3 => br_t rfl (hq _ _ ?_))
      · have s3 := stS_iff.mp q3
        refine p_wasMet (ms := ms) w1 o1 w4 (fun p hp => ?_) (by omega) (fun q4 => br_f (by decide) (hq _ _ ?_)) (fun q4 => br_t rfl ?_)
        · have := stS_iff.mp (o2 p hp)
          omega
        · rw [if_pos (Or.inr (Or.inr q4))]
          exact ⟨w1, w2, w3, w4⟩
        · rw [if_neg (fun z => z.elim (by omega) (fun z => z.elim (fun z => by rw [q3] at z; cases z) q4))] at hq
          refine ⟨vp_in_nI (by omega) (by decide), ?_⟩
          rw [lN_i]
          refine p_St_shortAt e1 h (by omega) ?_
          have l2 := h.lt2 (a := r) (by omega)
          rw [nI_1, show (2 : Int32) = nI 2 from rfl, show (12 : Int32) = nI 12 from rfl, nI_add, pk_mul, nI_add, nI_clamp (by omega)]
          have hlen : (ms ++ [r]).length = ms.length + 1 := by simp
          rw [← hlen]
          refine ih (ms ++ [r]) (r + 2 + 12 * rdN b r 2) _ _ (by omega) ⟨by rw [hlen]; omega, fun p hp => ?_, by show 4 ≤ r + 2 + 12 * rdN b r 2; omega, by show r + 2 + 12 * rdN b r 2 + 4 ≤ sz; omega⟩ ⟨rfl, w2, rfl, fun j hj => ?_⟩ hq
          · rcases List.mem_append.mp hp with hp | hp
            · exact o2 p hp
            · rw [List.mem_singleton.mp hp]; exact q3
          · simp only [hlen] at hj
            rw [upd_at, getD_snoc hj]
            split
            · rfl
            · exact w4 j (by omega)
      · have : stS b sz r = false := by cases hc : stS b sz r with
          | true => exact absurd hc q3
          | false => rfl
        rw [if_pos (Or.inr (Or.inl this))]
        exact ⟨w1, w2, w3, w4⟩
  unfold wp_Wk_follow
  have w0 : wX ([], false, 4) (upd (upd (upd W 1 0) 2 0) 3 4) pl := ⟨rfl, rfl, rfl, fun j hj => absurd hj (by simp)⟩
  unfold wkR at hp
  refine p_hasHeader e1 h (fun q => br_f (by decide) ⟨9, ?_⟩) (fun q => br_t rfl (hp _ _ ?_))
  · rw [if_pos q] at hp
    exact key 9 [] 4 _ _ rfl ⟨by decide, fun p hp => absurd hp List.not_mem_nil, Nat.le_refl _, hz⟩ w0 hp
  · rw [if_neg q]
    exact w0
/-- the reference's object holds the result r; its other fields are J's -/
def wM (r : List Nat × Bool × Nat) (J J' dr : Nat → Int32) : Prop := J' 11 = nI r.1.length ∧ J' 12 = b1 r.2.1 ∧ J' 14 = nI r.2.2 ∧ (∀ j, j < r.1.length → dr j = nI (r.1.getD j 0)) ∧ ∀ i, i ≠ 11 → i ≠ 12 → i ≠ 14 → J' i = J i
theorem p_walk {post : (Nat → Int32) → (Nat → Int32) → Prop} {J g dr : Nat → Int32} {sz : Nat} {b : Nat → Nat} (e1 : J 1 = nI sz) (h : Fb sz b g) (hp : ∀ J' dr' : Nat → Int32, wM (wkR b sz) J J' dr' → post J' dr') : wp_M_walk post g J dr := by
  have hz := h.1
  have hz2 := h.2.1
  -- the scan, once it is known that the walk doesn't go on
  have no : ∀ (K : (Nat → Int32) → (Nat → Int32) → Int32 → Prop) (r len : Nat) (J' dr' : Nat → Int32), J' 11 = nI len → len ≤ 8 → K J' dr' 0 → ∀ (m k : Nat), k + m = len → wp_M_walk_l135 post K g (m + 1) J' dr' 0 (lN r) (nI k) := by
    intro K r len J' dr' e11 hlen hK m
    induction m with
    | zero =>
      intro k hk
      unfold wp_M_walk_l135 wp_M_walk_b218
      rw [e11]
      exact br_t (nI_le (by omega) (by omega)) (br_t rfl hK)
    | succ m ih =>
      intro k hk
      unfold wp_M_walk_l135 wp_M_walk_b165 wp_M_walk_b166
      rw [e11, nI_1 k]
      exact br_f (nI_ge (by omega) (by omega)) (br_t rfl (ih (k + 1) (by omega)))
  have key : ∀ (n : Nat) (ms : List Nat) (l : Nat) (J' dr' : Nat → Int32), ms.length + n = 9 → wkOk b sz (ms, false, l) → (J' 11 = nI ms.length ∧ J' 14 = nI l ∧ (∀ j, j < ms.length → dr' j = nI (ms.getD j 0)) ∧ ∀ i, i ≠ 11 → i ≠ 12 → i ≠ 14 → J' i = J i) → (∀ J' dr' : Nat → Int32, wM (wkS b sz n ms l) J J' dr' → post J' dr') → wp_M_walk_l73 post g (n + 1) J' dr' 1 := by
    intro n
    induction n with
    | zero =>
      intro ms l J' dr' hn hok hw hq
      have := hok.1
      simp only at this
      omega
    | succ n ih =>
      intro ms l J' dr' hn hok hw hq
      obtain ⟨w1, w3, w4, w5⟩ := hw
      obtain ⟨o1, o2, o3, o4⟩ := hok
      simp only at o1 o2 o3 o4
      unfold wp_M_walk_l73
      refine br_f (by decide) ?_
      rw [w3]
      refine p_M_read (n := 4) h (by omega) (by decide) ?_
      have l4 := h.lt4 (a := l) (by omega)
      simp only [wkS] at hq
      generalize rdN b l 4 = r at hq l4 ⊢
      -- the end, when the walk stops here
      have stop : ∀ (s0 : Int32) (e : Bool), s0 = b1 e → (∀ J'' dr'' : Nat → Int32, wM (ms, e, l) J J'' dr'' → post J'' dr'') → wp_M_walk_b130 post (wp_M_walk_l73 post g (n + 1)) g (upd J' 12 s0) dr' (lN r) := by
        intro s0 e es hst
        unfold wp_M_walk_b130 wp_M_walk_b131
        refine ⟨ms.length + 1, no _ r ms.length _ _ (by rw [upd_at, if_neg (by decide)]; exact w1) o1 ?_ ms.length 0 (by omega)⟩
        unfold wp_M_walk_l73
        refine br_t rfl (hst _ _ ⟨by rw [upd_at, if_neg (by decide)]; exact w1, by rw [upd_at, if_pos rfl]; exact es, by rw [upd_at, if_neg (by decide)]; exact w3, w4, fun i h1 h2 h3 => ?_⟩)
        rw [upd_at, if_neg h2]
        exact w5 i h1 h2 h3
      rw [show (0 : Int64) = lN 0 from rfl, pk_lEQ (by omega) (by decide)]
      unfold wp_M_walk_b99
      refine br_c (fun q => ⟨Or.inr rfl, br_f (by decide) ?_⟩) (fun q => ⟨Or.inl rfl, br_t rfl ?_⟩)
      · rw [if_pos q] at hq
        exact stop 1 true rfl hq
      rw [if_neg q] at hq
      rw [w1, show (8 : Int32) = nI 8 from rfl, nI_leI (by decide) (by omega)]
      refine br_c (fun q2 => ?_) (fun q2 => ?_)
      · rw [if_pos (Or.inl q2)] at hq
        exact stop 0 false rfl hq
      refine p_M_stands (sz := sz) (b := b) (by rw [upd_at, if_neg (by decide), w5 1 (by decide) (by decide) (by decide)]; exact e1) h (by omega) (fun q3 => br_f (by decide) ?_) (fun q3 => br_t rfl ?_)
      · have s3 := stS_iff.mp q3
        have hget : ∀ j, j < ms.length → ms.getD j 0 ∈ ms := fun j hj => by
          rw [List.getD_eq_getElem?_getD, List.getElem?_eq_getElem hj]
          exact List.getElem_mem hj
        have hb : ∀ p ∈ ms, p < 2 ^ 31 := fun p hp => by
          have := stS_iff.mp (o2 p hp)
          omega
        unfold wp_M_walk_b131
        have scan : ∀ (m k : Nat), k + m = ms.length → (∀ j, j < k → ms.getD j 0 ≠ r) → wp_M_walk_l135 post (wp_M_walk_l73 post g (n + 1)) g (m + 1) (upd J' 12 0) dr' 1 (lN r) (nI k) := by
          intro m
          induction m with
          | zero =>
            intro k hk hj
            have hnm : ¬ r ∈ ms := fun z => by
              obtain ⟨i, hi, e⟩ := List.getElem_of_mem z
              refine hj i (by omega) ?_
              rw [List.getD_eq_getElem?_getD, List.getElem?_eq_getElem hi]
              exact e
            rw [if_neg (fun z => z.elim q2 (fun z => z.elim (fun z => by rw [q3] at z; cases z) hnm))] at hq
            unfold wp_M_walk_l135 wp_M_walk_b218
            have e11 : upd J' 12 0 11 = nI ms.length := by rw [upd_at, if_neg (by decide)]; exact w1
            rw [e11, lN_i]
            refine br_t (nI_le (by omega) (by omega)) (br_f (by decide) ⟨vp_in_nI (by omega) (by decide), ?_⟩)
            refine p_M_read (n := 2) h (by omega) (by decide) ?_
            have l2 := h.lt2 (a := r) (by omega)
            rw [lN_i, nI_1, show (2 : Int32) = nI 2 from rfl, show (12 : Int32) = nI 12 from rfl, nI_add, pk_mul, nI_add, nI_clamp (by omega)]
            have hlen : (ms ++ [r]).length = ms.length + 1 := by simp
            rw [← hlen]
            refine ih (ms ++ [r]) (r + 2 + 12 * rdN b r 2) _ _ (by omega) ⟨by rw [hlen]; omega, fun p hp => ?_, by show 4 ≤ r + 2 + 12 * rdN b r 2; omega, by show r + 2 + 12 * rdN b r 2 + 4 ≤ sz; omega⟩ ⟨rfl, rfl, fun j hj => ?_, fun i h1 h2 h3 => ?_⟩ hq
            · rcases List.mem_append.mp hp with hp | hp
              · exact o2 p hp
              · rw [List.mem_singleton.mp hp]; exact q3
            · rw [hlen] at hj
              rw [upd_at, getD_snoc hj]
              split
              · rfl
              · exact w4 j (by omega)
            · simp only [upd_at, if_neg h1, if_neg h2, if_neg h3]
              exact w5 i h1 h2 h3
          | succ m ihm =>
            intro k hk hj
            unfold wp_M_walk_l135 wp_M_walk_b165 wp_M_walk_b166
            have e11 : upd J' 12 0 11 = nI ms.length := by rw [upd_at, if_neg (by decide)]; exact w1
            have hlt := hb _ (hget k (by omega))
            rw [e11, nI_clamp (n := k) (by omega), w4 k (by omega), nI_l hlt, pk_lEQ (by omega) (by omega), nI_1 k]
            refine br_f (nI_ge (by omega) (by omega)) (br_f (by decide) ⟨vp_in_nI (by omega) (by decide), br_c (fun z => ?_) (fun z => ihm (k + 1) (by omega) (fun j h => ?_))⟩)
            · have hm : r ∈ ms := by rw [← z]; exact hget k (by omega)
              rw [if_pos (Or.inr (Or.inr hm))] at hq
              refine no _ r ms.length _ _ e11 o1 ?_ m (k + 1) (by omega)
              unfold wp_M_walk_l73
              refine br_t rfl (hq _ _ ⟨e11, by rw [upd_at, if_pos rfl]; rfl, by rw [upd_at, if_neg (by decide)]; exact w3, w4, fun i h1 h2 h3 => ?_⟩)
              rw [upd_at, if_neg h2]
              exact w5 i h1 h2 h3
            · by_cases h2 : j = k
              · rw [h2]; exact z
              · exact hj j (by omega)
        exact ⟨ms.length + 1, scan ms.length 0 (by omega) (fun j h => absurd h (by omega))⟩
      · have : stS b sz r = false := by cases hc : stS b sz r with
          | true => exact absurd hc q3
          | false => rfl
        rw [if_pos (Or.inr (Or.inl this))] at hq
        exact stop 0 false rfl hq
  unfold wkR at hp
  obtain ⟨i0, j0⟩ := h.2.2 0 (by omega)
  obtain ⟨i1, j1⟩ := h.2.2 1 (by omega)
  have l2 := h.lt2 (a := 2) (by omega)
  have v1 : vp_in 1 2000 := vp2000.mpr ⟨by decide, by decide⟩
  have fr : ∀ i, i ≠ 11 → i ≠ 12 → i ≠ 14 → upd (upd (upd J 11 0) 12 0) 14 4 i = J i := fun i h1 h2 h3 => by simp only [upd_at, if_neg h1, if_neg h2, if_neg h3]
  have bad : ¬ hdS b = true → wp_M_walk_b69 post g (upd (upd (upd J 11 0) 12 0) 14 4) dr := by
    intro q
    rw [if_neg q] at hp
    unfold wp_M_walk_b69 wp_M_walk_b70
    refine ⟨1, ?_⟩
    unfold wp_M_walk_l73
    exact br_t rfl (hp _ _ ⟨rfl, rfl, rfl, fun j hj => absurd hj (by simp), fr⟩)
  have mid : (b 0 = 73 ∨ b 0 = 77) → b 0 = b 1 → wp_M_walk_b52 post g (upd (upd (upd J 11 0) 12 0) 14 4) dr := by
    intro m1 m2
    unfold wp_M_walk_b52
    rw [show (2 : Int32) = nI 2 from rfl]
    refine p_M_read (n := 2) h (by omega) (by decide) ?_
    rw [show (42 : Int64) = lN 42 from rfl, pk_lEQ (by omega) (by decide)]
    refine br_c (fun q => ?_) (fun q => bad (fun z => q (hdS_iff.mp z).2.2))
    rw [if_pos (hdS_iff.mpr ⟨m1, m2, q⟩)] at hp
    unfold wp_M_walk_b70
    exact ⟨10, key 9 [] 4 _ _ rfl ⟨by decide, fun p hp => absurd hp List.not_mem_nil, Nat.le_refl _, hz⟩ ⟨rfl, rfl, fun j hj => absurd hj (by simp), fr⟩ hp⟩
  unfold wp_M_walk
  rw [j0, j1, show (73 : Int32) = nI 73 from rfl, show (77 : Int32) = nI 77 from rfl, nI_eq (a := b 0) (b := b 1) (by omega) (by omega), nI_eq (a := b 0) (b := 73) (by omega) (by decide), nI_eq (a := b 0) (b := 77) (by omega) (by decide)]
  refine ⟨v0_2000, v1, br_c (fun q => ⟨v0_2000, br_c (fun q2 => mid (Or.inl q2) q) (fun q2 => ⟨v0_2000, br_c (fun q3 => mid (Or.inr q3) q) (fun q3 => bad (fun z => (hdS_iff.mp z).1.elim q2 q3))⟩)⟩) (fun q => bad (fun z => q (hdS_iff.mp z).2.1))⟩
theorem q_pages {sz : Nat} {b : Nat → Nat} {I f J g W pl dr : Nat → Int32} (h : RF sz b I f J g) {K : (Nat → Int32) → (Nat → Int32) → (Nat → Int32) → (Nat → Int32) → Prop} (k : ∀ W' pl' J' dr' : Nat → Int32, (∀ i, i ≠ 11 → i ≠ 12 → i ≠ 14 → J' i = J i) → K W' pl' J' dr') : wp_X_pages (fun r W' pl' => wp_M_pages (fun r' J' dr' => (r = r' → K W' pl' J' dr') ∧ (¬ r = r' → False)) g J dr) I f W pl := by
  unfold wp_X_pages wp_M_pages
  refine p_follow h.1 h.fX (fun W' pl' hw => p_walk h.2.1 h.fM (fun J' dr' hm => ⟨fun _ => k _ _ _ _ hm.2.2.2.2, fun n => n ?_⟩))
  rw [hw.1, hm.1]
theorem b1_01 (e : Bool) : b1 e = 0 ∨ b1 e = 1 := by cases e <;> decide
theorem q_sound {sz : Nat} {b : Nat → Nat} {I f J g W pl dr : Nat → Int32} (h : RF sz b I f J g) {K : (Nat → Int32) → (Nat → Int32) → (Nat → Int32) → (Nat → Int32) → Prop} (k : ∀ W' pl' J' dr' : Nat → Int32, (∀ i, i ≠ 11 → i ≠ 12 → i ≠ 14 → J' i = J i) → K W' pl' J' dr') : wp_X_sound (fun r W' pl' => wp_M_sound (fun r' J' dr' => (r = r' → K W' pl' J' dr') ∧ (¬ r = r' → False)) g J dr) I f W pl := by
  unfold wp_X_sound wp_M_sound
  refine p_follow h.1 h.fX (fun W' pl' hw => ⟨by rw [hw.2.1]; exact b1_01 _, p_walk h.2.1 h.fM (fun J' dr' hm => ⟨by rw [hm.2.1]; exact b1_01 _, fun _ => k _ _ _ _ hm.2.2.2.2, fun n => n ?_⟩)⟩)
  rw [hw.2.1, hm.2.1]
