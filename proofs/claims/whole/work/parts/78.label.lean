/-! label, unlabel -/
/-- the labels of the class (object I, characters fc, sizes fs, tags ft) and of the reference (object J, lengths gl, letters gc, tags gt) -/
def RL1 (tg ln : Nat → Nat) (ch : Nat → Nat → Nat) (fc fs ft gl gc gt : Nat → Int32) (k : Nat) : Prop := (32768 ≤ tg k ∧ tg k < 65536 ∧ ft k = nI (tg k) ∧ gt k = nI (tg k)) ∧ (1 ≤ ln k ∧ ln k ≤ 12 ∧ fs k = nI (ln k) ∧ gl k = nI (ln k)) ∧ ∀ j, j < ln k → (1 ≤ ch k j ∧ ch k j < 128) ∧ fc (12 * k + j) = nI (ch k j) ∧ gc (12 * k + j) = nI (ch k j)
def RLb (c : Nat) (tg ln : Nat → Nat) (ch : Nat → Nat → Nat) (I fc fs ft J gl gc gt : Nat → Int32) : Prop := (I 3 = nI c ∧ J 7 = nI c ∧ c ≤ 2) ∧ (∀ k, k < c → RL1 tg ln ch fc fs ft gl gc gt k) ∧ (c = 2 → tg 0 ≠ tg 1)
theorem p_indexOf {post : Int32 → Prop} {I ft : Nat → Int32} {c t : Nat} {tg : Nat → Nat} (e1 : I 3 = nI c) (hc : c ≤ 2) (ht : ∀ k, k < c → ft k = nI (tg k) ∧ tg k < 65536) (hb : t < 65536) (hp : ∀ r, r ≤ c → (∀ k, k < r → tg k ≠ t) → (r < c → tg r = t) → post (nI r)) : wp_Lb_indexOf post I ft (nI t) := by
  unfold wp_Lb_indexOf
  have key : ∀ (m k : Nat), k + m = c → (∀ j, j < k → tg j ≠ t) → wp_Lb_indexOf_l2 post I ft (m + 1) (nI t) (nI k) := by
    intro m
    induction m with
    | zero =>
      intro k hk hj
      have : k = c := by omega
      subst this
      unfold wp_Lb_indexOf_l2
      rw [e1]
      exact br_t (nI_le (by omega) (by omega)) (hp k (by omega) hj (by omega))
    | succ m ih =>
      intro k hk hj
      unfold wp_Lb_indexOf_l2
      rw [e1, nI_clamp (by omega), (ht k (by omega)).1, nI_1, nI_eq (by have := (ht k (by omega)).2; omega) (by omega)]
      refine br_f (nI_ge (by omega) (by omega)) ⟨vp_in_nI (by omega) (by decide), br_c (fun q => hp k (by omega) hj (fun _ => q)) (fun q => ?_)⟩
      refine ih (k + 1) (by omega) (fun j h => ?_)
      by_cases h2 : j = k
      · rw [h2]; exact q
      · exact hj j (by omega)
  exact ⟨c + 1, key c 0 (by omega) (fun j h => absurd h (by omega))⟩
def okL (t v : Int32) : Prop := 32768 ≤ t ∧ t ≤ 65535 ∧ 1 ≤ v ∧ v ≤ 127
theorem okL_nat {t v : Int32} (h : okL t v) : ∃ a b : Nat, t = nI a ∧ v = nI b ∧ 32768 ≤ a ∧ a < 65536 ∧ 1 ≤ b ∧ b < 128 := by
  obtain ⟨h1, h2, h3, h4⟩ := h
  obtain ⟨a, ha, rfl⟩ := nI_of (x := t) (by grind)
  obtain ⟨b, hb, rfl⟩ := nI_of (x := v) (by grind)
  rw [show (32768 : Int32) = nI 32768 from rfl, nI_leI (by decide) ha] at h1
  rw [show (65535 : Int32) = nI 65535 from rfl, nI_leI ha (by decide)] at h2
  rw [show (1 : Int32) = nI 1 from rfl, nI_leI (by decide) hb] at h3
  rw [show (127 : Int32) = nI 127 from rfl, nI_leI hb (by decide)] at h4
  exact ⟨a, b, rfl, rfl, h1, by omega, h3, by omega⟩
theorem p_Lb_add {post : Int32 → (Nat → Int32) → (Nat → Int32) → (Nat → Int32) → (Nat → Int32) → Prop} {I fc fs ft : Nat → Int32} {c t : Nat} {v : Int32} {tg ln : Nat → Nat} (e1 : I 3 = nI c) (hc : c ≤ 2) (ht : ∀ k, k < c → ft k = nI (tg k) ∧ tg k < 65536) (hl : ∀ k, k < c → fs k = nI (ln k) ∧ ln k ≤ 12) (hb : t < 65536)
    (hfull : c = 2 → tg 0 ≠ t → tg 1 ≠ t → post 0 I fc fs ft)
    (hold0 : ∀ r, r < c → tg r = t → (∀ k, k < r → tg k ≠ t) → ln r = 12 → post 0 I fc fs ft)
    (hold : ∀ r, r < c → tg r = t → (∀ k, k < r → tg k ≠ t) → ln r < 12 → post 1 I (upd fc (12 * r + ln r) v) (upd fs r (nI (ln r + 1))) ft)
    (hnew : c < 2 → (∀ k, k < c → tg k ≠ t) → post 1 (upd I 3 (nI (c + 1))) (upd fc (12 * c) v) (upd (upd fs c 0) c 1) (upd ft c (nI t))) : wp_Lb_add post I fc fs ft (nI t) v := by
  unfold wp_Lb_add
  refine p_indexOf e1 hc ht hb (fun r hr hn he => ?_)
  rw [e1, show (2 : Int32) = nI 2 from rfl, nI_eq (by omega) (by decide), nI_eq (by omega) (by omega), nI_1, nI_clamp (by omega)]
  refine br_c (fun q => ?_) (fun q => br_c (fun q2 => ?_) (fun q2 => ?_))
  · subst q
    exact hfull (by omega) (hn 0 (by omega)) (hn 1 (by omega))
  · have hrc : r = c := q2
    subst hrc
    have hv : vp_in (nI r) 2 := vp_in_nI (by omega) (by decide)
    refine ⟨hv, hv, ?_⟩
    unfold wp_Lb_add_b45
    rw [nI_clamp (by omega), pk_us]
    refine ⟨hv, br_f (by decide) ⟨hv, ?_, hv, hv, ?_⟩⟩
    · rw [show (12 : Int32) = nI 12 from rfl, show (0 : Int32) = nI 0 from rfl, pk_mul, nI_add]
      exact vp_in_nI (by omega) (by decide)
    · rw [show (12 : Int32) = nI 12 from rfl, show (0 : Int32) = nI 0 from rfl, pk_mul, nI_add, nI_clamp (by omega), show r * 12 + 0 = 12 * r by omega]
      exact hnew (by omega) hn
  · have hrc : r < c := by omega
    have hv : vp_in (nI r) 2 := vp_in_nI (by omega) (by decide)
    unfold wp_Lb_add_b45
    obtain ⟨l1, l2⟩ := hl r hrc
    rw [nI_clamp (by omega), l1, show (12 : Int32) = nI 12 from rfl, nI_eq (by omega) (by decide), nI_1, pk_mul, nI_add, nI_clamp (by omega), show r * 12 + ln r = 12 * r + ln r by omega]
    refine ⟨hv, br_c (fun q3 => hold0 r hrc (he hrc) hn q3) (fun q3 => ⟨hv, vp_in_nI (by omega) (by decide), hv, hv, hold r hrc (he hrc) hn (by omega)⟩)⟩
theorem p_M_label {post : Int32 → (Nat → Int32) → (Nat → Int32) → (Nat → Int32) → (Nat → Int32) → Prop} {J gl gc gt : Nat → Int32} {c t : Nat} {v : Int32} {tg ln : Nat → Nat} (e1 : J 7 = nI c) (hc : c ≤ 2) (ht : ∀ k, k < c → gt k = nI (tg k) ∧ tg k < 65536) (hl : ∀ k, k < c → gl k = nI (ln k) ∧ ln k ≤ 12) (hb : t < 65536) (hok : okL (nI t) v)
    (hfull : c = 2 → tg 0 ≠ t → tg 1 ≠ t → post 0 J gl gc gt)
    (hold0 : ∀ r, r < c → tg r = t → (∀ k, k < r → tg k ≠ t) → ln r = 12 → post 0 J gl gc gt)
    (hold : ∀ r, r < c → tg r = t → (∀ k, k < r → tg k ≠ t) → ln r < 12 → post 1 J (upd gl r (nI (ln r + 1))) (upd gc (12 * r + ln r) v) gt)
    (hnew : c < 2 → (∀ k, k < c → tg k ≠ t) → post 1 (upd J 7 (nI (c + 1))) (upd (upd gl c 0) c 1) (upd gc (12 * c) v) (upd gt c (nI t))) : wp_M_label post J gl gc gt (nI t) v := by
  have found : ∀ r, r ≤ c → (∀ k, k < r → tg k ≠ t) → (r < c → tg r = t) → wp_M_label_b51 post J gl gc gt (nI t) v (nI r) := by
    intro r hr hn he
    unfold wp_M_label_b51 wp_M_label_b77
    rw [e1, show (2 : Int32) = nI 2 from rfl, nI_eq (by omega) (by decide), nI_eq (by omega) (by omega), nI_leI (by omega) (by omega), nI_1, nI_clamp (by omega)]
    refine br_c (fun q => ?_) (fun q => br_c (fun q2 => br_t (by omega) ?_) (fun q2 => ?_))
    · subst q
      exact hfull (by omega) (hn 0 (by omega)) (hn 1 (by omega))
    · have hrc : r = c := by omega
      subst hrc
      have hv : vp_in (nI r) 2 := vp_in_nI (by omega) (by decide)
      refine ⟨hv, hv, ?_⟩
      unfold wp_M_label_b109
      rw [nI_clamp (by omega), pk_us, show (12 : Int32) = nI 12 from rfl, show (0 : Int32) = nI 0 from rfl, pk_mul, nI_add, nI_clamp (by omega), show 12 * r + 0 = 12 * r by omega]
      exact ⟨hv, vp_in_nI (by omega) (by decide), hv, hv, hnew (by omega) hn⟩
    · have hrc : r < c := by omega
      have hv : vp_in (nI r) 2 := vp_in_nI (by omega) (by decide)
      obtain ⟨l1, l2⟩ := hl r hrc
      rw [l1, show (12 : Int32) = nI 12 from rfl, nI_eq (by omega) (by decide)]
      refine ⟨hv, br_c (fun q3 => hold0 r hrc (he hrc) hn q3) (fun q3 => br_f (by omega) ?_)⟩
      unfold wp_M_label_b109
      rw [nI_clamp (by omega), l1, show (12 : Int32) = nI 12 from rfl, nI_1, pk_mul, nI_add, nI_clamp (by omega)]
      exact ⟨hv, vp_in_nI (by omega) (by decide), hv, hv, hold r hrc (he hrc) hn (by omega)⟩
  have key : ∀ (m k : Nat), k + m = c → (∀ j, j < k → tg j ≠ t) → wp_M_label_l27 post (m + 1) J gl gc gt (nI t) v (nI k) := by
    intro m
    induction m with
    | zero =>
      intro k hk hj
      have : k = c := by omega
      subst this
      unfold wp_M_label_l27
      rw [e1]
      exact br_t (nI_le (by omega) (by omega)) (found k (by omega) hj (by omega))
    | succ m ih =>
      intro k hk hj
      unfold wp_M_label_l27
      rw [e1, nI_clamp (by omega), (ht k (by omega)).1, nI_1, nI_eq (by have := (ht k (by omega)).2; omega) (by omega)]
      refine br_f (nI_ge (by omega) (by omega)) ⟨vp_in_nI (by omega) (by decide), br_c (fun q => found k (by omega) hj (fun _ => q)) (fun q => ?_)⟩
      refine ih (k + 1) (by omega) (fun j h => ?_)
      by_cases h2 : j = k
      · rw [h2]; exact q
      · exact hj j (by omega)
  obtain ⟨o1, o2, o3, o4⟩ := hok
  unfold wp_M_label
  exact br_f (by grind) (br_f (by grind) (br_f (by grind) (br_t o4 ⟨c + 1, key c 0 (by omega) (fun j h => absurd h (by omega))⟩)))
theorem q_label {c : Nat} {tg ln : Nat → Nat} {ch : Nat → Nat → Nat} {I fc fs ft J gl gc gt : Nat → Int32} (hr : RLb c tg ln ch I fc fs ft J gl gc gt) (t v : Int32) {Wr : Prop → Prop} {K : (Nat → Int32) → (Nat → Int32) → (Nat → Int32) → (Nat → Int32) → (Nat → Int32) → (Nat → Int32) → (Nat → Int32) → (Nat → Int32) → Prop} (hP : ∀ D : Prop, D → Wr D) (k : ∀ (c' : Nat) (tg' ln' : Nat → Nat) (ch' : Nat → Nat → Nat) (I' fc' fs' ft' J' gl' gc' gt' : Nat → Int32), RLb c' tg' ln' ch' I' fc' fs' ft' J' gl' gc' gt' → (∀ i, i ≠ 7 → J' i = J i) → K I' fc' fs' ft' J' gl' gc' gt') : wp_X_label (fun r I' fc' fs' ft' => Wr (wp_M_label (fun r' J' gl' gc' gt' => (r = r' → K I' fc' fs' ft' J' gl' gc' gt') ∧ (¬ r = r' → False)) J gl gc gt t v)) I fc fs ft t v := by
  by_cases hok : okL t v
  · have hok0 := hok
    obtain ⟨a, b, rfl, rfl, ha1, ha2, hb1, hb2⟩ := okL_nat hok
    have hr0 := hr
    obtain ⟨⟨e1, e2, hc⟩, h1, hne⟩ := hr
    obtain ⟨o1, o2, o3, o4⟩ := hok
    have htX : ∀ k, k < c → ft k = nI (tg k) ∧ tg k < 65536 := fun k hk => ⟨(h1 k hk).1.2.2.1, (h1 k hk).1.2.1⟩
    have hlX : ∀ k, k < c → fs k = nI (ln k) ∧ ln k ≤ 12 := fun k hk => ⟨(h1 k hk).2.1.2.2.1, (h1 k hk).2.1.2.1⟩
    have htM : ∀ k, k < c → gt k = nI (tg k) ∧ tg k < 65536 := fun k hk => ⟨(h1 k hk).1.2.2.2, (h1 k hk).1.2.1⟩
    have hlM : ∀ k, k < c → gl k = nI (ln k) ∧ ln k ≤ 12 := fun k hk => ⟨(h1 k hk).2.1.2.2.2, (h1 k hk).2.1.2.1⟩
    have same : K I fc fs ft J gl gc gt := k c tg ln ch _ _ _ _ _ _ _ _ hr0 (fun _ _ => rfl)
    -- which of the four cases it is, is the same on both sides
    have uni : ∀ r r', r < c → r' < c → tg r = a → tg r' = a → r = r' := by
      intro r r' q1 q2 q3 q4
      by_cases h : r = r'
      · exact h
      · have hc2 : c = 2 := by omega
        have := hne hc2
        have hh : (r = 0 ∧ r' = 1) ∨ (r = 1 ∧ r' = 0) := by omega
        rcases hh with ⟨rfl, rfl⟩ | ⟨rfl, rfl⟩
        · exact absurd (q3.trans q4.symm) this
        · exact absurd (q4.trans q3.symm) this
    unfold wp_X_label
    refine br_f (by grind) (br_f (by grind) (br_f (by grind) (br_t o4 ?_)))
    refine p_Lb_add (tg := tg) (ln := ln) e1 hc htX hlX ha2 (fun c2 n0 n1 => ?_) (fun r r1 r2 r3 r4 => ?_) (fun r r1 r2 r3 r4 => ?_) (fun c1 cn => ?_)
    · refine ⟨Or.inl rfl, hP _ (p_M_label (tg := tg) (ln := ln) e2 hc htM hlM ha2 hok0 (fun _ _ _ => ⟨fun _ => same, fun n => n rfl⟩) (fun r q1 q2 _ _ => ?_) (fun r q1 q2 _ _ => ?_) (fun q _ => absurd q (by omega)))⟩
      all_goals
        have : r = 0 ∨ r = 1 := by omega
        rcases this with rfl | rfl
        · exact absurd q2 n0
        · exact absurd q2 n1
    · refine ⟨Or.inl rfl, hP _ (p_M_label (tg := tg) (ln := ln) e2 hc htM hlM ha2 hok0 (fun _ _ _ => ⟨fun _ => same, fun n => n rfl⟩) (fun _ _ _ _ _ => ⟨fun _ => same, fun n => n rfl⟩) (fun r' q1 q2 _ q4 => ?_) (fun _ q => absurd r2 (q r r1)))⟩
      have := uni r r' r1 q1 r2 q2
      subst this
      omega
    · refine ⟨Or.inr rfl, hP _ (p_M_label (tg := tg) (ln := ln) e2 hc htM hlM ha2 hok0 (fun q n0 n1 => ?_) (fun r' q1 q2 _ q4 => ?_) (fun r' q1 q2 _ q4 => ?_) (fun _ q => absurd r2 (q r r1)))⟩
      · have : r = 0 ∨ r = 1 := by omega
        rcases this with rfl | rfl
        · exact absurd r2 n0
        · exact absurd r2 n1
      · have := uni r r' r1 q1 r2 q2
        subst this
        omega
      · have := uni r r' r1 q1 r2 q2
        subst this
        refine ⟨fun _ => k c tg (fun i => if i = r then ln r + 1 else ln i) (fun i j => if i = r ∧ j = ln r then b else ch i j) _ _ _ _ _ _ _ _ ⟨⟨e1, e2, hc⟩, fun i hi => ?_, hne⟩ (fun _ _ => rfl), fun n => n rfl⟩
        obtain ⟨g1, ⟨g2, g3, g4, g5⟩, g6⟩ := h1 i hi
        have hrl := (h1 r r1).2.1
        refine ⟨g1, ?_, fun j hj => ?_⟩
        · simp only [upd_at]
          by_cases hir : i = r
          · subst hir
            simp only [if_true]
            exact ⟨by omega, by omega, (by trivial), (by trivial)⟩
          · simp only [if_neg hir]
            exact ⟨g2, g3, g4, g5⟩
        · simp only [upd_at]
          by_cases hir : i = r
          · subst hir
            simp only [if_true, true_and] at hj ⊢
            by_cases hjl : j = ln i
            · subst hjl
              simp only [if_true]
              exact ⟨⟨hb1, hb2⟩, (by trivial), (by trivial)⟩
            · simp only [if_neg hjl, if_neg (show ¬ 12 * i + j = 12 * i + ln i by omega)]
              exact g6 j (by omega)
          · simp only [if_neg hir] at hj
            simp only [if_neg (show ¬ (i = r ∧ j = ln r) from fun q => hir q.1), if_neg (show ¬ 12 * i + j = 12 * r + ln r by omega)]
            exact g6 j hj
    · refine ⟨Or.inr rfl, hP _ (p_M_label (tg := tg) (ln := ln) e2 hc htM hlM ha2 hok0 (fun q _ _ => absurd q (by omega)) (fun r q1 q2 _ _ => absurd q2 (cn r q1)) (fun r q1 q2 _ _ => absurd q2 (cn r q1)) (fun _ _ => ?_))⟩
      refine ⟨fun _ => k (c + 1) (fun i => if i = c then a else tg i) (fun i => if i = c then 1 else ln i) (fun i j => if i = c then b else ch i j) _ _ _ _ _ _ _ _ ⟨⟨rfl, rfl, by omega⟩, fun i hi => ?_, fun q => ?_⟩ (fun i hi => by simp only [upd_at, if_neg hi]), fun n => n rfl⟩
      · unfold RL1
        simp only [upd_at]
        by_cases hic : i = c
        · subst hic
          simp only [if_true]
          refine ⟨⟨ha1, ha2, (by trivial), (by trivial)⟩, ⟨by omega, by omega, (by trivial), (by trivial)⟩, fun j hj => ?_⟩
          have : j = 0 := by omega
          subst this
          simp only [Nat.add_zero, if_true]
          exact ⟨⟨hb1, hb2⟩, (by trivial), (by trivial)⟩
        · simp only [if_neg hic]
          obtain ⟨g1, ⟨g2, g3, g4, g5⟩, g6⟩ := h1 i (by omega)
          refine ⟨g1, ⟨g2, g3, g4, g5⟩, fun j hj => ?_⟩
          simp only [if_neg (show ¬ 12 * i + j = 12 * c by omega)]
          exact g6 j hj
      · have hc1 : c = 1 := by omega
        subst hc1
        simp only [if_neg (show ¬ (0 : Nat) = 1 by decide), if_true]
        exact cn 0 (by decide)
  · have same : K I fc fs ft J gl gc gt := k c tg ln ch _ _ _ _ _ _ _ _ hr (fun _ _ => rfl)
    have hm : wp_M_label (fun r' J' gl' gc' gt' => ((0 : Int32) = r' → K I fc fs ft J' gl' gc' gt') ∧ (¬ (0 : Int32) = r' → False)) J gl gc gt t v := by
      unfold wp_M_label
      have s1 : (((0 : Int32) = 0 → K I fc fs ft J gl gc gt) ∧ (¬ (0 : Int32) = 0 → False)) := ⟨fun _ => same, fun n => n rfl⟩
      refine br_c (fun _ => s1) (fun n1 => br_c (fun _ => s1) (fun n2 => br_c (fun _ => s1) (fun n3 => br_c (fun n4 => ?_) (fun _ => s1))))
      exact absurd ⟨by grind, by grind, by grind, n4⟩ hok
    unfold wp_X_label
    refine br_c (fun _ => hP _ hm) (fun n1 => br_c (fun _ => hP _ hm) (fun n2 => br_c (fun _ => hP _ hm) (fun n3 => br_c (fun n4 => ?_) (fun _ => hP _ hm))))
    exact absurd ⟨by grind, by grind, by grind, n4⟩ hok
theorem q_unlabel {c : Nat} {tg ln : Nat → Nat} {ch : Nat → Nat → Nat} {I fc fs ft J gl gc gt : Nat → Int32} (hr : RLb c tg ln ch I fc fs ft J gl gc gt) {K : (Nat → Int32) → (Nat → Int32) → Prop} (k : ∀ (I' J' : Nat → Int32), RLb 0 tg ln ch I' fc fs ft J' gl gc gt → (∀ i, i ≠ 7 → J' i = J i) → K I' J') : wp_X_unlabel (fun r I' => wp_M_unlabel (fun r' J' => (r = r' → K I' J') ∧ (¬ r = r' → False)) J) I := by
  unfold wp_X_unlabel wp_M_unlabel
  rw [hr.1.1, hr.1.2.1]
  exact ⟨fun _ => k _ _ ⟨⟨rfl, rfl, by omega⟩, fun i hi => absurd hi (by omega), fun q => absurd q (by omega)⟩ (fun i hi => by simp only [upd_at, if_neg hi]), fun n => n rfl⟩
theorem RLb.frame {c : Nat} {tg ln : Nat → Nat} {ch : Nat → Nat → Nat} {I fc fs ft J J' gl gc gt : Nat → Int32} (hr : RLb c tg ln ch I fc fs ft J gl gc gt) (e : J' 7 = J 7) : RLb c tg ln ch I fc fs ft J' gl gc gt := ⟨⟨hr.1.1, e.trans hr.1.2.1, hr.1.2.2⟩, hr.2⟩
