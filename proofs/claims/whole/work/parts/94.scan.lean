/-! write: a strip as codes -/
abbrev sm (v : Nat → Nat) (a c n : Nat) : Prop := ∀ i, i < n → v (a + i) = v (c + i)
theorem sm.sym {v : Nat → Nat} {a c n : Nat} (h : sm v a c n) : sm v c a n := fun i hi => (h i hi).symm
theorem sm.tr {v : Nat → Nat} {a c d n : Nat} (h : sm v a c n) (h2 : sm v c d n) : sm v a d n := fun i hi => (h i hi).trans (h2 i hi)
theorem sm.le {v : Nat → Nat} {a c m n : Nat} (h : sm v a c n) (hm : m ≤ n) : sm v a c m := fun i hi => h i (by omega)
theorem tb_old {tab : List (Nat × Nat)} {q : Nat × Nat} {j : Nat} (h : j < tab.length) : (tab ++ [q]).getD j (0, 0) = tab.getD j (0, 0) := by
  rw [List.getD_eq_getElem?_getD, List.getD_eq_getElem?_getD, List.getElem?_append_left h]
theorem tb_new {tab : List (Nat × Nat)} {q : Nat × Nat} : (tab ++ [q]).getD tab.length (0, 0) = q := by
  rw [List.getD_eq_getElem?_getD, List.getElem?_append_right (Nat.le_refl _), Nat.sub_self]
  rfl
theorem tbS_old {tab : List (Nat × Nat)} {q : Nat × Nat} {j : Nat} (h : j < tab.length) : tbS (tab ++ [q]) j = tbS tab j := by
  unfold tbS; rw [tb_old h]
theorem tbZ_old {tab : List (Nat × Nat)} {q : Nat × Nat} {j : Nat} (h : j < tab.length) : tbZ (tab ++ [q]) j = tbZ tab j := by
  unfold tbZ; rw [tb_old h]
theorem tbS_new {tab : List (Nat × Nat)} {q : Nat × Nat} : tbS (tab ++ [q]) tab.length = q.1 := by
  unfold tbS; rw [tb_new]
theorem tbZ_new {tab : List (Nat × Nat)} {q : Nat × Nat} : tbZ (tab ++ [q]) tab.length = q.2 := by
  unfold tbZ; rw [tb_new]
/-- the longest row of the first m that the nibbles from p on begin with -/
def scn (v : Nat → Nat) (N p : Nat) (tab : List (Nat × Nat)) : Nat → Nat × Nat
  | 0 => (v p, 1)
  | m + 1 => if (scn v N p tab m).2 < tbZ tab m + 1 ∧ p + (tbZ tab m + 1) ≤ N ∧ sm v (tbS tab m) p (tbZ tab m + 1) then (18 + m, tbZ tab m + 1) else scn v N p tab m
/-- code c stands for l nibbles, and these lie at p -/
def mt (v : Nat → Nat) (tab : List (Nat × Nat)) (k c l p : Nat) : Prop := (c < 16 ∧ l = 1 ∧ v p = c) ∨ ∃ j, j < k ∧ c = 18 + j ∧ l = tbZ tab j + 1 ∧ sm v (tbS tab j) p l
theorem mt.mono {v : Nat → Nat} {tab : List (Nat × Nat)} {k k' c l p : Nat} (h : mt v tab k c l p) (hk : k ≤ k') : mt v tab k' c l p := by
  rcases h with h | ⟨j, h1, h2⟩
  · exact Or.inl h
  · exact Or.inr ⟨j, by omega, h2⟩
theorem mt.move {v : Nat → Nat} {tab : List (Nat × Nat)} {k c l s p : Nat} (h : mt v tab k c l s) (hs : sm v s p l) : mt v tab k c l p := by
  rcases h with ⟨h1, h2, h3⟩ | ⟨j, h1, h2, h3, h4⟩
  · refine Or.inl ⟨h1, h2, ?_⟩
    have := hs 0 (by omega)
    rw [Nat.add_zero, Nat.add_zero] at this
    omega
  · exact Or.inr ⟨j, h1, h2, h3, h4.tr hs⟩
theorem mt.snoc {v : Nat → Nat} {tab : List (Nat × Nat)} {q : Nat × Nat} {k c l p : Nat} (h : mt v tab k c l p) (hk : k ≤ tab.length) : mt v (tab ++ [q]) k c l p := by
  rcases h with h | ⟨j, h1, h2, h3, h4⟩
  · exact Or.inl h
  · refine Or.inr ⟨j, h1, h2, ?_, ?_⟩
    · rw [tbZ_old (by omega)]; exact h3
    · rw [tbS_old (by omega)]; exact h4
theorem scn_in {v : Nat → Nat} {N p : Nat} {tab : List (Nat × Nat)} (hp : p < N) (hv : v p < 16) : ∀ k, mt v tab k (scn v N p tab k).1 (scn v N p tab k).2 p ∧ p + (scn v N p tab k).2 ≤ N ∧ 1 ≤ (scn v N p tab k).2 ∧ (scn v N p tab k).1 ≤ 17 + k := by
  intro k
  induction k with
  | zero => exact ⟨Or.inl ⟨hv, rfl, rfl⟩, hp, Nat.le_refl _, by simp only [scn]; omega⟩
  | succ k ih =>
    simp only [scn]
    split
    · next q => exact ⟨Or.inr ⟨k, by omega, rfl, rfl, q.2.2⟩, q.2.1, Nat.le_add_left _ _, by show 18 + k ≤ _; omega⟩
    · exact ⟨ih.1.mono (by omega), ih.2.1, ih.2.2.1, by omega⟩
theorem scn_max {v : Nat → Nat} {N p : Nat} {tab : List (Nat × Nat)} (hp : p < N) (hv : v p < 16) {c l : Nat} (hl : p + l ≤ N) : ∀ k, mt v tab k c l p → l ≤ (scn v N p tab k).2 := by
  intro k
  induction k with
  | zero =>
    intro h
    rcases h with ⟨_, h, _⟩ | ⟨j, h, _⟩
    · exact Nat.le_of_eq h
    · omega
  | succ k ih =>
    intro h
    have h1 := (scn_in (tab := tab) hp hv k).2.2.1
    have hge : (scn v N p tab k).2 ≤ (scn v N p tab (k + 1)).2 := by
      simp only [scn]
      split
      · next q => exact Nat.le_of_lt q.1
      · exact Nat.le_refl _
    rcases h with ⟨_, h, _⟩ | ⟨j, h, h2, h3, h4⟩
    · omega
    · by_cases hj : j < k
      · have := ih (Or.inr ⟨j, hj, h2, h3, h4⟩)
        omega
      · have : j = k := by omega
        subst this
        subst h3
        simp only [scn]
        split
        · exact Nat.le_refl _
        · next q => exact Nat.le_of_not_lt (fun z => q ⟨z, hl, h4⟩)
/-- the table as a tree: par j is the code of row j without its last nibble -/
def tre (v : Nat → Nat) (N : Nat) (tab : List (Nat × Nat)) (par : Nat → Nat) : Prop := (∀ j, j < tab.length → 1 ≤ tbZ tab j ∧ tbS tab j + tbZ tab j < N ∧ mt v tab j (par j) (tbZ tab j) (tbS tab j)) ∧ ∀ i j, i < j → j < tab.length → par i = par j → v (tbS tab i + tbZ tab i) = v (tbS tab j + tbZ tab j) → False
theorem tre.nil {v : Nat → Nat} {N : Nat} {par : Nat → Nat} : tre v N [] par := ⟨fun j hj => absurd hj (by simp), fun i j _ hj => absurd hj (by simp)⟩
theorem tre.uniq {v : Nat → Nat} {N : Nat} {tab : List (Nat × Nat)} {par : Nat → Nat} (h : tre v N tab par) : ∀ l c c' p, mt v tab tab.length c l p → mt v tab tab.length c' l p → c = c' := by
  intro l
  induction l with
  | zero =>
    intro c c' p h1
    rcases h1 with ⟨_, z, _⟩ | ⟨j, _, _, z, _⟩ <;> omega
  | succ l ih =>
    intro c c' p h1 h2
    rcases h1 with ⟨a1, a2, a3⟩ | ⟨i, a1, a2, a3, a4⟩
    · rcases h2 with ⟨b1, b2, b3⟩ | ⟨j, b1, b2, b3, b4⟩
      · omega
      · have := (h.1 j b1).1; omega
    · rcases h2 with ⟨b1, b2, b3⟩ | ⟨j, b1, b2, b3, b4⟩
      · have := (h.1 i a1).1; omega
      · obtain ⟨_, _, m1⟩ := h.1 i a1
        obtain ⟨_, _, m2⟩ := h.1 j b1
        have e1 : tbZ tab i = l := by omega
        have e2 : tbZ tab j = l := by omega
        have hpar : par i = par j := by
          refine ih _ _ p ?_ ?_
          · rw [e1] at m1
            exact (m1.mono (by omega)).move (a4.le (by omega))
          · rw [e2] at m2
            exact (m2.mono (by omega)).move (b4.le (by omega))
        have q1 := a4 l (by omega)
        have q2 := b4 l (by omega)
        have hb := h.2
        by_cases hij : i < j
        · exact (hb i j hij b1 hpar (by rw [e1, e2, q1, q2])).elim
        · by_cases hji : j < i
          · exact (hb j i hji a1 hpar.symm (by rw [e1, e2, q1, q2])).elim
          · omega
theorem tre.pre {v : Nat → Nat} {N : Nat} {tab : List (Nat × Nat)} {par : Nat → Nat} (h : tre v N tab par) {l c p : Nat} (hl : 1 ≤ l) (hm : mt v tab tab.length c (l + 1) p) : ∃ j, j < tab.length ∧ c = 18 + j ∧ mt v tab tab.length (par j) l p ∧ v (tbS tab j + tbZ tab j) = v (p + l) := by
  rcases hm with ⟨_, z, _⟩ | ⟨j, a1, a2, a3, a4⟩
  · omega
  · obtain ⟨_, _, m1⟩ := h.1 j a1
    have e1 : tbZ tab j = l := by omega
    refine ⟨j, a1, a2, ?_, ?_⟩
    · rw [e1] at m1
      exact (m1.mono (by omega)).move (a4.le (by omega))
    · rw [e1]; exact a4 l (by omega)
theorem tre.down {v : Nat → Nat} {N : Nat} {tab : List (Nat × Nat)} {par : Nat → Nat} (h : tre v N tab par) {l p : Nat} (hl : 1 ≤ l) : ∀ d c, mt v tab tab.length c (l + d) p → ∃ c', mt v tab tab.length c' l p := by
  intro d
  induction d with
  | zero => intro c hc; exact ⟨c, hc⟩
  | succ d ih =>
    intro c hc
    obtain ⟨j, _, _, z, _⟩ := h.pre (l := l + d) (by omega) hc
    exact ih _ z
theorem tre.scan {v : Nat → Nat} {N : Nat} {tab : List (Nat × Nat)} {par : Nat → Nat} (h : tre v N tab par) {l c p : Nat} (hv : v p < 16) (hm : mt v tab tab.length c l p) (hl : 1 ≤ l) (hN : p + l ≤ N) (ht : p + l < N → ∀ j, j < tab.length → par j = c → v (tbS tab j + tbZ tab j) ≠ v (p + l)) : scn v N p tab tab.length = (c, l) := by
  obtain ⟨m1, m2, m3, _⟩ := scn_in (tab := tab) (N := N) (by omega) hv tab.length
  have hge := scn_max (tab := tab) (N := N) (by omega) hv hN tab.length hm
  have hle : (scn v N p tab tab.length).2 ≤ l := by
    refine Nat.le_of_not_lt (fun z => ?_)
    obtain ⟨d, hd⟩ : ∃ d, (scn v N p tab tab.length).2 = l + 1 + d := ⟨(scn v N p tab tab.length).2 - (l + 1), by omega⟩
    rw [hd] at m1
    obtain ⟨c', hc'⟩ := h.down (by omega) d _ m1
    obtain ⟨j, j1, j2, j3, j4⟩ := h.pre hl hc'
    exact ht (by omega) j j1 (h.uniq l _ _ p j3 hm) j4
  have el : (scn v N p tab tab.length).2 = l := by omega
  rw [el] at m1
  exact Prod.ext (h.uniq l _ _ p m1 hm) el
def nPr (par : Nat → Nat) (k c : Nat) : Nat → Nat := fun j => if j = k then c else par j
theorem nPr_new {par : Nat → Nat} {k c : Nat} : nPr par k c k = c := if_pos rfl
theorem nPr_old {par : Nat → Nat} {k c j : Nat} (h : j ≠ k) : nPr par k c j = par j := if_neg h
theorem tre.snoc {v : Nat → Nat} {N : Nat} {tab : List (Nat × Nat)} {par : Nat → Nat} (h : tre v N tab par) {l c p : Nat} (hm : mt v tab tab.length c l p) (hl : 1 ≤ l) (hN : p + l < N) (ht : ∀ j, j < tab.length → par j = c → v (tbS tab j + tbZ tab j) ≠ v (p + l)) : tre v N (tab ++ [(p, l)]) (nPr par tab.length c) := by
  refine ⟨fun j hj => ?_, fun i j hij hj hp he => ?_⟩
  · rw [List.length_append, List.length_singleton] at hj
    by_cases e : j = tab.length
    · subst e
      rw [tbZ_new, tbS_new, nPr_new]
      exact ⟨hl, hN, hm.snoc (Nat.le_refl _)⟩
    · rw [tbZ_old (by omega), tbS_old (by omega), nPr_old e]
      obtain ⟨a1, a2, a3⟩ := h.1 j (by omega)
      exact ⟨a1, a2, a3.snoc (by omega)⟩
  · rw [List.length_append, List.length_singleton] at hj
    rw [nPr_old (by omega)] at hp
    rw [tbZ_old (by omega), tbS_old (by omega)] at he
    by_cases e : j = tab.length
    · subst e
      rw [nPr_new] at hp
      rw [tbZ_new, tbS_new] at he
      exact ht i hij hp he
    · rw [nPr_old e] at hp
      rw [tbZ_old (by omega), tbS_old (by omega)] at he
      exact h.2 i j hij (by omega) hp he
/-- the codes from p on, each with its number -/
def enL (v : Nat → Nat) (N : Nat) : Nat → Nat → List (Nat × Nat) → List (Nat × Nat)
  | 0, _, _ => []
  | m + 1, p, tab => if N ≤ p then [(17, tab.length + 1)] else ((scn v N p tab tab.length).1, tab.length + 1) :: (if tab.length + 2 = 110 ∧ p + (scn v N p tab tab.length).2 < N then (16, 110) :: enL v N m (p + (scn v N p tab tab.length).2) [] else enL v N m (p + (scn v N p tab tab.length).2) (tab ++ [(p, (scn v N p tab tab.length).2)]))
theorem enL_len {v : Nat → Nat} {N : Nat} (hv : ∀ i, i < N → v i < 16) : ∀ m p tab, (p < N → tab.length ≤ 108) → (enL v N m p tab).length ≤ (N - p) + (N - p + tab.length) / 109 + 1 := by
  intro m
  induction m with
  | zero => intro p tab _; exact Nat.zero_le _
  | succ m ih =>
    intro p tab ht
    simp only [enL]
    split
    · simp only [List.length_singleton]; omega
    · next q =>
      obtain ⟨_, m2, m3, _⟩ := scn_in (tab := tab) (N := N) (p := p) (by omega) (hv p (by omega)) tab.length
      simp only [List.length_cons]
      have ht := ht (by omega)
      split
      · next q2 =>
        have := ih (p + (scn v N p tab tab.length).2) [] (by simp)
        simp only [List.length_cons, List.length_nil] at this ⊢
        omega
      · next q2 =>
        have := ih (p + (scn v N p tab tab.length).2) (tab ++ [(p, (scn v N p tab tab.length).2)]) (by rw [List.length_append, List.length_singleton]; omega)
        rw [List.length_append, List.length_singleton] at this
        omega
/-- bits that wait: whole bytes, what is pending, how many bits of it -/
def emS (st : List Nat × Nat × Nat) (c w : Nat) : List Nat × Nat × Nat := if st.2.2 + w < 8 then (st.1, st.2.1 * 2 ^ w + c, st.2.2 + w) else (st.1 ++ [(st.2.1 * 2 ^ w + c) / 2 ^ (st.2.2 + w - 8)], (st.2.1 * 2 ^ w + c) % 2 ^ (st.2.2 + w - 8), st.2.2 + w - 8)
def okS (st : List Nat × Nat × Nat) : Prop := st.2.2 < 8 ∧ st.2.1 < 2 ^ st.2.2 ∧ aB st.1
theorem okS.nil : okS ([], 0, 0) := ⟨by decide, by decide, aB.nil⟩
theorem pend_lt {a c p w : Nat} (ha : a < 2 ^ p) (hc : c < 2 ^ w) : a * 2 ^ w + c < 2 ^ (p + w) := by
  have h1 : a + 1 ≤ 2 ^ p := ha
  have h2 : (a + 1) * 2 ^ w ≤ 2 ^ p * 2 ^ w := Nat.mul_le_mul_right _ h1
  rw [Nat.pow_add]
  rw [Nat.add_mul, Nat.one_mul] at h2
  omega
theorem okS.em {st : List Nat × Nat × Nat} (h : okS st) {c w : Nat} (hc : c < 2 ^ w) (hw : w ≤ 7) : okS (emS st c w) := by
  obtain ⟨h1, h2, h3⟩ := h
  have hP := pend_lt h2 hc
  unfold emS
  split
  · next q => exact ⟨q, hP, h3⟩
  · next q =>
    refine ⟨by show _ - 8 < 8; omega, Nat.mod_lt _ (Nat.pow_pos (by decide)), h3.app (aB.one ?_)⟩
    rw [Nat.div_lt_iff_lt_mul (Nat.pow_pos (by decide)), show 256 = 2 ^ 8 from rfl, ← Nat.pow_add, show 8 + (st.2.2 + w - 8) = st.2.2 + w by omega]
    exact hP
theorem emS_len (st : List Nat × Nat × Nat) (c w : Nat) : (emS st c w).1.length ≤ st.1.length + 1 := by
  unfold emS
  split
  · exact Nat.le_succ _
  · simp only [List.length_append, List.length_singleton]; omega
def rnB (st : List Nat × Nat × Nat) : List (Nat × Nat) → List Nat × Nat × Nat
  | [] => st
  | q :: l => rnB (emS st q.1 (wdN q.2)) l
theorem rnB_len : ∀ (l : List (Nat × Nat)) (st : List Nat × Nat × Nat), (rnB st l).1.length ≤ st.1.length + l.length := by
  intro l
  induction l with
  | nil => intro st; exact Nat.le_refl _
  | cons q l ih =>
    intro st
    simp only [rnB, List.length_cons]
    have := ih (emS st q.1 (wdN q.2))
    have := emS_len st q.1 (wdN q.2)
    omega
def fnl (st : List Nat × Nat × Nat) : List Nat := st.1 ++ (if st.2.2 = 0 then [] else [st.2.1 * 2 ^ (8 - st.2.2)])
theorem okS.fnl {st : List Nat × Nat × Nat} (h : okS st) : aB (fnl st) := by
  obtain ⟨h1, h2, h3⟩ := h
  unfold Jvm.Pilot.CTaggedRasterLaw_law_r6233_95c97e.fnl
  refine h3.app ?_
  split
  · exact aB.nil
  · next q =>
    refine aB.one ?_
    have : st.2.1 * 2 ^ (8 - st.2.2) < 2 ^ st.2.2 * 2 ^ (8 - st.2.2) := Nat.mul_lt_mul_of_pos_right h2 (Nat.pow_pos (by decide))
    rw [← Nat.pow_add, show st.2.2 + (8 - st.2.2) = 8 by omega] at this
    exact this
theorem fnl_len (st : List Nat × Nat × Nat) : (fnl st).length ≤ st.1.length + 1 := by
  unfold fnl
  rw [List.length_append]
  split <;> simp
theorem wd_code {c k : Nat} (hk : k ≤ 110) (hc : c ≤ 16 + k) : c < 2 ^ wdN k := by
  unfold wdN
  split
  · omega
  · split <;> omega
/-- a strip of N nibbles as codes -/
def ebS (v : Nat → Nat) (N : Nat) : List Nat := fnl (rnB ([], 0, 0) ((16, 1) :: enL v N (N + 1) 0 []))
theorem ebS_len {v : Nat → Nat} {N : Nat} (hv : ∀ i, i < N → v i < 16) : (ebS v N).length ≤ N + N / 109 + 3 := by
  unfold ebS
  have h1 := fnl_len (rnB ([], 0, 0) ((16, 1) :: enL v N (N + 1) 0 []))
  have h2 := rnB_len ((16, 1) :: enL v N (N + 1) 0 []) ([], 0, 0)
  have h3 := enL_len hv (N + 1) 0 [] (by simp)
  simp only [List.length_cons, List.length_nil] at h2 h3
  omega
theorem enL_ok {v : Nat → Nat} {N : Nat} (hv : ∀ i, i < N → v i < 16) : ∀ m p tab st, (p < N → tab.length ≤ 108) → tab.length ≤ 109 → okS st → okS (rnB st (enL v N m p tab)) := by
  intro m
  induction m with
  | zero => intro p tab st _ _ h; exact h
  | succ m ih =>
    intro p tab st ht ht2 h
    simp only [enL]
    split
    · exact h.em (wd_code (by omega) (by omega)) (wdN_le _).2
    · next q =>
      obtain ⟨_, m2, m3, m4⟩ := scn_in (tab := tab) (N := N) (p := p) (by omega) (hv p (by omega)) tab.length
      have ht := ht (by omega)
      have h1 := h.em (c := (scn v N p tab tab.length).1) (wd_code (k := tab.length + 1) (by omega) (by omega)) (wdN_le _).2
      simp only [rnB]
      split
      · next q2 =>
        exact ih _ [] _ (by simp) (by simp) (h1.em (c := 16) (wd_code (k := 110) (by omega) (by omega)) (wdN_le _).2)
      · next q2 =>
        exact ih _ _ _ (by rw [List.length_append, List.length_singleton]; omega) (by rw [List.length_append, List.length_singleton]; omega) h1
theorem aB.ebS {v : Nat → Nat} {N : Nat} (hv : ∀ i, i < N → v i < 16) : aB (ebS v N) :=
  (enL_ok hv _ _ _ _ (by simp) (by simp) (okS.nil.em (c := 16) (wd_code (k := 1) (by omega) (by omega)) (wdN_le _).2)).fnl
