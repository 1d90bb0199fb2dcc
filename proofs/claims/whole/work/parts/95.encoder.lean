/-! write: the class's encoder -/
def nbv (u : Nat → Nat) (i : Nat) : Nat := if i % 2 = 0 then u (i / 2) / 16 else u (i / 2) % 16
theorem nbv_lt {u : Nat → Nat} {i : Nat} (h : u (i / 2) < 256) : nbv u i < 16 := by
  unfold nbv
  split <;> omega
theorem p_nib {post : Int32 → Prop} {f : Nat → Int32} {fr n i : Nat} {u : Nat → Nat} (h : hU f fr n u) (hn : fr + n ≤ 256) (hi : i < 2 * n) (hp : post (nI (nbv u i))) : wp_Da_nibble post f (nI (2 * fr + i)) := by
  unfold wp_Da_nibble
  rw [show (2 : Int32) = nI 2 from rfl, pk_rem (by omega) (by decide) (by decide), pk_div (by omega) (by decide) (by decide), nI_clamp (by omega), show (2 * fr + i) / 2 = fr + i / 2 by omega]
  obtain ⟨hx, e1⟩ := h (i / 2) (by omega)
  rw [e1]
  unfold nbv at hp
  refine ⟨vp_in_nI (by omega) (by decide), pk_eq ((2 * fr + i) % 2) 0 (fun q => ?_) (fun q => ?_)⟩
  · rw [if_pos (by omega)] at hp
    rw [show nI (u (i / 2)) >>> ((4 : Int32) &&& 31) = nI (u (i / 2) / 2 ^ 4) from pk_shrN (by omega) _ 4 (by decide)]
    exact hp
  · rw [if_neg (by omega)] at hp
    rw [show nI (u (i / 2)) &&& 15 = nI (u (i / 2) % 2 ^ 4) from pk_andN (by omega) 4 (by decide)]
    exact hp
def enI (I : Nat → Int32) (k : Nat) (st : List Nat × Nat × Nat) : Prop := I 3 = nI k ∧ I 4 = nI st.2.1 ∧ I 5 = nI st.2.2
theorem and_m {k v : Nat} (hk : k < 8) (hv : v < 2 ^ 32) : nI v &&& nI (2 ^ k - 1) = nI (v % 2 ^ k) :=
  pk_andN hv k ((by decide +kernel : ∀ k, k < 8 → (nI (2 ^ k - 1)).toBitVec.toNat = 2 ^ k - 1) k hk)
theorem p_Ne_emit {post : (Nat → Int32) → (Nat → Int32) → (Nat → Int32) → Prop} {I I0 f0 I4 fb : Nat → Int32} {k c sz : Nat} {L : List Nat} {st : List Nat × Nat × Nat} (he : enI I k st) (hs : okS st) (hx : XA I0 f0 sz (L ++ st.1) I4 fb) (hk : k < 110) (hc : c < 2 ^ wdN (k + 1)) (hb : sz + L.length + st.1.length < 2 ^ 20) (hp : ∀ I' I4' f', enI I' k (emS st c (wdN (k + 1))) → XA I0 f0 sz (L ++ (emS st c (wdN (k + 1))).1) I4' f' → post I' I4' f') : wp_Ne_emit post I I4 fb (nI c) := by
  obtain ⟨e3, e4, e5⟩ := he
  obtain ⟨s1, s2, s3⟩ := hs
  unfold wp_Ne_emit
  rw [e3, e4, e5, nI_1]
  refine p_codeWidth (by omega) ?_
  have hw := wdN_le (k + 1)
  unfold emS at hp
  generalize hW : wdN (k + 1) = w at *
  have hP := pend_lt s2 hc
  have hP2 : st.2.1 * 2 ^ w + c < 2 ^ 14 := Nat.lt_of_lt_of_le hP (Nat.pow_le_pow_right (by decide) (by omega))
  rw [shlN w (by omega) (by omega), nI_or, or_add (m := w) (Nat.mul_mod_left _ _) hc, nI_add]
  refine pk_lt (st.2.2 + w) 8 (fun q => ?_) (fun q => ?_)
  · rw [if_pos q] at hp
    refine hp _ _ _ ⟨?_, ?_, ?_⟩ hx
    · exact e3
    · rfl
    · rfl
  · rw [if_neg (by omega)] at hp
    have h8 : (st.2.1 * 2 ^ w + c) / 2 ^ (st.2.2 + w - 8) < 256 := by
      rw [Nat.div_lt_iff_lt_mul (Nat.pow_pos (by decide)), show 256 = 2 ^ 8 from rfl, ← Nat.pow_add, show 8 + (st.2.2 + w - 8) = st.2.2 + w by omega]
      exact hP
    have hpw : 2 ^ (st.2.2 + w - 8) ≤ 2 ^ 6 := Nat.pow_le_pow_right (by decide) (by omega)
    have hpp : 0 < 2 ^ (st.2.2 + w - 8) := Nat.pow_pos (by decide)
    rw [show (8 : Int32) = nI 8 from rfl, pk_sub (by omega), shN (by omega) _ (by omega), a255 (by omega), Nat.mod_eq_of_lt h8, show (1 : Int32) = nI 1 from rfl, shlN (st.2.2 + w - 8) (by omega) (by omega), Nat.one_mul, pk_sub (by omega), and_m (by omega) (by omega)]
    refine hx.one (by rw [List.length_append]; omega) (fun I4' f' x' => ?_)
    rw [List.append_assoc] at x'
    refine hp _ _ _ ⟨?_, ?_, ?_⟩ x'
    · exact e3
    · rfl
    · rfl
theorem p_restart {post : (Nat → Int32) → (Nat → Int32) → (Nat → Int32) → (Nat → Int32) → Prop} {I I0 f0 fc I4 fb : Nat → Int32} {k sz : Nat} {L : List Nat} {st : List Nat × Nat × Nat} (he : enI I k st) (hs : okS st) (hx : XA I0 f0 sz (L ++ st.1) I4 fb) (hk : k < 110) (hb : sz + L.length + st.1.length < 2 ^ 20) (hp : ∀ I' fc' I4' f', enI I' 0 (emS st 16 (wdN (k + 1))) → (∀ c, c < 16 → fc' c = 0) → XA I0 f0 sz (L ++ (emS st 16 (wdN (k + 1))).1) I4' f' → post I' fc' I4' f') : wp_Ne_restartTable post I fc I4 fb := by
  unfold wp_Ne_restartTable
  rw [show (16 : Int32) = nI 16 from rfl]
  refine p_Ne_emit he hs hx hk (wd_code (by omega) (by omega)) hb (fun I' I4' f' he' hx' => ?_)
  have key : ∀ (m j : Nat) (fc' : Nat → Int32), j + m = 16 → (∀ c, c < j → fc' c = 0) → wp_Ne_restartTable_l9 post (m + 1) I' fc' I4' f' (nI j) := by
    intro m
    induction m with
    | zero =>
      intro j fc' hj h
      unfold wp_Ne_restartTable_l9
      refine br_t (nI_le (a := 16) (by omega) (by omega)) (hp _ _ _ _ ⟨rfl, he'.2.1, he'.2.2⟩ (fun c hc => h c (by omega)) hx')
    | succ m ih =>
      intro j fc' hj h
      unfold wp_Ne_restartTable_l9
      rw [nI_clamp (by omega), nI_1]
      refine br_f (nI_ge (b := 16) (by omega) (by omega)) ⟨vp_in_nI (by omega) (by decide), ih (j + 1) _ (by omega) (fun c hc => ?_)⟩
      rw [upd_at]
      split
      · rfl
      · exact h c (by omega)
  exact ⟨17, key 16 0 fc (by omega) (fun c hc => by omega)⟩
/-- the newest of the first m rows whose parent is c, as a code -/
def hdK (par : Nat → Nat) (c : Nat) : Nat → Nat
  | 0 => 0
  | m + 1 => if par m = c then 18 + m else hdK par c m
theorem hdK_old {par par' : Nat → Nat} {c : Nat} : ∀ m, (∀ j, j < m → par' j = par j) → hdK par' c m = hdK par c m := by
  intro m
  induction m with
  | zero => intro _; rfl
  | succ m ih =>
    intro h
    simp only [hdK]
    rw [h m (by omega), ih (fun j hj => h j (by omega))]
theorem hdK_le {par : Nat → Nat} {c : Nat} : ∀ m, hdK par c m ≤ 17 + m := by
  intro m
  induction m with
  | zero => simp only [hdK]; omega
  | succ m ih =>
    simp only [hdK]
    split <;> omega
def trA (v : Nat → Nat) (tab : List (Nat × Nat)) (par : Nat → Nat) (fc ln ns : Nat → Int32) : Prop := (∀ c, c < 16 ∨ (18 ≤ c ∧ c < 18 + tab.length) → fc c = nI (hdK par c tab.length)) ∧ ∀ j, j < tab.length → ln (18 + j) = nI (v (tbS tab j + tbZ tab j)) ∧ ns (18 + j) = nI (hdK par (par j) j)
theorem nodup_le : ∀ (n : Nat) (l : List Nat), l.Nodup → (∀ x ∈ l, x < n) → l.length ≤ n := by
  intro n
  induction n with
  | zero =>
    intro l _ h
    cases l with
    | nil => exact Nat.le_refl _
    | cons a l => exact absurd (h a (List.mem_cons_self)) (by omega)
  | succ n ih =>
    intro l hd h
    by_cases hn : n ∈ l
    · have h1 := ih (l.erase n) (hd.erase n) (fun x hx => by
        have h2 := (hd.mem_erase_iff).mp hx
        have := h x h2.2
        have := h2.1
        omega)
      rw [List.length_erase_of_mem hn] at h1
      omega
    · have h1 := ih l hd (fun x hx => by
        have := h x hx
        have : x ≠ n := fun e => hn (e ▸ hx)
        omega)
      omega
theorem p_child {post : Int32 → Prop} {v : Nat → Nat} {N : Nat} {tab : List (Nat × Nat)} {par : Nat → Nat} {I fc ln ns : Nat → Int32} {c t : Nat} (h : tre v N tab par) (hv : ∀ i, i < N → v i < 16) (ha : trA v tab par fc ln ns) (hk : tab.length ≤ 108) (hc : c < 16 ∨ (18 ≤ c ∧ c < 18 + tab.length)) (ht : t < 16) (h1 : ∀ j, j < tab.length → par j = c → v (tbS tab j + tbZ tab j) = t → post (nI (18 + j))) (h0 : (∀ j, j < tab.length → par j = c → v (tbS tab j + tbZ tab j) ≠ t) → post (nI 0)) : wp_Ne_child post I fc ln ns (nI c) (nI t) := by
  unfold wp_Ne_child
  rw [nI_clamp (by omega), ha.1 c hc]
  refine ⟨vp_in_nI (by omega) (by decide), ?_⟩
  have key : ∀ m, m ≤ tab.length → ∀ (n : Nat) (Q : List Nat), m < n → Q.Nodup → (∀ x ∈ Q, x < 16) → t ∉ Q → (∀ j, j < m → par j = c → v (tbS tab j + tbZ tab j) ∉ Q) → (∀ j, j < m → par j = c → v (tbS tab j + tbZ tab j) = t → post (nI (18 + j))) → ((∀ j, j < m → par j = c → v (tbS tab j + tbZ tab j) ≠ t) → post (nI 0)) → wp_Ne_child_l10 post I fc ln ns n (nI t) (nI (hdK par c m)) (nI Q.length) := by
    intro m
    induction m with
    | zero =>
      intro _ n Q hn hd hq htq hjq h1 h0
      obtain ⟨n, rfl⟩ : ∃ n', n = n' + 1 := ⟨n - 1, by omega⟩
      unfold wp_Ne_child_l10
      have := h0 (fun j hj => by omega)
      exact br_c (fun _ => this) (fun _ => br_t rfl this)
    | succ m ih =>
      intro hm n Q hn hd hq htq hjq h1 h0
      simp only [hdK]
      by_cases e : par m = c
      · rw [if_pos e]
        obtain ⟨n, rfl⟩ : ∃ n', n = n' + 1 := ⟨n - 1, by omega⟩
        have hlen := nodup_le 16 (t :: Q) (List.nodup_cons.mpr ⟨htq, hd⟩) (fun x hx => by
          rcases List.mem_cons.mp hx with rfl | hx
          · exact ht
          · exact hq x hx)
        rw [List.length_cons] at hlen
        have hlast := hv (tbS tab m + tbZ tab m) (h.1 m (by omega)).2.1
        unfold wp_Ne_child_l10
        rw [nI_clamp (n := 18 + m) (by omega), (ha.2 m (by omega)).1, (ha.2 m (by omega)).2, e, nI_1]
        refine br_f (nI_ge (b := 16) (by omega) (by omega)) (br_f (nI_ne0 (by omega) (by omega)) ⟨vp_in_nI (by omega) (by decide), pk_eq _ t (fun q => h1 m (by omega) e q) (fun q => ⟨vp_in_nI (by omega) (by decide), ?_⟩)⟩)
        refine ih (by omega) n (v (tbS tab m + tbZ tab m) :: Q) (by omega) (List.nodup_cons.mpr ⟨hjq m (by omega) e, hd⟩) (fun x hx => ?_) (fun z => ?_) (fun j hj hjp z => ?_) (fun j hj => h1 j (by omega)) (fun z => h0 (fun j hj hjp => ?_))
        · rcases List.mem_cons.mp hx with rfl | hx
          · exact hlast
          · exact hq x hx
        · rcases List.mem_cons.mp z with z | z
          · exact q z.symm
          · exact htq z
        · rcases List.mem_cons.mp z with z | z
          · exact h.2 j m (by omega) (by omega) (hjp.trans e.symm) z
          · exact hjq j (by omega) hjp z
        · by_cases ej : j = m
          · subst ej; exact q
          · exact z j (by omega) hjp
      · rw [if_neg e]
        refine ih (by omega) n Q (by omega) hd hq htq (fun j hj => hjq j (by omega)) (fun j hj => h1 j (by omega)) (fun z => h0 (fun j hj hjp => ?_))
        by_cases ej : j = m
        · subst ej; exact absurd hjp e
        · exact z j (by omega) hjp
  exact ⟨tab.length + 1, key tab.length (by omega) (tab.length + 1) [] (by omega) List.nodup_nil (fun x hx => absurd hx List.not_mem_nil) List.not_mem_nil (fun j hj _ => List.not_mem_nil) h1 h0⟩
theorem mt.code {v : Nat → Nat} {tab : List (Nat × Nat)} {k c l p : Nat} (h : mt v tab k c l p) : c < 16 ∨ (18 ≤ c ∧ c < 18 + k) := by
  rcases h with ⟨h, _⟩ | ⟨j, h1, h2, _⟩ <;> omega
theorem mt.det {v : Nat → Nat} {tab : List (Nat × Nat)} {k k' c l l' s p : Nat} (h : mt v tab k c l s) (h' : mt v tab k' c l' p) : l = l' ∧ sm v s p l := by
  rcases h with ⟨a1, a2, a3⟩ | ⟨i, a1, a2, a3, a4⟩
  · rcases h' with ⟨b1, b2, b3⟩ | ⟨j, b1, b2, b3, b4⟩
    · refine ⟨by omega, fun i hi => ?_⟩
      have : i = 0 := by omega
      subst this
      rw [Nat.add_zero, Nat.add_zero]
      omega
    · omega
  · rcases h' with ⟨b1, b2, b3⟩ | ⟨j, b1, b2, b3, b4⟩
    · omega
    · have : i = j := by omega
      subst this
      have : l = l' := by omega
      subst this
      exact ⟨rfl, a4.sym.tr b4⟩
theorem p_addRow {post : (Nat → Int32) → (Nat → Int32) → (Nat → Int32) → Prop} {v : Nat → Nat} {N : Nat} {tab : List (Nat × Nat)} {par : Nat → Nat} {I fc ln ns : Nat → Int32} {c p l : Nat} (h : tre v N tab par) (ha : trA v tab par fc ln ns) (hI : I 3 = nI (tab.length + 1)) (hk : tab.length ≤ 108) (hm : mt v tab tab.length c l p) (hp : ∀ fc' ln' ns', trA v (tab ++ [(p, l)]) (nPr par tab.length c) fc' ln' ns' → post fc' ln' ns') : wp_Ne_addRow post I fc ln ns (nI c) (nI (v (p + l))) := by
  have hc := hm.code
  unfold wp_Ne_addRow
  rw [hI, show (17 : Int32) = nI 17 from rfl, nI_add, nI_clamp (n := c) (by omega), nI_clamp (n := 17 + (tab.length + 1)) (by omega), show 17 + (tab.length + 1) = 18 + tab.length by omega]
  refine ⟨vp_in_nI (by omega) (by decide), vp_in_nI (by omega) (by decide), vp_in_nI (by omega) (by decide), vp_in_nI (by omega) (by decide), vp_in_nI (by omega) (by decide), hp _ _ _ ⟨fun d hd => ?_, fun j hj => ?_⟩⟩
  · rw [List.length_append, List.length_singleton] at hd ⊢
    simp only [hdK, nPr_new]
    rw [hdK_old (par := par) tab.length (fun j hj => nPr_old (by omega)), upd_at, upd_at]
    by_cases e : d = c
    · rw [if_pos e, if_pos e.symm]
    · rw [if_neg e, if_neg (show ¬ c = d from fun z => e z.symm)]
      by_cases e2 : d = 18 + tab.length
      · rw [if_pos e2, e2]
        have : ∀ m, m ≤ tab.length → hdK par (18 + tab.length) m = 0 := by
          intro m
          induction m with
          | zero => intro _; rfl
          | succ m ih =>
            intro hm2
            simp only [hdK]
            have := (h.1 m (by omega)).2.2.code
            rw [if_neg (by omega), ih (by omega)]
        rw [this tab.length (Nat.le_refl _)]
        rfl
      · rw [if_neg e2]
        exact ha.1 d (by omega)
  · rw [List.length_append, List.length_singleton] at hj
    rw [upd_at, upd_at]
    by_cases e : j = tab.length
    · subst e
      rw [if_pos rfl, if_pos rfl, tbS_new, tbZ_new, nPr_new]
      refine ⟨rfl, ?_⟩
      rw [upd_at, if_neg (by omega), hdK_old (par := par) tab.length (fun j hj => nPr_old (by omega))]
      exact ha.1 c hc
    · rw [if_neg (by omega), if_neg (by omega), tbS_old (by omega), tbZ_old (by omega), nPr_old e, hdK_old (par := par) j (fun i hi => nPr_old (by omega))]
      exact ha.2 j (by omega)

theorem mt.next {v : Nat → Nat} {N : Nat} {tab : List (Nat × Nat)} {par : Nat → Nat} (h : tre v N tab par) {c l p j : Nat} (hm : mt v tab tab.length c l p) (hj : j < tab.length) (hp : par j = c) (hl : v (tbS tab j + tbZ tab j) = v (p + l)) : mt v tab tab.length (18 + j) (l + 1) p := by
  obtain ⟨_, _, m1⟩ := h.1 j hj
  rw [hp] at m1
  obtain ⟨e, s⟩ := m1.det hm
  refine Or.inr ⟨j, hj, rfl, by omega, fun i hi => ?_⟩
  by_cases ei : i = l
  · subst ei
    rw [← e]
    rw [← e] at hl
    exact hl
  · exact s i (by omega)
theorem p_encode {post : (Nat → Int32) → (Nat → Int32) → (Nat → Int32) → (Nat → Int32) → (Nat → Int32) → (Nat → Int32) → Prop} {f Ie fc ln ns I0 f0 I4 fb : Nat → Int32} {fr n want sz : Nat} {L : List Nat} {u : Nat → Nat} (h : hU f fr n u) (hn : fr + n ≤ 256) (hs : want ≤ n) (hx : XA I0 f0 sz L I4 fb) (hb : sz + L.length < 2 ^ 19) (k : ∀ Ie' fc' ln' ns' I' f', XA I0 f0 sz (L ++ ebS (nbv u) (2 * want)) I' f' → post Ie' fc' ln' ns' I' f') : wp_Ne_encode post f Ie fc ln ns I4 fb (nI fr) (nI (fr + want)) := by
  have hv : ∀ i, i < 2 * want → nbv u i < 16 := fun i hi => nbv_lt (h (i / 2) (by omega)).1
  have key : ∀ (m p : Nat) (tab : List (Nat × Nat)) (par : Nat → Nat) (st : List Nat × Nat × Nat) (I fc ln ns I4 fb : Nat → Int32), 2 * want < p + m → p ≤ 2 * want → (p < 2 * want → tab.length ≤ 108) → tab.length ≤ 109 → okS st → enI I tab.length st → (p < 2 * want → tre (nbv u) (2 * want) tab par ∧ trA (nbv u) tab par fc ln ns) → XA I0 f0 sz (L ++ st.1) I4 fb → sz + L.length + st.1.length + 2 * (2 * want - p) < 2 ^ 19 + 2 ^ 11 → (∀ Ie' fc' ln' ns' I' f', XA I0 f0 sz (L ++ fnl (rnB st (enL (nbv u) (2 * want) m p tab))) I' f' → post Ie' fc' ln' ns' I' f') → wp_Ne_encode_l31 post f m I fc ln ns I4 fb (nI (2 * fr + 2 * want)) (nI (2 * fr + p)) := by
    intro m
    induction m with
    | zero => intro p tab par st I fc ln ns I4 fb q1 q2; omega
    | succ m ih =>
      intro p tab par st I fc ln ns I4 fb q1 q2 q3 q4 hst hen htr hx hb hk
      unfold wp_Ne_encode_l31
      simp only [enL] at hk
      rw [nI_1]
      refine pk_le (2 * fr + 2 * want) (2 * fr + p) (fun z => ?_) (fun z => ?_)
      · rw [if_pos (by omega)] at hk
        rw [show (17 : Int32) = nI 17 from rfl]
        refine p_Ne_emit hen hst hx (by omega) (wd_code (by omega) (by omega)) (by omega) (fun I' I4' f' he' hx' => ?_)
        have hok := hst.em (c := 17) (wd_code (k := tab.length + 1) (by omega) (by omega)) (wdN_le _).2
        have hl := emS_len st 17 (wdN (tab.length + 1))
        simp only [rnB] at hk
        obtain ⟨o1, o2, o3⟩ := hok
        generalize emS st 17 (wdN (tab.length + 1)) = st' at *
        unfold fnl at hk
        rw [he'.2.2, he'.2.1]
        refine pk_le st'.2.2 0 (fun y => ?_) (fun y => ?_)
        · rw [if_pos (by omega), List.append_nil] at hk
          exact hk _ _ _ _ _ _ hx'
        · rw [if_neg (by omega)] at hk
          have hlt : st'.2.1 * 2 ^ (8 - st'.2.2) < 2 ^ st'.2.2 * 2 ^ (8 - st'.2.2) := Nat.mul_lt_mul_of_pos_right o2 (Nat.pow_pos (by decide))
          rw [← Nat.pow_add, show st'.2.2 + (8 - st'.2.2) = 8 by omega] at hlt
          rw [show (8 : Int32) = nI 8 from rfl, pk_sub (by omega), shlN _ (by omega) (by omega), a255 (by omega), Nat.mod_eq_of_lt hlt]
          refine hx'.one (by rw [List.length_append]; omega) (fun I2 f2 x2 => ?_)
          rw [List.append_assoc] at x2
          exact hk _ _ _ _ _ _ x2
      · have hp : p < 2 * want := by omega
        obtain ⟨ht, hta⟩ := htr hp
        have q3 := q3 hp
        have hvp := hv p hp
        rw [if_neg (by omega)] at hk
        have done : ∀ (c l : Nat), mt (nbv u) tab tab.length c l p → 1 ≤ l → p + l ≤ 2 * want → (p + l < 2 * want → ∀ j, j < tab.length → par j = c → nbv u (tbS tab j + tbZ tab j) ≠ nbv u (p + l)) → wp_Ne_encode_b121 post (wp_Ne_encode_l31 post f m) f I fc ln ns I4 fb (nI (2 * fr + 2 * want)) (nI (2 * fr + (p + l))) (nI c) := by
          intro c l hm hl hN hno
          have esc := ht.scan hvp hm hl hN hno
          rw [esc] at hk
          simp only [rnB] at hk
          have hcode := hm.code
          unfold wp_Ne_encode_b121
          refine p_Ne_emit hen hst hx (by omega) (wd_code (by omega) (by omega)) (by omega) (fun I' I4' f' he' hx' => ?_)
          have hok := hst.em (c := c) (wd_code (k := tab.length + 1) (by omega) (by omega)) (wdN_le _).2
          have hlen := emS_len st c (wdN (tab.length + 1))
          generalize emS st c (wdN (tab.length + 1)) = st' at *
          rw [he'.1, nI_1]
          have he2 : enI (upd I' 3 (nI (tab.length + 1))) (tab.length + 1) st' := ⟨rfl, he'.2.1, he'.2.2⟩
          refine pk_le (2 * fr + 2 * want) (2 * fr + (p + l)) (fun y => ?_) (fun y => pk_eq (tab.length + 1) 109 (fun y2 => ?_) (fun y2 => ?_))
          · unfold wp_Ne_encode_b164 wp_Ne_encode_b183
            rw [if_neg (by omega)] at hk
            refine br_t (nI_le (by omega) (by omega)) (ih (p + l) (tab ++ [(p, l)]) par st' _ _ _ _ _ _ (by omega) hN (by omega) (by rw [List.length_append, List.length_singleton]; omega) hok (by rw [List.length_append, List.length_singleton]; exact he2) (fun z => by omega) hx' (by omega) hk)
          · rw [if_pos (by omega)] at hk
            simp only [rnB] at hk
            refine p_restart he2 hok hx' (by omega) (by omega) (fun I2 fc2 I42 f2 he3 hz hx2 => ?_)
            have e110 : tab.length + 1 + 1 = 110 := by omega
            rw [e110] at he3 hx2
            have hok2 := hok.em (c := 16) (wd_code (k := 110) (by omega) (by omega)) (wdN_le _).2
            have hlen2 := emS_len st' 16 (wdN 110)
            unfold wp_Ne_encode_b183
            refine ih (p + l) [] par _ I2 fc2 _ _ _ _ (by omega) hN (by simp) (by simp) hok2 he3 (fun _ => ⟨tre.nil, fun c hc => ?_, fun j hj => absurd hj (by simp)⟩) hx2 (by omega) hk
            simp only [List.length_nil] at hc
            rw [hz c (by omega)]
            rfl
          · rw [if_neg (by omega)] at hk
            unfold wp_Ne_encode_b164 wp_Ne_encode_b183
            refine br_f (nI_ge (by omega) (by omega)) (p_nib h hn (by omega) ?_)
            refine p_addRow ht hta rfl q3 hm (fun fc' ln' ns' hta' => ?_)
            exact ih (p + l) (tab ++ [(p, l)]) (nPr par tab.length c) st' _ _ _ _ _ _ (by omega) hN (by rw [List.length_append, List.length_singleton]; omega) (by rw [List.length_append, List.length_singleton]; omega) hok (by rw [List.length_append, List.length_singleton]; exact he2) (fun z => ⟨ht.snoc hm hl z (hno z), hta'⟩) hx' (by omega) hk
        have walk : ∀ (m' c l lg : Nat), mt (nbv u) tab tab.length c l p → 1 ≤ l → p + l ≤ 2 * want → 2 * want < p + l + m' → ((lg = 0 ∧ (p + l < 2 * want → ∀ j, j < tab.length → par j = c → nbv u (tbS tab j + tbZ tab j) ≠ nbv u (p + l))) ∨ (p + l < 2 * want ∧ ∃ j, j < tab.length ∧ lg = 18 + j ∧ par j = c ∧ nbv u (tbS tab j + tbZ tab j) = nbv u (p + l))) → wp_Ne_encode_l74 post (wp_Ne_encode_l31 post f m) f m' I fc ln ns I4 fb (nI (2 * fr + 2 * want)) (nI (2 * fr + (p + l))) (nI c) (nI lg) := by
          intro m'
          induction m' with
          | zero => intro c l lg _ _ y1 y2; omega
          | succ m' ihw =>
            intro c l lg hm hl hN hf hlg
            unfold wp_Ne_encode_l74
            rcases hlg with ⟨rfl, hno⟩ | ⟨hlt, j, hj, rfl, hpj, hlj⟩
            · exact br_t rfl (done c l hm hl hN hno)
            · have hm2 := mt.next ht hm hj hpj hlj
              rw [nI_1, show 2 * fr + (p + l) + 1 = 2 * fr + (p + (l + 1)) by omega]
              refine br_f (nI_ne0 (by omega) (by omega)) (br_f (nI_ge (by omega) (by omega)) (pk_le (2 * fr + 2 * want) (2 * fr + (p + (l + 1))) (fun y => ?_) (fun y => ?_)))
              · unfold wp_Ne_encode_b116
                exact ihw (18 + j) (l + 1) 0 hm2 (by omega) (by omega) (by omega) (Or.inl ⟨rfl, fun z => by omega⟩)
              · refine p_nib h hn (by omega) (p_child ht hv hta q3 hm2.code (hv _ (by omega)) (fun i hi hpi hli => ?_) (fun hno => ?_))
                · unfold wp_Ne_encode_b116
                  exact ihw (18 + j) (l + 1) (18 + i) hm2 (by omega) (by omega) (by omega) (Or.inr ⟨by omega, i, hi, rfl, hpi, hli⟩)
                · unfold wp_Ne_encode_b116
                  exact ihw (18 + j) (l + 1) 0 hm2 (by omega) (by omega) (by omega) (Or.inl ⟨rfl, fun _ => hno⟩)
        have hm1 : mt (nbv u) tab tab.length (nbv u p) 1 p := Or.inl ⟨hvp, rfl, rfl⟩
        refine p_nib h hn (by omega) ?_
        rw [Nat.add_assoc]
        refine pk_le (2 * fr + 2 * want) (2 * fr + (p + 1)) (fun y => ?_) (fun y => ?_)
        · unfold wp_Ne_encode_b72
          exact ⟨2 * want + 1, walk (2 * want + 1) _ 1 0 hm1 (by omega) (by omega) (by omega) (Or.inl ⟨rfl, fun z => by omega⟩)⟩
        · refine p_nib h hn (by omega) (p_child ht hv hta q3 hm1.code (hv _ (by omega)) (fun i hi hpi hli => ?_) (fun hno => ?_))
          · unfold wp_Ne_encode_b72
            exact ⟨2 * want + 1, walk (2 * want + 1) _ 1 (18 + i) hm1 (by omega) (by omega) (by omega) (Or.inr ⟨by omega, i, hi, rfl, hpi, hli⟩)⟩
          · unfold wp_Ne_encode_b72
            exact ⟨2 * want + 1, walk (2 * want + 1) _ 1 0 hm1 (by omega) (by omega) (by omega) (Or.inl ⟨rfl, fun _ => hno⟩)⟩
  unfold wp_Ne_encode
  rw [show (2 : Int32) = nI 2 from rfl, pk_mul, pk_mul, Nat.mul_add]
  have he : enI (upd (upd (upd Ie 4 0) 5 0) 3 0) 0 ([], 0, 0) := ⟨rfl, rfl, rfl⟩
  refine p_restart he okS.nil (by rw [List.append_nil]; exact hx) (by decide) (by simp only [List.length_nil]; omega) (fun I' fc' I4' f' he' hz hx' => ?_)
  have hok := okS.nil.em (c := 16) (wd_code (k := 1) (by omega) (by omega)) (wdN_le _).2
  have hlen := emS_len ([], 0, 0) 16 (wdN 1)
  refine ⟨2 * want + 1, ?_⟩
  have := key (2 * want + 1) 0 [] (fun _ => 0) (emS ([], 0, 0) 16 (wdN 1)) I' fc' ln ns I4' f' (by omega) (by omega) (by simp) (by simp) hok he' (fun _ => ⟨tre.nil, fun c hc => ?_, fun j hj => absurd hj (by simp)⟩) hx' (by simp only [List.length_nil] at hlen; omega) k
  · exact this
  · simp only [List.length_nil] at hc
    rw [hz c (by omega)]
    rfl
