/-! write: the reference's codes -/
theorem puL_get {g : Nat → Int32} {e x : Nat} {M : List Nat} : puL g e (M ++ [x]) (e + M.length) = nI x := by
  rw [← puL_app, puL_one, upd_at, if_pos rfl]
theorem puL_set {g : Nat → Int32} {e x y : Nat} {M : List Nat} : upd (puL g e (M ++ [x])) (e + M.length) (nI y) = puL g e (M ++ [y]) := by
  rw [← puL_app, puL_one, upd_upd, ← puL_one, puL_app]
def em1 (st : List Nat × Nat × Nat) (b : Nat) : List Nat × Nat × Nat := if st.2.2 + 1 < 8 then (st.1, 2 * st.2.1 + b, st.2.2 + 1) else (st.1 ++ [2 * st.2.1 + b], 0, 0)
theorem em1_em {st : List Nat × Nat × Nat} {q t b : Nat} (h1 : st.2.2 < 8) (ht : t < 7) (hb : b < 2) : em1 (emS st q t) b = emS st (2 * q + b) (t + 1) := by
  have e : st.2.1 * 2 ^ (t + 1) + (2 * q + b) = 2 * (st.2.1 * 2 ^ t + q) + b := by
    rw [Nat.pow_succ, ← Nat.mul_assoc]
    omega
  unfold emS
  rw [e]
  generalize st.2.1 * 2 ^ t + q = P
  by_cases c1 : st.2.2 + t < 8
  · rw [if_pos c1]
    unfold em1
    by_cases c2 : st.2.2 + (t + 1) < 8
    · rw [if_pos c2, if_pos (by show st.2.2 + t + 1 < 8; omega)]
      rfl
    · rw [if_neg c2, if_neg (by show ¬ st.2.2 + t + 1 < 8; omega), show st.2.2 + (t + 1) - 8 = 0 by omega, Nat.pow_zero, Nat.div_one, Nat.mod_one]
  · rw [if_neg c1, if_neg (by omega)]
    unfold em1
    rw [if_pos (by show st.2.2 + t - 8 + 1 < 8; omega)]
    obtain ⟨x, hx⟩ : ∃ x, st.2.2 + t - 8 = x := ⟨_, rfl⟩
    rw [show st.2.2 + (t + 1) - 8 = x + 1 by omega, hx]
    have d1 : (2 * P + b) / 2 ^ (x + 1) = P / 2 ^ x := by
      rw [Nat.pow_succ, Nat.mul_comm (2 ^ x) 2, ← Nat.div_div_eq_div_mul, show (2 * P + b) / 2 = P by omega]
    have d2 : (2 * P + b) % 2 ^ (x + 1) = 2 * (P % 2 ^ x) + b := by
      have a1 := Nat.div_add_mod (2 * P + b) (2 ^ (x + 1))
      have a2 := Nat.div_add_mod P (2 ^ x)
      rw [d1, Nat.pow_succ, Nat.mul_comm (2 ^ x) 2, Nat.mul_assoc] at a1
      rw [Nat.pow_succ, Nat.mul_comm (2 ^ x) 2]
      omega
    rw [d1, d2]
/-- the reference's file while codes are written: J 19 where they begin, J 20 how many bits -/
def emM (J0 g0 : Nat → Int32) (sz : Nat) (L : List Nat) (st : List Nat × Nat × Nat) (J g : Nat → Int32) : Prop := MA J0 g0 sz (L ++ fnl st) J g ∧ J 19 = nI (sz + L.length) ∧ J 20 = nI (8 * st.1.length + st.2.2)
theorem p_b30 {post : (Nat → Int32) → (Nat → Int32) → Prop} {k10 : (Nat → Int32) → (Nat → Int32) → Int32 → Int32 → Prop} {J0 g0 J g : Nat → Int32} {sz m c x : Nat} {L : List Nat} {st : List Nat × Nat × Nat} (hs : okS st) (hm : MA J0 g0 sz (L ++ st.1 ++ [x]) J g) (h19 : J 19 = nI (sz + L.length)) (h20 : J 20 = nI (8 * st.1.length + st.2.2)) (hx : x = st.2.1 * 2 ^ (8 - st.2.2)) (hb : sz + L.length + st.1.length < 2000) (hc : c < 128) (hmb : m < 7) (k : ∀ J' g', emM J0 g0 sz L (em1 st (c / 2 ^ m % 2)) J' g' → k10 J' g' (nI c) (nI m + -1)) : wp_M_emit_b30 post k10 J g (nI c) (nI m) := by
  obtain ⟨s1, s2, s3⟩ := hs
  unfold wp_M_emit_b30
  have h2 : c / 2 ^ m < 2 ^ 31 := Nat.lt_of_le_of_lt (Nat.div_le_self _ _) (by omega)
  rw [h19, h20, show (8 : Int32) = nI 8 from rfl, pk_rem (by omega) (by decide) (by decide), pk_div (by omega) (by decide) (by decide), nI_add, show (8 * st.1.length + st.2.2) % 8 = st.2.2 by omega, show (8 * st.1.length + st.2.2) / 8 = st.1.length by omega, show (7 : Int32) = nI 7 from rfl, pk_sub (by omega), nI_clamp (n := sz + L.length + st.1.length) (by omega), shN (by omega) _ (by omega), and1 (by omega), nI_1]
  have hbit : c / 2 ^ m % 2 < 2 := Nat.mod_lt _ (by decide)
  generalize c / 2 ^ m % 2 = b at *
  have hpw : 2 ^ (7 - st.2.2) ≤ 2 ^ 7 := Nat.pow_le_pow_right (by decide) (by omega)
  have hbm : b * 2 ^ (7 - st.2.2) ≤ 1 * 2 ^ 7 := Nat.mul_le_mul (by omega) hpw
  rw [shlN _ (by omega) (by omega)]
  refine ⟨vp_in_nI hb (by decide), fun v hv => ⟨vp_in_nI hb (by decide), ?_⟩⟩
  obtain ⟨m1, m2, m3⟩ := hm
  have ei : sz + L.length + st.1.length = sz + (L ++ st.1).length := by rw [List.length_append]; omega
  have ev : x + b * 2 ^ (7 - st.2.2) = (2 * st.2.1 + b) * 2 ^ (7 - st.2.2) := by
    rw [hx, show 8 - st.2.2 = 7 - st.2.2 + 1 by omega, Nat.pow_succ, ← Nat.mul_assoc, Nat.add_mul, Nat.mul_comm 2 st.2.1, Nat.mul_assoc st.2.1 2, Nat.mul_comm 2 (2 ^ _), Nat.mul_assoc]
  rw [m3, ei, puL_get, nI_add, ev] at hv
  subst hv
  rw [m3, ei, puL_set]
  refine k _ _ ?_
  have e0 : L ++ st.1 ++ [(2 * st.2.1 + b) * 2 ^ (7 - st.2.2)] = L ++ fnl (em1 st b) := by
    unfold em1 fnl
    by_cases c1 : st.2.2 + 1 < 8
    · rw [if_pos c1, if_neg (by show ¬ st.2.2 + 1 = 0; omega), show 8 - (st.2.2 + 1) = 7 - st.2.2 by omega, List.append_assoc]
    · rw [if_neg c1, if_pos rfl, show 7 - st.2.2 = 0 by omega, Nat.pow_zero, Nat.mul_one, List.append_nil, List.append_assoc]
  have e1 : 8 * st.1.length + st.2.2 + 1 = 8 * (em1 st b).1.length + (em1 st b).2.2 := by
    unfold em1
    by_cases c1 : st.2.2 + 1 < 8
    · rw [if_pos c1]
      show _ = 8 * st.1.length + (st.2.2 + 1)
      omega
    · rw [if_neg c1]
      show _ = 8 * (st.1 ++ [_]).length + 0
      rw [List.length_append, List.length_singleton]
      omega
  rw [e0, e1]
  refine ⟨⟨?_, fun j j1 j2 j3 => ?_, rfl⟩, ?_, rfl⟩
  · rw [upd_at, if_neg (by decide), m1]
    congr 1
    rw [← e0, List.length_append, List.length_append (as := L ++ st.1), List.length_singleton, List.length_singleton]
  · rw [upd_at, if_neg j3]
    exact m2 j j1 j2 j3
  · rw [upd_at, if_neg (by decide)]
    exact h19
theorem fnl_0 {st : List Nat × Nat × Nat} (h : st.2.2 = 0) : fnl st = st.1 := by
  unfold fnl
  rw [if_pos h, List.append_nil]
theorem fnl_1 {st : List Nat × Nat × Nat} (h : ¬ st.2.2 = 0) : fnl st = st.1 ++ [st.2.1 * 2 ^ (8 - st.2.2)] := by
  unfold fnl
  rw [if_neg h]
theorem p_M_emit {post : (Nat → Int32) → (Nat → Int32) → Prop} {J0 g0 J g : Nat → Int32} {sz k c : Nat} {L : List Nat} {st : List Nat × Nat × Nat} (hm : emM J0 g0 sz L st J g) (hs : okS st) (hk : k ≤ 110) (hc : c < 2 ^ wdN k) (hb : sz + L.length + st.1.length + 1 < 2000) (hp : ∀ J' g', emM J0 g0 sz L (emS st c (wdN k)) J' g' → post J' g') : wp_M_emit post J g (nI c) (nI k) := by
  unfold wp_M_emit
  refine p_M_width (by omega) ?_
  have hw := wdN_le k
  generalize wdN k = w at *
  have hc7 : c < 2 ^ 7 := Nat.lt_of_lt_of_le hc (Nat.pow_le_pow_right (by decide) (by omega))
  have key : ∀ (m t : Nat) (J g : Nat → Int32), t + m = w → emM J0 g0 sz L (emS st (c / 2 ^ m) t) J g → wp_M_emit_l10 post (m + 1) J g (nI c) (nI m - 1) := by
    intro m
    induction m with
    | zero =>
      intro t J g ht h
      unfold wp_M_emit_l10
      have : t = w := by omega
      subst this
      rw [Nat.pow_zero, Nat.div_one] at h
      exact br_t (by decide) (hp J g h)
    | succ m ih =>
      intro t J g ht h
      have hq : c / 2 ^ (m + 1) < 2 ^ t := by
        rw [Nat.div_lt_iff_lt_mul (Nat.pow_pos (by decide)), ← Nat.pow_add, ht]
        exact hc
      have hok := hs.em hq (by omega)
      have hlen := emS_len st (c / 2 ^ (m + 1)) t
      unfold wp_M_emit_l10
      have e1 : em1 (emS st (c / 2 ^ (m + 1)) t) (c / 2 ^ m % 2) = emS st (c / 2 ^ m) (t + 1) := by
        rw [em1_em hs.1 (by omega) (Nat.mod_lt _ (by decide)), Nat.pow_succ, ← Nat.div_div_eq_div_mul]
        congr 1
        omega
      have nx : ∀ J' g', emM J0 g0 sz L (em1 (emS st (c / 2 ^ (m + 1)) t) (c / 2 ^ m % 2)) J' g' → wp_M_emit_l10 post (m + 1) J' g' (nI c) (nI m + -1) := by
        intro J' g' h'
        rw [e1] at h'
        have := ih (t + 1) J' g' (by omega) h'
        rw [Int32.sub_eq_add_neg] at this
        exact this
      generalize emS st (c / 2 ^ (m + 1)) t = st' at *
      rw [show (1 : Int32) = nI 1 from rfl, pk_sub (by omega), Nat.add_sub_cancel]
      obtain ⟨ma, h19, h20⟩ := h
      rw [h20, show (8 : Int32) = nI 8 from rfl, pk_rem (by have := hok.1; omega) (by decide) (by decide)]
      refine br_f (nI_pos (by omega)) (pk_eq ((8 * st'.1.length + st'.2.2) % 8) 0 (fun z => ?_) (fun z => ?_) rfl rfl (by omega) (by decide))
      · have z0 : st'.2.2 = 0 := by have := hok.1; omega
        rw [fnl_0 z0] at ma
        refine p_M_put (v := 0) ma.1 (by rw [List.length_append]; omega) ?_
        have mx := ma.ext (l := [0]) rfl
        refine p_b30 hok mx ?_ ?_ ?_ (by omega) hc7 (by omega) nx
        · rw [upd_at, if_neg (by decide)]; exact h19
        · rw [upd_at, if_neg (by decide)]; exact h20
        · have := hok.2.1
          rw [z0, Nat.pow_zero] at this
          rw [show st'.2.1 = 0 by omega, Nat.zero_mul]
      · have z0 : ¬ st'.2.2 = 0 := by omega
        rw [fnl_1 z0, ← List.append_assoc] at ma
        exact p_b30 hok ma h19 h20 rfl (by omega) hc7 (by omega) nx
  refine ⟨w + 1, key w 0 J g (by omega) ?_⟩
  have e : emS st (c / 2 ^ w) 0 = st := by
    unfold emS
    rw [Nat.div_eq_of_lt hc, Nat.pow_zero, Nat.mul_one, if_pos (by have := hs.1; omega)]
    rfl
  rw [e]
  exact hm
theorem p_same {post : Int32 → Prop} {J nb : Nat → Int32} {v : Nat → Nat} {N a p n : Nat} (hN : N ≤ 512) (hnb : ∀ i, i < N → v i < 16 ∧ nb i = nI (v i)) (ha : a < p) (hp : p + n ≤ N) (h1 : sm v a p n → post 1) (h0 : ¬ sm v a p n → post 0) : wp_M_same post J nb (nI a) (nI p) (nI n) := by
  unfold wp_M_same
  have key : ∀ (m k : Nat), k + m = n → sm v a p k → wp_M_same_l3 post J nb (m + 1) (nI a) (nI p) (nI n) (nI k) := by
    intro m
    induction m with
    | zero =>
      intro k hk hs
      unfold wp_M_same_l3
      have : k = n := by omega
      subst this
      exact br_t (nI_le (by omega) (by omega)) (h1 hs)
    | succ m ih =>
      intro k hk hs
      unfold wp_M_same_l3
      obtain ⟨a1, a2⟩ := hnb (a + k) (by omega)
      obtain ⟨b1, b2⟩ := hnb (p + k) (by omega)
      rw [nI_add, nI_add, nI_clamp (n := a + k) (by omega), nI_clamp (n := p + k) (by omega), a2, b2, nI_1]
      refine br_f (nI_ge (by omega) (by omega)) ⟨vp_in_nI (by omega) (by decide), vp_in_nI (by omega) (by decide), pk_eq (v (a + k)) (v (p + k)) (fun q => ih (k + 1) (by omega) (fun i hi => ?_)) (fun q => h0 (fun z => q (z k (by omega))))⟩
      by_cases e : i = k
      · subst e; exact q
      · exact hs i (by omega)
  exact ⟨n + 1, key n 0 (by omega) (fun i hi => by omega)⟩
theorem MA.frame {J0 g0 J g J' : Nat → Int32} {sz : Nat} {L : List Nat} (h : MA J0 g0 sz L J g) (hj : ∀ j, j ≠ 19 → j ≠ 20 → J' j = J j) : MA J0 g0 sz L J' g :=
  ⟨by rw [hj 2 (by decide) (by decide)]; exact h.1, fun j h2 h19 h20 => by rw [hj j h19 h20]; exact h.2.1 j h2 h19 h20, h.2.2⟩
theorem p_M_codes {post : (Nat → Int32) → (Nat → Int32) → (Nat → Int32) → (Nat → Int32) → Prop} {J0 g0 J g nb many start : Nat → Int32} {v : Nat → Nat} {N sz : Nat} {L : List Nat} (hN : N ≤ 512) (hnb : ∀ i, i < N → v i < 16 ∧ nb i = nI (v i)) (hx : MA J0 g0 sz L J g) (hb : sz + L.length + N + 9 < 2000) (k : ∀ J' g' many' start', MA J0 g0 sz (L ++ ebS v N) J' g' → post J' g' many' start') : wp_M_codes post nb J g many start (nI N) := by
  have hv : ∀ i, i < N → v i < 16 := fun i hi => (hnb i hi).1
  have key : ∀ (m p : Nat) (tab : List (Nat × Nat)) (st : List Nat × Nat × Nat) (J g many start : Nat → Int32), N < p + m → p ≤ N → (p < N → tab.length ≤ 108) → tab.length ≤ 109 → okS st → (∀ j, j < tab.length → tbS tab j < p ∧ tbZ tab j ≤ N) → tbA 120 0 tab start many → emM J0 g0 sz L st J g → sz + L.length + st.1.length + (N - p) + (N - p + tab.length) / 109 + 1 < 1999 → (∀ J' g' many' start', MA J0 g0 sz (L ++ fnl (rnB st (enL v N m p tab))) J' g' → post J' g' many' start') → wp_M_codes_l24 post nb m J g many start (nI N) (nI (tab.length + 1)) (nI p) := by
    intro m
    induction m with
    | zero => intro p tab st J g many start q1 q2; omega
    | succ m ih =>
      intro p tab st J g many start q1 q2 q3 q4 hst htb hta hm hb hk
      unfold wp_M_codes_l24
      simp only [enL] at hk
      refine pk_le N p (fun z => ?_) (fun z => ?_)
      · rw [if_pos (by omega)] at hk
        rw [show (17 : Int32) = nI 17 from rfl]
        refine p_M_emit hm hst (by omega) (wd_code (by omega) (by omega)) (by omega) (fun J' g' hm' => ?_)
        simp only [rnB] at hk
        exact hk _ _ _ _ hm'.1
      · have q3 := q3 (by omega)
        rw [if_neg (by omega)] at hk
        obtain ⟨hp16, hnp⟩ := hnb p (by omega)
        rw [nI_clamp (by omega), hnp]
        refine ⟨vp_in_nI (by omega) (by decide), ?_⟩
        have walk : ∀ (m' j : Nat), j + m' = tab.length → wp_M_codes_l43 post (wp_M_codes_l24 post nb m) nb (m' + 1) J g many start (nI N) (nI (tab.length + 1)) (nI p) (nI (scn v N p tab j).1) (nI (scn v N p tab j).2) (nI (j + 1)) := by
          intro m'
          induction m' with
          | zero =>
            intro j hj
            have : j = tab.length := by omega
            subst this
            unfold wp_M_codes_l43
            obtain ⟨_, m2, m3, m4⟩ := scn_in (tab := tab) (N := N) (p := p) (by omega) hp16 tab.length
            generalize scn v N p tab tab.length = q at *
            simp only [rnB] at hk
            refine br_t (nI_le (by omega) (by omega)) (p_M_emit hm hst (by omega) (wd_code (by omega) (by omega)) (by omega) (fun J' g' hm' => ⟨vp_in_nI (by omega) (by decide), vp_in_nI (by omega) (by decide), ?_⟩))
            have hok := hst.em (c := q.1) (wd_code (k := tab.length + 1) (by omega) (by omega)) (wdN_le _).2
            have hlen := emS_len st q.1 (wdN (tab.length + 1))
            generalize emS st q.1 (wdN (tab.length + 1)) = st' at *
            rw [nI_1, nI_add, nI_clamp (n := tab.length + 1) (by omega)]
            have hta' := hta.snoc (x := p) (z := q.2)
            rw [Nat.zero_add] at hta'
            have htb' : ∀ j, j < (tab ++ [(p, q.2)]).length → tbS (tab ++ [(p, q.2)]) j < p + q.2 ∧ tbZ (tab ++ [(p, q.2)]) j ≤ N := by
              intro j hj
              rw [List.length_append, List.length_singleton] at hj
              by_cases e : j = tab.length
              · subst e
                rw [tbS_new, tbZ_new]
                exact ⟨by show p < _; omega, by show q.2 ≤ _; omega⟩
              · rw [tbS_old (by omega), tbZ_old (by omega)]
                have := htb j (by omega)
                exact ⟨by omega, this.2⟩
            have go : ¬ (tab.length + 2 = 110 ∧ p + q.2 < N) → wp_M_codes_l24 post nb m J' g' (upd many (tab.length + 1) (nI q.2)) (upd start (tab.length + 1) (nI p)) (nI N) (nI (tab.length + 1 + 1)) (nI (p + q.2)) := by
              intro w
              rw [if_neg w] at hk
              have := ih (p + q.2) (tab ++ [(p, q.2)]) st' J' g' (upd many (tab.length + 1) (nI q.2)) (upd start (tab.length + 1) (nI p)) (by omega) m2 (by rw [List.length_append, List.length_singleton]; omega) (by rw [List.length_append, List.length_singleton]; omega) hok htb' hta' hm' (by rw [List.length_append, List.length_singleton]; omega) hk
              rw [List.length_append, List.length_singleton] at this
              exact this
            unfold wp_M_codes_b159
            refine pk_eq (tab.length + 1 + 1) 110 (fun y => pk_le N (p + q.2) (fun y2 => go (by omega)) (fun y2 => ?_)) (fun y => go (by omega))
            rw [if_pos (by omega)] at hk
            simp only [rnB] at hk
            rw [show tab.length + 1 + 1 = 110 by omega, show (16 : Int32) = nI 16 from rfl]
            refine p_M_emit hm' hok (by omega) (wd_code (by omega) (by omega)) (by omega) (fun J2 g2 hm2 => ?_)
            have hok2 := hok.em (c := 16) (wd_code (k := 110) (by omega) (by omega)) (wdN_le _).2
            have hlen2 := emS_len st' 16 (wdN 110)
            exact ih (p + q.2) [] _ J2 g2 _ _ (by omega) m2 (by simp) (by simp) hok2 (fun j hj => absurd hj (by simp)) (tbA.nil _ _ _ _) hm2 (by simp only [List.length_nil]; omega) hk
          | succ m' ihw =>
            intro j hj
            unfold wp_M_codes_l43
            have nx := ihw (j + 1) (by omega)
            simp only [scn] at nx
            obtain ⟨t1, t2⟩ := htb j (by omega)
            obtain ⟨a1, a2⟩ := hta j (by omega) (by omega)
            rw [Nat.zero_add] at a1
            obtain ⟨_, m2, m3, m4⟩ := scn_in (tab := tab) (N := N) (p := p) (by omega) hp16 j
            rw [nI_clamp (n := j + 1) (by omega), a1, a2, nI_1 (tbZ tab j), nI_add p (tbZ tab j + 1)]
            unfold wp_M_codes_b103
            have no : ¬ ((scn v N p tab j).2 < tbZ tab j + 1 ∧ p + (tbZ tab j + 1) ≤ N ∧ sm v (tbS tab j) p (tbZ tab j + 1)) → wp_M_codes_l43 post (wp_M_codes_l24 post nb m) nb (m' + 1) J g many start (nI N) (nI (tab.length + 1)) (nI p) (nI (scn v N p tab j).1) (nI (scn v N p tab j).2) (nI (j + 1) + 1) := by
              intro w
              rw [if_neg w] at nx
              rw [nI_1]
              exact nx
            refine br_f (nI_ge (by omega) (by omega)) ⟨vp_in_nI (by omega) (by decide), pk_le (tbZ tab j + 1) (scn v N p tab j).2 (fun y => no (by omega)) (fun y => pk_lt N (p + (tbZ tab j + 1)) (fun y2 => no (by omega)) (fun y2 => ⟨vp_in_nI (by omega) (by decide), ?_⟩))⟩
            refine p_same hN hnb t1 (by omega) (fun w => br_f (by decide) ?_) (fun w => br_t rfl (no (fun x => w x.2.2)))
            rw [if_pos ⟨by omega, by omega, w⟩] at nx
            rw [nI_1, show (17 : Int32) = nI 17 from rfl, nI_add, show 17 + (j + 1) = 18 + j by omega]
            exact nx
        exact ⟨tab.length + 1, walk tab.length 0 (by omega)⟩
  unfold wp_M_codes
  rw [show (16 : Int32) = nI 16 from rfl, show (1 : Int32) = nI 1 from rfl, show (0 : Int32) = nI 0 from rfl, hx.1]
  have hm : emM J0 g0 sz L ([], 0, 0) (upd (upd J 19 (nI (sz + L.length))) 20 (nI 0)) g := by
    refine ⟨?_, rfl, rfl⟩
    rw [fnl_0 rfl, List.append_nil]
    exact hx.frame (fun j h19 h20 => by rw [upd_at, if_neg h20, upd_at, if_neg h19])
  refine p_M_emit hm okS.nil (by decide) (wd_code (k := 1) (by omega) (by omega)) (by simp only [List.length_nil]; omega) (fun J' g' hm' => ?_)
  have hok := okS.nil.em (c := 16) (wd_code (k := 1) (by omega) (by omega)) (wdN_le _).2
  have hlen := emS_len ([], 0, 0) 16 (wdN 1)
  simp only [List.length_nil] at hlen
  exact ⟨N + 1, key (N + 1) 0 [] _ J' g' many start (by omega) (by omega) (by simp) (by simp) hok (fun j hj => absurd hj (by simp)) (tbA.nil _ _ _ _) hm' (by simp only [List.length_nil]; omega) k⟩
