/-! load: strips of codes -/
def wdN (k : Nat) : Nat := if k ≤ 13 then 5 else if k ≤ 45 then 6 else 7
theorem wdN_le (k : Nat) : 5 ≤ wdN k ∧ wdN k ≤ 7 := by
  unfold wdN
  split
  · omega
  · split <;> omega
theorem p_codeWidth {post : Int32 → Prop} {k : Nat} (hk : k < 2 ^ 31) (hp : post (nI (wdN k))) : wp_X_codeWidth post (nI k) := by
  unfold wp_X_codeWidth
  unfold wdN at hp
  refine pk_lt 13 k (fun q => pk_lt 45 k (fun q2 => ?_) (fun q2 => ?_)) (fun q => ?_)
  · rw [if_neg (by omega), if_neg (by omega)] at hp; exact hp
  · rw [if_neg (by omega), if_pos (by omega)] at hp; exact hp
  · rw [if_pos (by omega)] at hp; exact hp
theorem p_M_width {post : Int32 → Prop} {k : Nat} (hk : k < 2 ^ 31) (hp : post (nI (wdN k))) : wp_M_width post (nI k) := by
  unfold wp_M_width
  unfold wdN at hp
  refine pk_lt 13 k (fun q => pk_lt 45 k (fun q2 => ?_) (fun q2 => ?_)) (fun q => ?_)
  · rw [if_neg (by omega), if_neg (by omega)] at hp; exact hp
  · rw [if_neg (by omega), if_pos (by omega)] at hp; exact hp
  · rw [if_pos (by omega)] at hp; exact hp
def btA (b : Nat → Nat) (a k : Nat) : Nat := b (a + k / 8) / 2 ^ (7 - k % 8) % 2
def rdB (b : Nat → Nat) (a bit : Nat) : Nat → Nat
  | 0 => 0
  | w + 1 => rdB b a bit w * 2 + btA b a (bit + w)
theorem rdB_lt (b : Nat → Nat) (a bit w : Nat) : rdB b a bit w < 2 ^ w := by
  induction w with
  | zero => simp only [rdB]; omega
  | succ w ih =>
    simp only [rdB]
    have : btA b a (bit + w) < 2 := Nat.mod_lt _ (by decide)
    rw [Nat.pow_succ]
    omega
theorem and1 {v : Nat} (h : v < 2 ^ 32) : nI v &&& 1 = nI (v % 2) := pk_andN h 1 (by decide)
theorem p_readBits {post : Int32 → Prop} {I fb : Nat → Int32} {sz a n bit w : Nat} {b : Nat → Nat} (h : Fb sz b fb) (ha : a + n ≤ sz) (hw : w ≤ 7) (hb : bit + w ≤ 8 * n) (hp : post (nI (rdB b a bit w))) : wp_Nd_readBits post I fb (nI (8 * a + bit)) (nI w) := by
  have h4 := h.2.1
  unfold wp_Nd_readBits
  have key : ∀ (m k : Nat), k + m = w → wp_Nd_readBits_l5 post I fb (m + 1) (nI (8 * a + bit)) (nI w) (nI (rdB b a bit k)) (nI (8 * a + bit + k)) := by
    intro m
    induction m with
    | zero =>
      intro k hk
      have : k = w := by omega
      subst this
      unfold wp_Nd_readBits_l5
      rw [nI_add]
      exact br_t (nI_le (by omega) (by omega)) hp
    | succ m ih =>
      intro k hk
      unfold wp_Nd_readBits_l5
      rw [nI_add, show (8 : Int32) = nI 8 from rfl, pk_rem (by omega) (by decide) (by decide), pk_div (by omega) (by decide) (by decide), show (7 : Int32) = nI 7 from rfl, pk_sub (by omega), nI_clamp (by omega), nI_1]
      refine br_f (nI_ge (by omega) (by omega)) ⟨vp_in_nI (by omega) (by decide), fun v hv => ?_⟩
      obtain ⟨i1, i2⟩ := h.2.2 ((8 * a + bit + k) / 8) (by omega)
      have hlt := rdB_lt b a bit k
      have hpow : 2 ^ k ≤ 2 ^ 7 := Nat.pow_le_pow_right (by decide) (by omega)
      rw [i2, shN (by omega) _ (by omega), and1 (Nat.lt_of_le_of_lt (Nat.div_le_self _ _) (by omega)), show (2 : Int32) = nI 2 from rfl, pk_mul, nI_add] at hv
      subst hv
      have := ih (k + 1) (by omega)
      have e1 : rdB b a bit (k + 1) = rdB b a bit k * 2 + b ((8 * a + bit + k) / 8) / 2 ^ (7 - (8 * a + bit + k) % 8) % 2 := by
        simp only [rdB, btA]
        rw [show (8 * a + bit + k) / 8 = a + (bit + k) / 8 by omega, show (8 * a + bit + k) % 8 = (bit + k) % 8 by omega]
      rw [e1] at this
      exact this
  exact ⟨w + 1, key w 0 (by omega)⟩
theorem p_M_code {post : Int32 → Prop} {J fb : Nat → Int32} {sz a n bit w : Nat} {b : Nat → Nat} (h : Fb sz b fb) (ha : a + n ≤ sz) (hw : w ≤ 7) (hb : bit + w ≤ 8 * n) (hp : post (nI (rdB b a bit w))) : wp_M_code post J fb (nI a) (nI bit) (nI w) := by
  have h4 := h.2.1
  unfold wp_M_code
  have key : ∀ (m k : Nat), k + m = w → wp_M_code_l6 post J fb (m + 1) (nI a) (nI bit) (nI w) (nI (rdB b a bit k)) (nI (bit + k)) := by
    intro m
    induction m with
    | zero =>
      intro k hk
      have : k = w := by omega
      subst this
      unfold wp_M_code_l6
      rw [nI_add]
      exact br_t (nI_le (by omega) (by omega)) hp
    | succ m ih =>
      intro k hk
      unfold wp_M_code_l6
      rw [nI_add bit w, show (8 : Int32) = nI 8 from rfl, pk_rem (by omega) (by decide) (by decide), pk_div (by omega) (by decide) (by decide), nI_add a, show (7 : Int32) = nI 7 from rfl, pk_sub (by omega), nI_clamp (by omega), nI_1]
      refine br_f (nI_ge (by omega) (by omega)) ⟨vp_in_nI (by omega) (by decide), fun v hv => ?_⟩
      obtain ⟨i1, i2⟩ := h.2.2 (a + (bit + k) / 8) (by omega)
      have hlt := rdB_lt b a bit k
      have hpow : 2 ^ k ≤ 2 ^ 7 := Nat.pow_le_pow_right (by decide) (by omega)
      rw [i2, shN (by omega) _ (by omega), and1 (Nat.lt_of_le_of_lt (Nat.div_le_self _ _) (by omega)), show (2 : Int32) = nI 2 from rfl, pk_mul, nI_add] at hv
      subst hv
      have := ih (k + 1) (by omega)
      have e1 : rdB b a bit (k + 1) = 2 * rdB b a bit k + b (a + (bit + k) / 8) / 2 ^ (7 - (bit + k) % 8) % 2 := by
        simp only [rdB, btA]
        rw [Nat.mul_comm]
      rw [e1] at this
      exact this
  exact ⟨w + 1, key w 0 (by omega)⟩
def cpN (s : Nat) (acc : List Nat) : Nat → List Nat
  | 0 => acc
  | k + 1 => cpN s acc k ++ [(cpN s acc k).getD (s + k) 0]
theorem cpN_len (s : Nat) (acc : List Nat) (k : Nat) : (cpN s acc k).length = acc.length + k := by
  induction k with
  | zero => rfl
  | succ k ih => simp only [cpN, List.length_append, ih, List.length_singleton]; omega
theorem getD_lt {l : List Nat} {j m : Nat} (hm : 0 < m) (h : ∀ x ∈ l, x < m) : l.getD j 0 < m := by
  rw [List.getD_eq_getElem?_getD]
  by_cases q : j < l.length
  · rw [List.getElem?_eq_getElem q]
    exact h _ (List.getElem_mem q)
  · rw [List.getElem?_eq_none (by omega)]
    exact hm
theorem cpN_lt {s : Nat} {acc : List Nat} (h : ∀ x ∈ acc, x < 16) : ∀ k, ∀ x ∈ cpN s acc k, x < 16 := by
  intro k
  induction k with
  | zero => exact h
  | succ k ih =>
    intro x hx
    rcases List.mem_append.mp hx with hx | hx
    · exact ih x hx
    · rw [List.mem_singleton.mp hx]
      exact getD_lt (by decide) ih
theorem snoc_lt {l : List Nat} {x m : Nat} (h : ∀ y ∈ l, y < m) (hx : x < m) : ∀ y ∈ l ++ [x], y < m := fun y hy => by
  rcases List.mem_append.mp hy with hy | hy
  · exact h y hy
  · rw [List.mem_singleton.mp hy]; exact hx
def tbS (tab : List (Nat × Nat)) (j : Nat) : Nat := (tab.getD j (0, 0)).1
def tbZ (tab : List (Nat × Nat)) (j : Nat) : Nat := (tab.getD j (0, 0)).2
theorem getP_snoc {l : List (Nat × Nat)} {p : Nat × Nat} {j : Nat} (h : j < l.length + 1) : (l ++ [p]).getD j (0, 0) = if j = l.length then p else l.getD j (0, 0) := by
  simp only [List.getD_eq_getElem?_getD]
  by_cases hj : j = l.length
  · rw [if_pos hj, hj, List.getElem?_append_right (Nat.le_refl _), Nat.sub_self]
    rfl
  · rw [if_neg hj, List.getElem?_append_left (by omega)]
def dNb (b : Nat → Nat) (a n want : Nat) : Nat → Nat → List Nat → List (Nat × Nat) → Option (List Nat)
  | 0, _, _, _ => none
  | m + 1, bit, acc, tab =>
    if 8 * n < bit + wdN (tab.length + 1) then none
    else if rdB b a bit (wdN (tab.length + 1)) = 17 then (if acc.length = want then some acc else none)
    else if rdB b a bit (wdN (tab.length + 1)) = 16 then dNb b a n want m (bit + wdN (tab.length + 1)) acc []
    else if rdB b a bit (wdN (tab.length + 1)) < 16 then (if acc.length + 1 ≤ want then dNb b a n want m (bit + wdN (tab.length + 1)) (acc ++ [rdB b a bit (wdN (tab.length + 1))]) (tab ++ [(acc.length, 1)]) else none)
    else if rdB b a bit (wdN (tab.length + 1)) - 17 ≤ tab.length ∧ rdB b a bit (wdN (tab.length + 1)) ≤ 126 then (if acc.length + (tbZ tab (rdB b a bit (wdN (tab.length + 1)) - 18) + 1) ≤ want then dNb b a n want m (bit + wdN (tab.length + 1)) (cpN (tbS tab (rdB b a bit (wdN (tab.length + 1)) - 18)) acc (tbZ tab (rdB b a bit (wdN (tab.length + 1)) - 18) + 1)) (tab ++ [(acc.length, tbZ tab (rdB b a bit (wdN (tab.length + 1)) - 18) + 1)]) else none)
    else none
theorem dNb_ok {b : Nat → Nat} {a n want : Nat} : ∀ (m bit : Nat) (acc : List Nat) (tab : List (Nat × Nat)) (l : List Nat), (∀ x ∈ acc, x < 16) → dNb b a n want m bit acc tab = some l → l.length = want ∧ ∀ x ∈ l, x < 16 := by
  intro m
  induction m with
  | zero => intro bit acc tab l _ h; cases h
  | succ m ih =>
    intro bit acc tab l ha h
    unfold dNb at h
    split at h
    · cases h
    · split at h
      · split at h
        · next q => cases h; exact ⟨q, ha⟩
        · cases h
      · split at h
        · exact ih _ _ _ _ ha h
        · split at h
          · next q =>
            split at h
            · exact ih _ _ _ _ (snoc_lt ha q) h
            · cases h
          · split at h
            · split at h
              · exact ih _ _ _ _ (cpN_lt ha _) h
              · cases h
            · cases h
/-- what holds of the table -/
def tbK (acc : List Nat) (tab : List (Nat × Nat)) : Prop := ∀ j, j < tab.length → tbS tab j + tbZ tab j ≤ acc.length ∧ 1 ≤ tbZ tab j
theorem tbK.nil (acc : List Nat) : tbK acc [] := fun j hj => absurd hj (by simp)
theorem tbK.snoc {acc acc' : List Nat} {tab : List (Nat × Nat)} {z : Nat} (h : tbK acc tab) (hz : 1 ≤ z) (hl : acc'.length = acc.length + z) : tbK acc' (tab ++ [(acc.length, z)]) := by
  intro j hj
  rw [List.length_append, List.length_singleton] at hj
  unfold tbS tbZ
  rw [getP_snoc hj]
  by_cases q : j = tab.length
  · rw [if_pos q]; simp only; omega
  · rw [if_neg q]
    have := h j (by omega)
    unfold tbS tbZ at this
    omega
/-- the rows of the table, as arrays from 1 on; the first cap of them -/
def tbA (cap fr : Nat) (tab : List (Nat × Nat)) (st zs : Nat → Int32) : Prop := ∀ j, j < tab.length → j < cap → st (j + 1) = nI (fr + tbS tab j) ∧ zs (j + 1) = nI (tbZ tab j)
theorem tbA.nil (cap fr : Nat) (st zs : Nat → Int32) : tbA cap fr [] st zs := fun j hj => absurd hj (by simp)
theorem tbA.snoc {cap fr x z : Nat} {tab : List (Nat × Nat)} {st zs : Nat → Int32} (h : tbA cap fr tab st zs) : tbA cap fr (tab ++ [(x, z)]) (upd st (tab.length + 1) (nI (fr + x))) (upd zs (tab.length + 1) (nI z)) := by
  intro j hj hc
  rw [List.length_append, List.length_singleton] at hj
  unfold tbS tbZ
  rw [getP_snoc hj, upd_at, upd_at]
  by_cases q : j = tab.length
  · rw [if_pos (by omega), if_pos (by omega), if_pos (by omega)]; exact ⟨rfl, rfl⟩
  · rw [if_neg (by omega), if_neg (by omega), if_neg (by omega)]
    exact h j (by omega) hc
theorem tbA.full {cap fr x z : Nat} {tab : List (Nat × Nat)} {st zs : Nat → Int32} (h : tbA cap fr tab st zs) (hf : cap ≤ tab.length) : tbA cap fr (tab ++ [(x, z)]) st zs := by
  intro j hj hc
  unfold tbS tbZ
  rw [List.length_append, List.length_singleton] at hj
  rw [getP_snoc hj, if_neg (by omega)]
  exact h j (by omega) hc
/-- nibbles in the class's bytes -/
def nX (f f' : Nat → Int32) (fr : Nat) (acc : List Nat) : Prop := (∀ i, i < acc.length → ∃ x : Nat, x < 256 ∧ f' (fr + i / 2) = nI x ∧ (if i % 2 = 0 then x / 16 else x % 16) = acc.getD i 0) ∧ ∀ j, j < fr → f' j = f j
theorem or16 : ∀ v, v < 16 → ∀ j, j < 16 → nI (v * 16) ||| nI j = nI (v * 16 + j) := by decide +kernel
theorem and240 : ∀ x, x < 256 → nI x &&& 240 = nI (x / 16 * 16) := by decide +kernel
theorem p_Da_nibble {post : Int32 → Prop} {f f' : Nat → Int32} {fr i : Nat} {acc : List Nat} (h : nX f f' fr acc) (hi : i < acc.length) (hl : 2 * fr + acc.length ≤ 512) (hp : post (nI (acc.getD i 0))) : wp_Da_nibble post f' (nI (2 * fr + i)) := by
  unfold wp_Da_nibble
  rw [show (2 : Int32) = nI 2 from rfl, pk_rem (by omega) (by decide) (by decide), pk_div (by omega) (by decide) (by decide), nI_clamp (by omega), show (2 * fr + i) / 2 = fr + i / 2 by omega]
  obtain ⟨x, hx, e1, e2⟩ := h.1 i hi
  rw [e1]
  refine ⟨vp_in_nI (by omega) (by decide), pk_eq ((2 * fr + i) % 2) 0 (fun q => ?_) (fun q => ?_)⟩
  · rw [if_pos (by omega)] at e2
    rw [show nI x >>> ((4 : Int32) &&& 31) = nI (x / 2 ^ 4) from pk_shrN (by omega) _ 4 (by decide), show x / 2 ^ 4 = x / 16 from rfl, e2]
    exact hp
  · rw [if_neg (by omega)] at e2
    rw [show nI x &&& 15 = nI (x % 2 ^ 4) from pk_andN (by omega) 4 (by decide), show x % 2 ^ 4 = x % 16 from rfl, e2]
    exact hp
theorem p_Da_put {post : (Nat → Int32) → Prop} {f f' : Nat → Int32} {fr v : Nat} {acc : List Nat} (h : nX f f' fr acc) (hv : v < 16) (hl : 2 * fr + acc.length < 512) (hp : ∀ f'', nX f f'' fr (acc ++ [v]) → post f'') : wp_Da_putNibble post f' (nI (2 * fr + acc.length)) (nI v) := by
  unfold wp_Da_putNibble
  rw [show (2 : Int32) = nI 2 from rfl, pk_rem (by omega) (by decide) (by decide), pk_div (by omega) (by decide) (by decide), nI_clamp (by omega), show (2 * fr + acc.length) / 2 = fr + acc.length / 2 by omega]
  have v1 : vp_in (nI (fr + acc.length / 2)) 256 := vp_in_nI (by omega) (by decide)
  refine ⟨v1, pk_eq ((2 * fr + acc.length) % 2) 0 (fun q => ⟨v1, hp _ ⟨fun i hi => ?_, fun j hj => ?_⟩⟩) (fun q => ⟨v1, hp _ ⟨fun i hi => ?_, fun j hj => ?_⟩⟩)⟩
  · obtain ⟨o, ho, eo⟩ := pk_andE (f' (fr + acc.length / 2)) (m := 15) 4 (by decide)
    rw [eo, show nI v <<< ((4 : Int32) &&& 31) = nI (v * 2 ^ 4) from pk_shlN _ 4 (by decide) (by omega), show v * 2 ^ 4 = v * 16 from rfl, or16 v hv o ho]
    rw [List.length_append, List.length_singleton] at hi
    rw [getD_snoc hi, upd_at]
    by_cases y : i = acc.length
    · refine ⟨v * 16 + o, by omega, by rw [if_pos (by omega)], ?_⟩
      rw [if_pos (by omega), if_pos y]
      omega
    · obtain ⟨x, hx, e1, e2⟩ := h.1 i (by omega)
      refine ⟨x, hx, by rw [if_neg (by omega)]; exact e1, ?_⟩
      rw [if_neg y]; exact e2
  · rw [upd_at, if_neg (by omega)]; exact h.2 j hj
  · rw [List.length_append, List.length_singleton] at hi
    obtain ⟨x0, hx0, e10, e20⟩ := h.1 (acc.length - 1) (by omega)
    rw [show fr + (acc.length - 1) / 2 = fr + acc.length / 2 by omega] at e10
    rw [if_pos (by omega)] at e20
    rw [e10, and240 x0 hx0, or16 (x0 / 16) (by omega) v hv, getD_snoc hi, upd_at]
    by_cases y : i = acc.length
    · refine ⟨x0 / 16 * 16 + v, by omega, by rw [if_pos (by omega)], ?_⟩
      rw [if_neg (by omega), if_pos y]
      omega
    · rw [if_neg y]
      by_cases y2 : i = acc.length - 1
      · refine ⟨x0 / 16 * 16 + v, by omega, by rw [if_pos (by omega)], ?_⟩
        rw [if_pos (by omega), y2, ← e20]
        omega
      · obtain ⟨x, hx, e1, e2⟩ := h.1 i (by omega)
        exact ⟨x, hx, by rw [if_neg (by omega)]; exact e1, e2⟩
  · rw [upd_at, if_neg (by omega)]; exact h.2 j hj
theorem p_copyRow {post : (Nat → Int32) → Prop} {I st f f' : Nat → Int32} {fr c s z : Nat} {acc : List Nat} (h : nX f f' fr acc) (h16 : ∀ x ∈ acc, x < 16) (hc : 18 ≤ c) (hc2 : c ≤ 126) (hs : st (c - 17) = nI (2 * fr + s)) (hsl : s < acc.length) (hl : 2 * fr + acc.length + z ≤ 512) (hp : ∀ f'', nX f f'' fr (cpN s acc z) → post f'') : wp_Nd_copyRow post I st f' (nI c) (nI (2 * fr + acc.length)) (nI z) := by
  unfold wp_Nd_copyRow
  rw [show (17 : Int32) = nI 17 from rfl, pk_sub (by omega), nI_clamp (by omega), hs]
  refine br_t (nI_le (a := 16) (by omega) (by omega)) ⟨vp_in_nI (by omega) (by decide), ?_⟩
  have key : ∀ (m k : Nat) (f'' : Nat → Int32), k + m = z → nX f f'' fr (cpN s acc k) → wp_Nd_copyRow_l27 post I st (m + 1) f'' (nI (2 * fr + acc.length)) (nI z) (nI (2 * fr + s)) (nI k) := by
    intro m
    induction m with
    | zero =>
      intro k f'' hk hn
      unfold wp_Nd_copyRow_l27
      have : k = z := by omega
      subst this
      exact br_t (nI_le (by omega) (by omega)) (hp _ hn)
    | succ m ih =>
      intro k f'' hk hn
      unfold wp_Nd_copyRow_l27
      rw [nI_add, nI_add, nI_1, show 2 * fr + s + k = 2 * fr + (s + k) by omega, show 2 * fr + acc.length + k = 2 * fr + (cpN s acc k).length by rw [cpN_len]; omega]
      refine br_f (nI_ge (by omega) (by omega)) (p_Da_nibble hn (by rw [cpN_len]; omega) (by rw [cpN_len]; omega) ?_)
      exact p_Da_put hn (getD_lt (by decide) (cpN_lt h16 k)) (by rw [cpN_len]; omega) (fun f3 h3 => ih (k + 1) f3 (by omega) h3)
  exact ⟨z + 1, key z 0 f' (by omega) h⟩
/-- bytes of nibbles -/
def byN (acc : List Nat) : Nat → List Nat
  | 0 => []
  | q + 1 => byN acc q ++ [16 * acc.getD (2 * q) 0 + acc.getD (2 * q + 1) 0]
theorem byN_len (acc : List Nat) (q : Nat) : (byN acc q).length = q := by
  induction q with
  | zero => rfl
  | succ q ih => simp only [byN, List.length_append, ih, List.length_singleton]
theorem byN_at (acc : List Nat) (q j : Nat) (h : j < q) : (byN acc q).getD j 0 = 16 * acc.getD (2 * j) 0 + acc.getD (2 * j + 1) 0 := by
  induction q with
  | zero => omega
  | succ q ih =>
    simp only [byN]
    rw [getD_snoc (by rw [byN_len]; omega), byN_len]
    by_cases y : j = q
    · rw [if_pos y, y]
    · rw [if_neg y]; exact ih (by omega)
theorem byN_lt {acc : List Nat} (h : ∀ x ∈ acc, x < 16) (q : Nat) : ∀ x ∈ byN acc q, x < 256 := by
  induction q with
  | zero => intro x hx; cases hx
  | succ q ih =>
    refine snoc_lt ih ?_
    have h1 := getD_lt (l := acc) (j := 2 * q) (by decide) h
    have h2 := getD_lt (l := acc) (j := 2 * q + 1) (by decide) h
    omega
theorem nX.bytes {f f' : Nat → Int32} {fr q : Nat} {acc : List Nat} (h : nX f f' fr acc) (hl : acc.length = 2 * q) : gX f f' fr (byN acc q) := by
  refine ⟨fun j hj => ?_, h.2⟩
  rw [byN_len] at hj
  rw [byN_at _ _ _ hj]
  obtain ⟨x, hx, e1, e2⟩ := h.1 (2 * j) (by omega)
  obtain ⟨y, hy, e3, e4⟩ := h.1 (2 * j + 1) (by omega)
  rw [show fr + 2 * j / 2 = fr + j by omega] at e1
  rw [show fr + (2 * j + 1) / 2 = fr + j by omega] at e3
  have : x = y := (nI_eq (by omega) (by omega)).mp (e1.symm.trans e3)
  subst this
  rw [if_pos (by omega)] at e2
  rw [if_neg (by omega)] at e4
  rw [e1, ← e2, ← e4]
  congr 1
  omega
def dCd (b : Nat → Nat) (a n want : Nat) : Option (List Nat) := (dNb b a n (2 * want) (8 * n + 1) 0 [] []).map (fun acc => byN acc want)
theorem p_Nd_decode {post : Int32 → (Nat → Int32) → (Nat → Int32) → (Nat → Int32) → (Nat → Int32) → Prop} {I fb D zs st f : Nat → Int32} {sz a n fr want : Nat} {b : Nat → Nat} (h : Fb sz b fb) (ha : a + n ≤ sz) (hw : fr + want ≤ 256) (h1 : ∀ l f', dCd b a n want = some l → gX f f' fr l → ∀ D' zs' st' : Nat → Int32, post 1 D' zs' st' f') (h0 : dCd b a n want = none → ∀ f' D' zs' st' : Nat → Int32, post 0 D' zs' st' f') : wp_Nd_decode post I fb D zs st f (nI a) (nI (a + n)) (nI fr) (nI (fr + want)) := by
  have h4 := h.2.1
  unfold wp_Nd_decode
  have key : ∀ (m bit cds : Nat) (acc : List Nat) (tab : List (Nat × Nat)) (D zs st f' : Nat → Int32), 8 * n < bit + m → bit ≤ 8 * n → 5 * cds ≤ bit → tab.length ≤ cds → acc.length ≤ 2 * want → (∀ x ∈ acc, x < 16) → nX f f' fr acc → tbK acc tab → tbA 109 (2 * fr) tab st zs → D 2 = nI tab.length → (∀ l, dNb b a n (2 * want) m bit acc tab = some l → dCd b a n want = some (byN l want)) → (dNb b a n (2 * want) m bit acc tab = none → dCd b a n want = none) → wp_Nd_decode_l26 post I fb m D zs st f' (nI a) (nI (a + n)) (nI (fr + want)) (nI (2 * fr + acc.length)) (nI (8 * a + bit)) (nI (wdN (tab.length + 1))) (nI cds) := by
    intro m
    induction m with
    | zero => intro bit cds acc tab D zs st f' q1 q2; omega
    | succ m ih =>
      intro bit cds acc tab D zs st f' q1 q2 q3 q4 q5 q6 hx hk hA hD k1 k0
      unfold wp_Nd_decode_l26
      have hwd := wdN_le (tab.length + 1)
      unfold dNb at k1 k0
      rw [pk_sub (by omega), show (8 : Int32) = nI 8 from rfl, pk_mul, pk_mul, nI_add, show (2 : Int32) = nI 2 from rfl, pk_mul]
      refine pk_le (8 * (a + n - a)) cds (fun z => ?_) (fun z => pk_lt (8 * (a + n)) (8 * a + bit + wdN (tab.length + 1)) (fun z2 => ?_) (fun z2 => ?_))
      · rw [if_pos (by omega)] at k0
        exact h0 (k0 rfl) _ _ _ _
      · rw [if_pos (by omega)] at k0
        exact h0 (k0 rfl) _ _ _ _
      rw [if_neg (by omega)] at k1 k0
      refine p_readBits (n := n) h ha hwd.2 (by omega) ?_
      have hc := rdB_lt b a bit (wdN (tab.length + 1))
      have hp7 : 2 ^ wdN (tab.length + 1) ≤ 2 ^ 7 := Nat.pow_le_pow_right (by decide) hwd.2
      generalize rdB b a bit (wdN (tab.length + 1)) = c at k1 k0 hc ⊢
      have next : ∀ (acc' : List Nat) (tab' : List (Nat × Nat)) (D' zs' st' f'' : Nat → Int32), tab'.length ≤ cds + 1 → acc'.length ≤ 2 * want → (∀ x ∈ acc', x < 16) → nX f f'' fr acc' → tbK acc' tab' → tbA 109 (2 * fr) tab' st' zs' → D' 2 = nI tab'.length → (∀ l, dNb b a n (2 * want) m (bit + wdN (tab.length + 1)) acc' tab' = some l → dCd b a n want = some (byN l want)) → (dNb b a n (2 * want) m (bit + wdN (tab.length + 1)) acc' tab' = none → dCd b a n want = none) → wp_Nd_decode_b157 post (wp_Nd_decode_l26 post I fb m) I fb D' zs' st' f'' (nI a) (nI (a + n)) (nI (fr + want)) (nI (2 * fr + acc'.length)) (nI (8 * a + bit + wdN (tab.length + 1))) (nI cds) := by
        intro acc' tab' D' zs' st' f'' y1 y2 y3 y4 y5 y6 y7 y8 y9
        unfold wp_Nd_decode_b157
        rw [y7, nI_1, nI_1, show 8 * a + bit + wdN (tab.length + 1) = 8 * a + (bit + wdN (tab.length + 1)) by omega]
        exact p_codeWidth (by omega) (ih _ _ _ _ _ _ _ _ (by omega) (by omega) (by omega) y1 y2 y3 y4 y5 y6 y7 y8 y9)
      refine pk_eq c 17 (fun z3 => pk_eq (2 * fr + acc.length) (2 * (fr + want)) (fun z4 => ?_) (fun z4 => ?_)) (fun z3 => pk_eq c 16 (fun z4 => ?_) (fun z4 => ?_))
      · rw [if_pos z3, if_pos (by omega)] at k1
        exact h1 _ _ (k1 _ rfl) (hx.bytes (by omega)) _ _ _
      · rw [if_pos z3, if_neg (by omega)] at k0
        exact h0 (k0 rfl) _ _ _ _
      · rw [if_neg z3, if_pos z4] at k1 k0
        exact next acc [] _ _ _ _ (Nat.zero_le _) q5 q6 hx (tbK.nil _) (tbA.nil _ _ _ _) rfl k1 k0
      rw [if_neg z3, if_neg z4] at k1 k0
      -- noting a code
      have note : ∀ (z : Nat) (acc' : List Nat) (f'' : Nat → Int32), 1 ≤ z → acc'.length = acc.length + z → acc'.length ≤ 2 * want → (∀ x ∈ acc', x < 16) → nX f f'' fr acc' → (∀ l, dNb b a n (2 * want) m (bit + wdN (tab.length + 1)) acc' (tab ++ [(acc.length, z)]) = some l → dCd b a n want = some (byN l want)) → (dNb b a n (2 * want) m (bit + wdN (tab.length + 1)) acc' (tab ++ [(acc.length, z)]) = none → dCd b a n want = none) → wp_Nd_noteCode (fun I1 z1 s1 => wp_Nd_decode_b157 post (wp_Nd_decode_l26 post I fb m) I fb I1 z1 s1 f'' (nI a) (nI (a + n)) (nI (fr + want)) (nI (2 * fr + acc.length) + nI z) (nI (8 * a + bit + wdN (tab.length + 1))) (nI cds)) D zs st (nI (2 * fr + acc.length)) (nI z) := by
        intro z acc' f'' y1 y2 y3 y4 y5 y6 y7
        have el : (tab ++ [(acc.length, z)]).length = tab.length + 1 := by simp
        unfold wp_Nd_noteCode
        rw [hD, nI_1, nI_clamp (by omega), nI_add, show 2 * fr + acc.length + z = 2 * fr + acc'.length by omega]
        refine pk_lt 109 (tab.length + 1) (fun y8 => ?_) (fun y8 => ⟨vp_in_nI (by omega) (by decide), vp_in_nI (by omega) (by decide), ?_⟩)
        · exact next acc' (tab ++ [(acc.length, z)]) _ _ _ _ (by rw [el]; omega) y3 y4 y5 (hk.snoc y1 y2) (hA.full (by omega)) (by rw [el]; rfl) y6 y7
        · exact next acc' (tab ++ [(acc.length, z)]) _ _ _ _ (by rw [el]; omega) y3 y4 y5 (hk.snoc y1 y2) hA.snoc (by rw [el]; rfl) y6 y7
      unfold wp_Nd_rowSize wp_Nd_rowSize_b24 wp_Nd_rowSize_b25 wp_Nd_rowSize_b54
      rw [pk_sub (a := 2 * (fr + want)) (by omega)]
      refine pk_le 16 c (fun z5 => pk_lt c 18 (fun z6 => absurd z6 (by omega)) (fun z6 => pk_lt 126 c (fun z7 => br_t rfl (br_t rfl ?_)) (fun z7 => br_f (by decide) ?_))) (fun z5 => br_f (by decide) ?_)
      · rw [if_neg (by omega), if_neg (by omega)] at k0
        exact h0 (k0 rfl) _ _ _ _
      · rw [if_neg (by omega)] at k1 k0
        rw [hD, show (17 : Int32) = nI 17 from rfl, pk_sub (by omega), nI_clamp (by omega)]
        refine pk_lt tab.length (c - 17) (fun z8 => br_t rfl ?_) (fun z8 => ⟨vp_in_nI (by omega) (by decide), ?_⟩)
        · rw [if_neg (by omega)] at k0
          exact h0 (k0 rfl) _ _ _ _
        rw [if_pos (by omega)] at k1 k0
        obtain ⟨t1, t2⟩ := hA (c - 18) (by omega) (by omega)
        obtain ⟨t3, t4⟩ := hk (c - 18) (by omega)
        rw [show c - 18 + 1 = c - 17 by omega] at t1 t2
        rw [t2, nI_1]
        refine br_f (nI_ne0 (by omega) (by omega)) (pk_le (tbZ tab (c - 18) + 1) (2 * (fr + want) - (2 * fr + acc.length)) (fun z9 => ?_) (fun z9 => ?_))
        · rw [if_pos (by omega)] at k1 k0
          refine p_copyRow hx q6 (by omega) (by omega) t1 (by omega) (by omega) (fun f'' hn => ?_)
          exact note (tbZ tab (c - 18) + 1) _ f'' (by omega) (by rw [cpN_len]) (by rw [cpN_len]; omega) (cpN_lt q6 _) hn k1 k0
        · rw [if_neg (by omega)] at k0
          exact h0 (k0 rfl) _ _ _ _
      · rw [if_pos (by omega)] at k1 k0
        refine pk_le 1 (2 * (fr + want) - (2 * fr + acc.length)) (fun z9 => ?_) (fun z9 => ?_)
        · rw [if_pos (by omega)] at k1 k0
          unfold wp_Nd_copyRow
          refine br_f (nI_ge (b := 16) (by omega) (by decide)) (p_Da_put hx (by omega) (by omega) (fun f'' hn => ?_))
          exact note 1 _ f'' (by omega) (by simp) (by simp; omega) (snoc_lt q6 (by omega)) hn k1 k0
        · rw [if_neg (by omega)] at k0
          exact h0 (k0 rfl) _ _ _ _
  rw [show (1 : Int32) = nI 1 from rfl]
  refine p_codeWidth (by decide) ⟨8 * n + 1, ?_⟩
  rw [show (8 : Int32) = nI 8 from rfl, show (2 : Int32) = nI 2 from rfl, pk_mul, pk_mul]
  refine key (8 * n + 1) 0 0 [] [] _ _ _ f (by omega) (by omega) (by omega) (Nat.le_refl _) (Nat.zero_le _) (fun x hx => absurd hx List.not_mem_nil) ⟨fun i hi => absurd hi (by simp), fun _ _ => rfl⟩ (tbK.nil _) (tbA.nil _ _ _ _) rfl (fun l e => ?_) (fun e => ?_)
  · unfold dCd; rw [e]; rfl
  · unfold dCd; rw [e]; rfl
