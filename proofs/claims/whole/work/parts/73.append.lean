/-! bytes that are put behind one another -/
theorem v0_900 : vp_in 0 900 := vp900.mpr ⟨by decide, by decide⟩
theorem v0_2000 : vp_in 0 2000 := vp2000.mpr ⟨by decide, by decide⟩
def puL (g : Nat → Int32) (e : Nat) (l : List Nat) : Nat → Int32 := fun j => if e ≤ j ∧ j < e + l.length then nI (l.getD (j - e) 0) else g j
def apL (f : Nat → Int32) (e : Nat) (l : List Nat) : Nat → Int32 := fun j => if e ≤ j ∧ j < e + l.length ∧ j < 900 then nI (l.getD (j - e) 0) else f j
theorem upd_upd (I : Nat → Int32) (k : Nat) (a b : Int32) : upd (upd I k a) k b = upd I k b := by
  funext j
  simp only [upd_at]
  split <;> rfl
theorem puL_nil (g : Nat → Int32) (e : Nat) : puL g e [] = g := by
  funext j
  unfold puL
  rw [if_neg (by simp only [List.length_nil]; omega)]
theorem apL_nil (g : Nat → Int32) (e : Nat) : apL g e [] = g := by
  funext j
  unfold apL
  rw [if_neg (by simp only [List.length_nil]; omega)]
theorem puL_app (g : Nat → Int32) (e : Nat) (l1 l2 : List Nat) : puL (puL g e l1) (e + l1.length) l2 = puL g e (l1 ++ l2) := by
  funext j
  unfold puL
  simp only [List.length_append, List.getD_eq_getElem?_getD]
  by_cases h : e ≤ j ∧ j < e + l1.length
  · rw [if_neg (by omega), if_pos h, if_pos (by omega), List.getElem?_append_left (by omega)]
  · by_cases h2 : e + l1.length ≤ j ∧ j < e + l1.length + l2.length
    · rw [if_pos h2, if_pos (by omega), List.getElem?_append_right (by omega), show j - e - l1.length = j - (e + l1.length) by omega]
    · rw [if_neg h2, if_neg h, if_neg (by omega)]
theorem apL_app (g : Nat → Int32) (e : Nat) (l1 l2 : List Nat) : apL (apL g e l1) (e + l1.length) l2 = apL g e (l1 ++ l2) := by
  funext j
  unfold apL
  simp only [List.length_append, List.getD_eq_getElem?_getD]
  by_cases h : e ≤ j ∧ j < e + l1.length ∧ j < 900
  · rw [if_neg (by omega), if_pos h, if_pos (by omega), List.getElem?_append_left (by omega)]
  · by_cases h2 : e + l1.length ≤ j ∧ j < e + l1.length + l2.length ∧ j < 900
    · rw [if_pos h2, if_pos (by omega), List.getElem?_append_right (by omega), show j - e - l1.length = j - (e + l1.length) by omega]
    · rw [if_neg h2, if_neg h, if_neg (by omega)]
theorem puL_one (g : Nat → Int32) (e v : Nat) : puL g e [v] = upd g e (nI v) := by
  funext j
  unfold puL upd
  simp only [List.length_singleton]
  by_cases h : j = e
  · rw [if_pos (by omega), if_pos h, h, Nat.sub_self]
    rfl
  · rw [if_neg (by omega), if_neg h]
theorem apL_one (g : Nat → Int32) (e v : Nat) : apL g e [v] = if e < 900 then upd g e (nI v) else g := by
  funext j
  unfold apL
  simp only [List.length_singleton]
  by_cases h : e < 900
  · rw [if_pos h]
    unfold upd
    by_cases h2 : j = e
    · rw [if_pos (by omega), if_pos h2, h2, Nat.sub_self]
      rfl
    · rw [if_neg (by omega), if_neg h2]
  · rw [if_neg h, if_neg (by omega)]
theorem puL_low {g : Nat → Int32} {e j : Nat} {l : List Nat} (h : j < e) : puL g e l j = g j := by
  unfold puL
  rw [if_neg (by omega)]
theorem apL_low {g : Nat → Int32} {e j : Nat} {l : List Nat} (h : j < e) : apL g e l j = g j := by
  unfold apL
  rw [if_neg (by omega)]
theorem puL_last {g : Nat → Int32} {e m x : Nat} {l : List Nat} (hl : l.length = m) : puL (upd g (e + m) (nI x)) e l = puL g e (l ++ [x]) := by
  funext j
  unfold puL upd
  simp only [List.length_append, List.length_singleton, List.getD_eq_getElem?_getD]
  by_cases h : e ≤ j ∧ j < e + l.length
  · rw [if_pos h, if_pos (by omega), List.getElem?_append_left (by omega)]
  · rw [if_neg h]
    by_cases h2 : j = e + m
    · rw [if_pos h2, if_pos (by omega), List.getElem?_append_right (by omega), show j - e - l.length = 0 by omega]
      rfl
    · rw [if_neg h2, if_neg (by omega)]
/-- n bytes of a number, the least first -/
def leB : Nat → Nat → List Nat
  | 0, _ => []
  | n + 1, v => v % 256 :: leB n (v / 256)
theorem leB_len (n v : Nat) : (leB n v).length = n := by
  induction n generalizing v with
  | zero => rfl
  | succ n ih => simp only [leB, List.length_cons, ih]
/-- n bytes of a number, as the file's order has them -/
def bN (be : Bool) (n v : Nat) : List Nat := if be = true then (leB n v).reverse else leB n v
theorem bN_len (be : Bool) (n v : Nat) : (bN be n v).length = n := by
  unfold bN
  split
  · rw [List.length_reverse, leB_len]
  · exact leB_len n v
theorem p_M_put {post : (Nat → Int32) → (Nat → Int32) → Prop} {I g : Nat → Int32} {e v : Nat} (he : I 2 = nI e) (hb : e < 2000) (h : post (upd I 2 (nI (e + 1))) (puL g e [v])) : wp_M_put post I g (nI v) := by
  unfold wp_M_put
  rw [puL_one] at h
  rw [he, nI_1, nI_clamp (by omega)]
  exact ⟨vp_in_nI hb (by decide), h⟩
theorem p_St_ap {post : (Nat → Int32) → (Nat → Int32) → Prop} {I f : Nat → Int32} {e v : Nat} (he : I 2 = nI e) (hb : e < 2 ^ 30) (h : post (upd I 2 (nI (e + 1))) (apL f e [v])) : wp_St_append post I f (nI v) := by
  rw [apL_one] at h
  exact p_St_append he hb h
theorem p_M_store {post : (Nat → Int32) → Prop} {I g : Nat → Int32} {a n v : Nat} {be : Bool} (hbe : (g 0 = nI 77) ↔ be = true) (ha : 1 ≤ a) (hn : a + n ≤ 2000) (hv : v < 2 ^ 62) (h : post (puL g a (bN be n v))) : wp_M_store post I g (nI a) (nI n) (lN v) := by
  unfold wp_M_store
  have key : ∀ (m k r : Nat) (f : Nat → Int32), k + m = n → r < 2 ^ 62 → ((f 0 = nI 77) ↔ be = true) → post (if be = true then puL f a (leB m r).reverse else puL f (a + k) (leB m r)) → wp_M_store_l6 post I (m + 1) f (nI a) (nI n) (lN r) (nI k) := by
    intro m
    induction m with
    | zero =>
      intro k r f hk hr hf hp
      unfold wp_M_store_l6
      refine br_t (nI_le (by omega) (by omega)) ?_
      simp only [leB, List.reverse_nil, puL_nil, ite_self] at hp
      exact hp
    | succ m ih =>
      intro k r f hk hr hf hp
      unfold wp_M_store_l6 wp_M_store_b42
      refine br_f (nI_ge (by omega) (by omega)) ⟨v0_2000, ?_⟩
      rw [show (77 : Int32) = nI 77 from rfl, show (256 : Int64) = lN 256 from rfl, pk_lRem (by omega) (by decide) (by decide), lN_i, pk_lDiv (by omega) (by decide) (by decide), nI_1, nI_add, show (1 : Int32) = nI 1 from rfl, pk_sub (by omega), pk_sub (by omega), nI_add]
      refine br_c (fun hc => ⟨vp_in_nI (by omega) (by decide), ?_⟩) (fun hc => ⟨vp_in_nI (by omega) (by decide), ?_⟩)
      · have hb := hf.mp hc
        rw [nI_clamp (by omega)]
        refine ih (k + 1) (r / 256) _ (by omega) (by omega) ?_ ?_
        · rw [upd_at, if_neg (by omega)]; exact hf
        · rw [if_pos hb] at hp ⊢
          rw [show a + n - 1 - k = a + m by omega, puL_last (by rw [List.length_reverse, leB_len])]
          simp only [leB, List.reverse_cons] at hp
          exact hp
      · have hb : ¬ be = true := fun q => hc (hf.mpr q)
        rw [nI_clamp (by omega)]
        refine ih (k + 1) (r / 256) _ (by omega) (by omega) ?_ ?_
        · rw [upd_at, if_neg (by omega)]; exact hf
        · rw [if_neg hb] at hp ⊢
          rw [← puL_one, show a + (k + 1) = a + k + [r % 256].length from rfl, puL_app]
          exact hp
  refine ⟨n + 1, ?_⟩
  refine key n 0 v g (by omega) hv hbe ?_
  unfold bN at h
  by_cases hb : be = true
  · rw [if_pos hb] at h ⊢; exact h
  · rw [if_neg hb] at h ⊢; exact h
theorem p_M_number {post : (Nat → Int32) → (Nat → Int32) → Prop} {I g : Nat → Int32} {e n v : Nat} {be : Bool} (he : I 2 = nI e) (hbe : (g 0 = nI 77) ↔ be = true) (ha : 1 ≤ e) (hn : e + n ≤ 2000) (hv : v < 2 ^ 62) (h : post (upd I 2 (nI (e + n))) (puL g e (bN be n v))) : wp_M_number post I g (nI n) (lN v) := by
  unfold wp_M_number
  rw [he, nI_add]
  exact p_M_store hbe ha hn hv h
theorem p_M_even {post : (Nat → Int32) → (Nat → Int32) → Prop} {I g : Nat → Int32} {e : Nat} (he : I 2 = nI e) (hb : e < 2000) (h : post (upd I 2 (nI (e + e % 2))) (puL g e (List.replicate (e % 2) 0))) : wp_M_even post I g := by
  unfold wp_M_even
  rw [he, show (2 : Int32) = nI 2 from rfl, pk_rem (by omega) (by decide) (by decide), show (1 : Int32) = nI 1 from rfl, nI_eq (by omega) (by decide)]
  refine br_c (fun hc => ?_) (fun hc => ?_)
  · rw [show (0 : Int32) = nI 0 from rfl]
    refine p_M_put he hb ?_
    rw [hc] at h
    exact h
  · have h0 : e % 2 = 0 := by omega
    rw [h0] at h
    have e1 : upd I 2 (nI (e + 0)) = I := by
      funext j
      rw [upd_at]
      split
      · next q => rw [q, he]; rfl
      · rfl
    rw [e1, show List.replicate 0 0 = ([] : List Nat) from rfl, puL_nil] at h
    exact h
theorem p_St_even {post : (Nat → Int32) → (Nat → Int32) → Prop} {I f : Nat → Int32} {e : Nat} (he : I 2 = nI e) (hb : e < 2 ^ 30) (h : post (upd I 2 (nI (e + e % 2))) (apL f e (List.replicate (e % 2) 0))) : wp_St_appendToEven post I f := by
  unfold wp_St_appendToEven
  rw [he, show (2 : Int32) = nI 2 from rfl, pk_rem (by omega) (by decide) (by decide), show (0 : Int32) = nI 0 from rfl, nI_eq (by omega) (by decide)]
  refine br_c (fun hc => ?_) (fun hc => ?_)
  · rw [hc] at h
    have e1 : upd I 2 (nI (e + 0)) = I := by
      funext j
      rw [upd_at]
      split
      · next q => rw [q, he]; rfl
      · rfl
    rw [e1, show List.replicate 0 0 = ([] : List Nat) from rfl, apL_nil] at h
    exact h
  · have h0 : e % 2 = 1 := by omega
    rw [h0] at h
    exact p_St_ap he hb h
theorem sh8 {v : Nat} (h : v < 2 ^ 31) : nI v >>> ((8 : Int32) &&& 31) = nI (v / 256) := pk_shrN h _ 8 (by decide)
theorem a255 {v : Nat} (h : v < 2 ^ 32) : nI v &&& 255 = nI (v % 256) := pk_andN h 8 (by decide)
theorem p_St_short {post : (Nat → Int32) → (Nat → Int32) → Prop} {I f : Nat → Int32} {e v : Nat} {be : Bool} (he : I 2 = nI e) (hb : e < 2 ^ 29) (h1 : 1 ≤ e) (hv : v < 65536) (hbe : (f 0 = nI 77) ↔ be = true) (h : post (upd I 2 (nI (e + 2))) (apL f e (bN be 2 v))) : wp_St_appendShort post I f (nI v) := by
  have e2 : ∀ x y, apL (apL f e [x]) (e + 1) [y] = apL f e [x, y] := fun x y => apL_app f e [x] [y]
  have eI : upd (upd I 2 (nI (e + 1))) 2 (nI (e + 2)) = upd I 2 (nI (e + 2)) := upd_upd _ _ _ _
  unfold wp_St_appendShort wp_St_appendShort_b16
  refine ⟨v0_900, ?_⟩
  rw [show (77 : Int32) = nI 77 from rfl]
  refine br_c (fun hc => ?_) (fun hc => ?_)
  · have hb1 := hbe.mp hc
    refine br_f (by decide) ?_
    unfold wp_St_appendShort_b30 wp_St_appendShort_b50
    rw [sh8 (by omega), a255 (by omega)]
    refine p_St_ap he (by omega) (br_f (by decide) ?_)
    rw [a255 (by omega)]
    refine p_St_ap (e := e + 1) (by rw [upd_at, if_pos rfl]) (by omega) ?_
    rw [e2, eI]
    rw [show [v / 256 % 256, v % 256] = bN be 2 v by rw [bN, if_pos hb1]; rfl]
    exact h
  · have hb1 : ¬ be = true := fun q => hc (hbe.mpr q)
    refine br_t (by decide) ?_
    unfold wp_St_appendShort_b30 wp_St_appendShort_b50
    rw [a255 (by omega)]
    refine p_St_ap he (by omega) (br_t (by decide) ?_)
    rw [sh8 (by omega), a255 (by omega)]
    refine p_St_ap (e := e + 1) (by rw [upd_at, if_pos rfl]) (by omega) ?_
    rw [e2, eI]
    rw [show [v % 256, v / 256 % 256] = bN be 2 v by rw [bN, if_neg hb1]; rfl]
    exact h
theorem shN {v : Nat} (h : v < 2 ^ 31) (k : Nat) (hk : k < 32) : nI v >>> (nI k &&& 31) = nI (v / 2 ^ k) :=
  pk_shrN h _ k ((by decide : ∀ n, n < 32 → ((nI n &&& 31).toBitVec.smod 32).toNat = n) k hk)
/-- the k-th byte of four, as the file's order has them -/
theorem bN4_at {be : Bool} {v k : Nat} (hk : k < 4) : (bN be 4 v).getD k 0 = v / 2 ^ (if be = true then 24 - 8 * k else 8 * k) % 256 := by
  unfold bN
  have h4 : k = 0 ∨ k = 1 ∨ k = 2 ∨ k = 3 := by omega
  by_cases hb : be = true
  · rw [if_pos hb, if_pos hb]
    rcases h4 with rfl | rfl | rfl | rfl <;> simp [leB, Nat.div_div_eq_div_mul]
  · rw [if_neg hb, if_neg hb]
    rcases h4 with rfl | rfl | rfl | rfl <;> simp [leB, Nat.div_div_eq_div_mul]
theorem p_St_long {post : (Nat → Int32) → (Nat → Int32) → Prop} {I f : Nat → Int32} {e v : Nat} {be : Bool} (he : I 2 = nI e) (hb : e < 2 ^ 29) (h1 : 1 ≤ e) (hv : v < 2 ^ 31) (hbe : (f 0 = nI 77) ↔ be = true) (h : post (upd I 2 (nI (e + 4))) (apL f e (bN be 4 v))) : wp_St_appendLong post I f (nI v) := by
  unfold wp_St_appendLong
  have key : ∀ (m k : Nat), k + m = 4 → wp_St_appendLong_l2 post (m + 1) (upd I 2 (nI (e + k))) (apL f e ((bN be 4 v).take k)) (nI v) (nI k) := by
    intro m
    induction m with
    | zero =>
      intro k hk
      unfold wp_St_appendLong_l2
      have hk4 : k = 4 := by omega
      subst hk4
      refine br_t (by decide) ?_
      rw [List.take_of_length_le (by rw [bN_len]; omega)]
      exact h
    | succ m ih =>
      intro k hk
      unfold wp_St_appendLong_l2 wp_St_byteOfLong wp_St_byteOfLong_b25
      refine br_f (nI_ge (a := k) (b := 4) (by omega) (by decide)) ⟨v0_900, ?_⟩
      rw [apL_low (by omega), show (77 : Int32) = nI 77 from rfl, show (24 : Int32) = nI 24 from rfl, show (8 : Int32) = nI 8 from rfl, pk_mul, pk_sub (by omega)]
      have step : ∀ s, s < 32 → (s = if be = true then 24 - 8 * k else 8 * k) → wp_St_append (fun I_p0_14 f_p0_bytes_14 => wp_St_appendLong_l2 post (m + 1) I_p0_14 f_p0_bytes_14 (nI v) (nI k + 1)) (upd I 2 (nI (e + k))) (apL f e ((bN be 4 v).take k)) ((nI v >>> (nI s &&& 31)) &&& 255) := by
        intro s hs es
        rw [shN hv s hs, a255 (Nat.lt_of_le_of_lt (Nat.div_le_self _ _) (by omega))]
        refine p_St_ap (e := e + k) (by rw [upd_at, if_pos rfl]) (by omega) ?_
        rw [upd_upd, nI_1]
        have hl : ((bN be 4 v).take k).length = k := by rw [List.length_take, bN_len]; omega
        have e3 : apL (apL f e ((bN be 4 v).take k)) (e + k) [v / 2 ^ s % 256] = apL f e ((bN be 4 v).take (k + 1)) := by
          have := apL_app f e ((bN be 4 v).take k) [v / 2 ^ s % 256]
          rw [hl] at this
          rw [this]
          have h5 := bN4_at (be := be) (v := v) (k := k) (by omega)
          rw [← es] at h5
          have h6 : (bN be 4 v)[k]? = some (v / 2 ^ s % 256) := by
            have hlt : k < (bN be 4 v).length := by rw [bN_len]; omega
            rw [List.getElem?_eq_getElem hlt]
            rw [List.getD_eq_getElem?_getD, List.getElem?_eq_getElem hlt] at h5
            exact congrArg some h5
          rw [List.take_add_one, h6]
          rfl
        rw [e3]
        exact ih (k + 1) (by omega)
      refine br_c (fun hc => ?_) (fun hc => ?_)
      · exact step (24 - 8 * k) (by omega) (by rw [if_pos (hbe.mp hc)])
      · exact step (8 * k) (by omega) (by rw [if_neg (fun q => hc (hbe.mpr q))])
  refine ⟨5, ?_⟩
  have := key 4 0 rfl
  rw [List.take_zero, apL_nil] at this
  have e1 : upd I 2 (nI (e + 0)) = I := by
    funext j
    rw [upd_at]
    split
    · next q => rw [q, he]; rfl
    · rfl
  rw [e1] at this
  exact this
