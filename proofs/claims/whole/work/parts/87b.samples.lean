/-! load: the samples -/
def rwS (D : List Nat) (cs dp y x : Nat) : Nat := D.getD (y * rbN cs dp + x * dp / 8) 0 / 2 ^ (8 - dp - x * dp % 8)
def smS (D : List Nat) (cs dp pr y : Nat) : Nat → Nat
  | 0 => rwS D cs dp y 0 % 2 ^ dp
  | x + 1 => (if pr = 2 then rwS D cs dp y (x + 1) + smS D cs dp pr y x else rwS D cs dp y (x + 1)) % 2 ^ dp
theorem smS_lt (D : List Nat) (cs dp pr y x : Nat) : smS D cs dp pr y x < 2 ^ dp := by
  cases x <;> exact Nat.mod_lt _ (Nat.two_pow_pos dp)
theorem geoS {cs dp x : Nat} (hd : dpO dp) (hc : cs ≤ 16) (hx : x < cs) : x * dp / 8 < rbN cs dp ∧ x * dp % 8 + dp ≤ 8 ∧ x * dp < 128 ∧ 1 ≤ dp ∧ dp ≤ 8 := by
  unfold rbN
  rcases hd with rfl | rfl | rfl | rfl <;> omega
theorem getD_app {l1 l2 : List Nat} {j : Nat} (h : j < l1.length) : (l1 ++ l2).getD j 0 = l1.getD j 0 := by
  simp only [List.getD_eq_getElem?_getD]
  rw [List.getElem?_append_left h]
theorem getD_app2 {l1 l2 : List Nat} {j : Nat} : (l1 ++ l2).getD (l1.length + j) 0 = l2.getD j 0 := by
  simp only [List.getD_eq_getElem?_getD]
  rw [List.getElem?_append_right (by omega), show l1.length + j - l1.length = j by omega]
theorem smS_app {D l : List Nat} {cs dp pr y x : Nat} (hd : dpO dp) (hc : cs ≤ 16) (hy : y * rbN cs dp + rbN cs dp ≤ D.length) (hx : x < cs) : smS (D ++ l) cs dp pr y x = smS D cs dp pr y x := by
  induction x with
  | zero =>
    have := geoS hd hc hx
    simp only [smS, rwS]
    rw [getD_app (by omega)]
  | succ x ih =>
    have := geoS hd hc hx
    simp only [smS, rwS]
    rw [getD_app (by omega), ih (by omega)]
def tkI (cs : Nat) (F : Nat → Nat → Nat) (y i : Nat) (f : Nat → Int32) : Prop := ∀ y' x', x' < cs → (y' < y ∨ (y' = y ∧ x' < i)) → f (16 * y' + x') = nI (F y' x')
theorem tkI.step {cs y i : Nat} {F : Nat → Nat → Nat} {f : Nat → Int32} (hc : cs ≤ 16) (hi : i < cs) (h : tkI cs F y i f) : tkI cs F y (i + 1) (upd f (16 * y + i) (nI (F y i))) := by
  intro y' x' hx hy
  rw [upd_at]
  by_cases q : y' = y ∧ x' = i
  · rw [if_pos (by omega), q.1, q.2]
  · rw [if_neg (by omega)]
    exact h y' x' hx (by omega)
theorem tkI.row {cs y : Nat} {F : Nat → Nat → Nat} {f : Nat → Int32} (h : tkI cs F y cs f) : tkI cs F (y + 1) 0 f := fun y' x' hx hy => h y' x' hx (by omega)
theorem row_in {y rs rb : Nat} (hy : y < rs) : y * rb + rb ≤ rs * rb := by
  have := Nat.mul_le_mul_right rb hy
  rw [Nat.succ_mul] at this
  exact this
theorem pow_d {dp : Nat} (hd : dpO dp) : 2 ≤ 2 ^ dp ∧ 2 ^ dp ≤ 256 := by rcases hd with rfl | rfl | rfl | rfl <;> decide
theorem p_unpack {post : (Nat → Int32) → Prop} {fd IY IPi f : Nat → Int32} {cs rs dp mt ec pr : Nat} {D : List Nat} (hl : lyX cs rs dp mt ec pr IY) (hp1 : IPi 1 = nI cs) (hp2 : IPi 2 = nI rs) (hp3 : IPi 3 = nI dp) (hd : dpO dp) (hc : cs ≤ 16) (hr : rs ≤ 16) (hpr : pr = 1 ∨ pr = 2) (hD : D.length = rs * rbN cs dp) (h256 : ∀ x ∈ D, x < 256) (hg : ∀ j, j < D.length → fd j = nI (D.getD j 0)) (hp : ∀ f', (∀ y x, y < rs → x < cs → f' (16 * y + x) = nI (smS D cs dp pr y x)) → post f') : wp_Da_unpack post fd IY IPi f := by
  have hrb := rbN_le hd hc
  have hpd := pow_d hd
  unfold wp_Da_unpack
  have row : ∀ (K : (Nat → Int32) → Int32 → Prop) (y : Nat), y < rs → (∀ f', tkI cs (fun y x => smS D cs dp pr y x) (y + 1) 0 f' → K f' (nI (y + 1))) → ∀ (m x : Nat) (f' : Nat → Int32), x + m = cs → tkI cs (fun y x => smS D cs dp pr y x) y x f' → wp_Da_unpack_l13 post K fd IY IPi (m + 1) f' (nI y) (nI x) := by
    intro K y hy hK m
    induction m with
    | zero =>
      intro x f' hx ht
      unfold wp_Da_unpack_l13
      rw [hl.1, nI_1]
      have : x = cs := by omega
      subst this
      exact br_t (nI_le (by omega) (by omega)) (hK _ ht.row)
    | succ m ih =>
      intro x f' hx ht
      unfold wp_Da_unpack_l13
      obtain ⟨g1, g2, g3, g4, g5⟩ := geoS (x := x) hd hc (by omega)
      have hy2 := row_in (rb := rbN cs dp) hy
      have hrr : rs * rbN cs dp ≤ 16 * 16 := Nat.mul_le_mul hr hrb
      rw [hl.1, hl.2.2.1, hl.2.2.2.2.2]
      refine br_f (nI_ge (by omega) (by omega)) (p_bytesARow hl.1 hl.2.2.1 hd hc ?_)
      have hi := hg (y * rbN cs dp + x * dp / 8) (by omega)
      have hi2 : D.getD (y * rbN cs dp + x * dp / 8) 0 < 256 := getD_lt (by decide) h256
      rw [pk_mul, pk_mul, show (8 : Int32) = nI 8 from rfl, pk_rem (by omega) (by decide) (by decide), pk_div (by omega) (by decide) (by decide), nI_add, pk_sub (by omega), pk_sub (by omega), nI_clamp (by omega), hi]
      refine ⟨vp_in_nI (by omega) (by decide), fun v hv => ?_⟩
      rw [shN (by omega) _ (by omega)] at hv
      have er : D.getD (y * rbN cs dp + x * dp / 8) 0 / 2 ^ (8 - dp - x * dp % 8) = rwS D cs dp y x := rfl
      rw [er] at hv
      have hrw : rwS D cs dp y x < 256 := Nat.lt_of_le_of_lt (Nat.div_le_self _ _) hi2
      subst hv
      have put : ∀ w : Nat, w < 2 ^ 20 → smS D cs dp pr y x = w % 2 ^ dp → wp_Da_unpack_b95 post K (wp_Da_unpack_l13 post K fd IY IPi (m + 1)) fd IY IPi f' (nI y) (nI x) (nI w) := by
        intro w hw e
        unfold wp_Da_unpack_b95
        refine p_Pi_put hp1 hp2 hp3 hd hc hr (by omega) hy ?_
        rw [and_d hd (by omega), ← e, nI_1]
        exact ih (x + 1) _ (by omega) (ht.step hc (by omega))
      refine pk_eq pr 2 (fun q => pk_le x 0 (fun q2 => put _ (by omega) ?_) (fun q2 => ?_)) (fun q => put _ (by omega) ?_)
      · have : x = 0 := by omega
        subst this
        rfl
      · obtain ⟨x', rfl⟩ : ∃ x', x = x' + 1 := ⟨x - 1, by omega⟩
        rw [show (1 : Int32) = nI 1 from rfl, pk_sub (by omega), show x' + 1 - 1 = x' by omega]
        refine p_Pi_get hp1 hp2 hc hr (by omega) hy ?_
        rw [ht y x' (by omega) (by omega), nI_add]
        have hsl := smS_lt D cs dp pr y x'
        refine put _ (by simp only; omega) ?_
        simp only [smS]
        rw [if_pos q]
      · cases x with
        | zero => rfl
        | succ x' => simp only [smS]; rw [if_neg q]
  have key : ∀ (m y : Nat) (f' : Nat → Int32), y + m = rs → tkI cs (fun y x => smS D cs dp pr y x) y 0 f' → wp_Da_unpack_l2 post fd IY IPi (m + 1) f' (nI y) := by
    intro m
    induction m with
    | zero =>
      intro y f' hy ht
      unfold wp_Da_unpack_l2
      rw [hl.2.1]
      have : y = rs := by omega
      subst this
      exact br_t (nI_le (by omega) (by omega)) (hp _ (fun y' x' hy' hx' => ht y' x' hx' (by omega)))
    | succ m ih =>
      intro y f' hy ht
      unfold wp_Da_unpack_l2
      rw [hl.2.1]
      exact br_f (nI_ge (by omega) (by omega)) ⟨cs + 1, row _ y (by omega) (fun f'' h'' => ih (y + 1) f'' (by omega) h'') cs 0 f' (by omega) ht⟩
  exact ⟨rs + 1, key rs 0 f (by omega) (fun y' x' hx hy => by omega)⟩
theorem p_M_take {post : (Nat → Int32) → Prop} {J fd f : Nat → Int32} {cs rs dp mt ec pr y0 y1 : Nat} {D l : List Nat} (hl : lyM cs rs dp mt ec pr J) (hd : dpO dp) (hc : cs ≤ 16) (hpr : pr = 1 ∨ pr = 2) (h01 : y0 ≤ y1) (h1r : y1 ≤ 16) (hD : D.length = y0 * rbN cs dp) (hL : l.length = (y1 - y0) * rbN cs dp) (h256 : ∀ x ∈ l, x < 256) (hg : ∀ j, j < l.length → fd j = nI (l.getD j 0)) (ht0 : tkI cs (fun y x => smS D cs dp pr y x) y0 0 f) (hp : ∀ f', tkI cs (fun y x => smS (D ++ l) cs dp pr y x) y1 0 f' → post f') : wp_M_take post J fd f (nI y0) (nI y1) := by
  have hrb := rbN_le hd hc
  have hpd := pow_d hd
  unfold wp_M_take
  rw [hl.1, hl.2.2.1]
  refine p_M_rowBytes hd hc ?_
  have row : ∀ (K : (Nat → Int32) → Int32 → Int32 → Int32 → Int32 → Prop) (y : Nat), y0 ≤ y → y < y1 → (∀ f', tkI cs (fun y x => smS (D ++ l) cs dp pr y x) (y + 1) 0 f' → K f' (nI y0) (nI y1) (nI (rbN cs dp)) (nI (y + 1))) → ∀ (m x : Nat) (f' : Nat → Int32), x + m = cs → tkI cs (fun y x => smS (D ++ l) cs dp pr y x) y x f' → wp_M_take_l24 post K J fd (m + 1) f' (nI y0) (nI y1) (nI (rbN cs dp)) (nI y) (nI x) := by
    intro K y hy0 hy hK m
    induction m with
    | zero =>
      intro x f' hx ht
      unfold wp_M_take_l24
      rw [hl.1, nI_1 y]
      have : x = cs := by omega
      subst this
      exact br_t (nI_le (by omega) (by omega)) (hK _ ht.row)
    | succ m ih =>
      intro x f' hx ht
      unfold wp_M_take_l24
      obtain ⟨g1, g2, g3, g4, g5⟩ := geoS (x := x) hd hc (by omega)
      have hy2 := row_in (rb := rbN cs dp) (y := y - y0) (rs := y1 - y0) (by omega)
      have hrr : (y1 - y0) * rbN cs dp ≤ 16 * 16 := Nat.mul_le_mul (by omega) hrb
      rw [hl.1, hl.2.2.1, hl.2.2.2.2.2]
      refine br_f (nI_ge (by omega) (by omega)) ?_
      have hi := hg ((y - y0) * rbN cs dp + x * dp / 8) (by omega)
      have hi2 : l.getD ((y - y0) * rbN cs dp + x * dp / 8) 0 < 256 := getD_lt (by decide) h256
      rw [pk_sub (a := y) hy0, pk_mul (y - y0), pk_mul x dp, show (8 : Int32) = nI 8 from rfl, pk_rem (by omega) (by decide) (by decide), pk_div (by omega) (by decide) (by decide), nI_add ((y - y0) * rbN cs dp), pk_sub (a := 8) (by omega), pk_sub (a := 8 - dp) (by omega), nI_clamp (n := (y - y0) * rbN cs dp + x * dp / 8) (by omega), hi]
      refine ⟨vp_in_nI (by omega) (by decide), fun v hv => ?_⟩
      rw [shN (by omega) _ (by omega)] at hv
      have er : l.getD ((y - y0) * rbN cs dp + x * dp / 8) 0 / 2 ^ (8 - dp - x * dp % 8) = rwS (D ++ l) cs dp y x := by
        unfold rwS
        have e2 : y * rbN cs dp + x * dp / 8 = D.length + ((y - y0) * rbN cs dp + x * dp / 8) := by
          rw [hD, ← Nat.add_assoc, ← Nat.add_mul, show y0 + (y - y0) = y by omega]
        rw [e2, getD_app2]
      rw [er] at hv
      have hrw : rwS (D ++ l) cs dp y x < 256 := by
        rw [← er]; exact Nat.lt_of_le_of_lt (Nat.div_le_self _ _) hi2
      subst hv
      have put : ∀ w : Nat, w < 2 ^ 20 → smS (D ++ l) cs dp pr y x = w % 2 ^ dp → wp_M_take_b108 post K (wp_M_take_l24 post K J fd (m + 1)) J fd f' (nI y0) (nI y1) (nI (rbN cs dp)) (nI y) (nI x) (nI w) := by
        intro w hw e
        unfold wp_M_take_b108
        rw [hl.2.2.1, (gr_d hd).1, pk_rem (by omega) (by omega) (by omega), ← e, show (16 : Int32) = nI 16 from rfl, pk_mul, nI_add, nI_1, nI_clamp (by omega)]
        exact ⟨nI_ne0 (by omega) (by omega), vp_in_nI (by omega) (by decide), ih (x + 1) _ (by omega) (ht.step hc (by omega))⟩
      refine pk_eq pr 2 (fun q => pk_le x 0 (fun q2 => put _ (by omega) ?_) (fun q2 => ?_)) (fun q => put _ (by omega) ?_)
      · have : x = 0 := by omega
        subst this
        rfl
      · obtain ⟨x', rfl⟩ : ∃ x', x = x' + 1 := ⟨x - 1, by omega⟩
        rw [show (16 : Int32) = nI 16 from rfl, pk_mul, nI_add, show (1 : Int32) = nI 1 from rfl, pk_sub (by omega), show 16 * y + (x' + 1) - 1 = 16 * y + x' by omega, nI_clamp (by omega), ht y x' (by omega) (by omega), nI_add]
        have hsl := smS_lt (D ++ l) cs dp pr y x'
        refine ⟨vp_in_nI (by omega) (by decide), put _ (by simp only; omega) ?_⟩
        simp only [smS]
        rw [if_pos q]
      · cases x with
        | zero => rfl
        | succ x' => simp only [smS]; rw [if_neg q]
  have key : ∀ (m y : Nat) (f' : Nat → Int32), y + m = y1 → y0 ≤ y → tkI cs (fun y x => smS (D ++ l) cs dp pr y x) y 0 f' → wp_M_take_l15 post J fd (m + 1) f' (nI y0) (nI y1) (nI (rbN cs dp)) (nI y) := by
    intro m
    induction m with
    | zero =>
      intro y f' hy hy0 ht
      unfold wp_M_take_l15
      have : y = y1 := by omega
      subst this
      exact br_t (nI_le (by omega) (by omega)) (hp _ ht)
    | succ m ih =>
      intro y f' hy hy0 ht
      unfold wp_M_take_l15
      exact br_f (nI_ge (by omega) (by omega)) ⟨cs + 1, row _ y hy0 (by omega) (fun f'' h'' => ih (y + 1) f'' (by omega) (by omega) h'') cs 0 f' (by omega) ht⟩
  refine ⟨y1 - y0 + 1, key (y1 - y0) y0 f (by omega) (Nat.le_refl _) (fun y' x' hx hy => ?_)⟩
  have hy' : y' < y0 := by omega
  have := row_in (rb := rbN cs dp) hy'
  simp only
  rw [smS_app hd hc (by omega) hx]
  exact ht0 y' x' hx hy
