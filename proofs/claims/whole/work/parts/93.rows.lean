/-! write: rows as packets -/
def t3 (u : Nat → Nat) (stop p : Nat) : Bool := decide (p + 2 < stop ∧ u p = u (p + 1) ∧ u p = u (p + 2))
theorem t3_iff {u : Nat → Nat} {stop p : Nat} : t3 u stop p = true ↔ p + 2 < stop ∧ u p = u (p + 1) ∧ u p = u (p + 2) := decide_eq_true_iff
def rnK (u : Nat → Nat) (stop p : Nat) : Nat → Nat → Nat
  | 0, n => n
  | m + 1, n => if p + n < stop ∧ u (p + n) = u p then rnK u stop p m (n + 1) else n
def rnN (u : Nat → Nat) (stop p : Nat) : Nat := rnK u stop p (stop - p) 0
theorem rnK_ge {u : Nat → Nat} {stop p : Nat} : ∀ m n, n ≤ rnK u stop p m n := by
  intro m
  induction m with
  | zero => intro n; exact Nat.le_refl _
  | succ m ih =>
    intro n
    simp only [rnK]
    split
    · have := ih (n + 1); omega
    · exact Nat.le_refl _
theorem rnK_le {u : Nat → Nat} {stop p : Nat} : ∀ m n, p + n ≤ stop → p + rnK u stop p m n ≤ stop := by
  intro m
  induction m with
  | zero => intro n h; exact h
  | succ m ih =>
    intro n h
    simp only [rnK]
    split
    · exact ih (n + 1) (by omega)
    · exact h
theorem rnN_3 {u : Nat → Nat} {stop p : Nat} (h : p < stop) : 3 ≤ rnN u stop p ↔ t3 u stop p = true := by
  rw [t3_iff]
  unfold rnN
  obtain ⟨m, hm⟩ : ∃ m, stop - p = m + 1 := ⟨stop - p - 1, by omega⟩
  rw [hm]
  simp only [rnK]
  rw [if_pos ⟨by omega, rfl⟩]
  cases m with
  | zero => simp only [rnK]; omega
  | succ m =>
    simp only [rnK]
    by_cases q1 : p + (0 + 1) < stop ∧ u (p + (0 + 1)) = u p
    · rw [if_pos q1]
      cases m with
      | zero => simp only [rnK]; omega
      | succ m =>
        simp only [rnK]
        by_cases q2 : p + (0 + 1 + 1) < stop ∧ u (p + (0 + 1 + 1)) = u p
        · rw [if_pos q2]
          have := rnK_ge (u := u) (stop := stop) (p := p) m (0 + 1 + 1 + 1)
          refine ⟨fun _ => ⟨by omega, q1.2.symm, q2.2.symm⟩, fun _ => by omega⟩
        · rw [if_neg q2]
          refine ⟨fun z => by omega, fun z => absurd ⟨by omega, z.2.2.symm⟩ q2⟩
    · rw [if_neg q1]
      refine ⟨fun z => by omega, fun z => absurd ⟨by omega, z.2.1.symm⟩ q1⟩
theorem rnN_1 {u : Nat → Nat} {stop p : Nat} (h : p < stop) : rnN u stop p = rnK u stop p (stop - p - 1) 1 := by
  unfold rnN
  obtain ⟨m, hm⟩ : ∃ m, stop - p = m + 1 := ⟨stop - p - 1, by omega⟩
  rw [hm]
  simp only [rnK]
  rw [if_pos ⟨by omega, rfl⟩]
  rfl
def ltK (u : Nat → Nat) (stop p : Nat) : Nat → Nat → Nat
  | 0, n => n
  | m + 1, n => if p + n < stop ∧ ¬ t3 u stop (p + n) = true then ltK u stop p m (n + 1) else n
def ltN (u : Nat → Nat) (stop p : Nat) : Nat := ltK u stop p (stop - p) 1
theorem ltK_ge {u : Nat → Nat} {stop p : Nat} : ∀ m n, n ≤ ltK u stop p m n := by
  intro m
  induction m with
  | zero => intro n; exact Nat.le_refl _
  | succ m ih =>
    intro n
    simp only [ltK]
    split
    · have := ih (n + 1); omega
    · exact Nat.le_refl _
theorem ltK_le {u : Nat → Nat} {stop p : Nat} : ∀ m n, p + n ≤ stop → p + ltK u stop p m n ≤ stop := by
  intro m
  induction m with
  | zero => intro n h; exact h
  | succ m ih =>
    intro n h
    simp only [ltK]
    split
    · exact ih (n + 1) (by omega)
    · exact h
theorem ltN_in {u : Nat → Nat} {stop p : Nat} (h : p < stop) : 1 ≤ ltN u stop p ∧ p + ltN u stop p ≤ stop := ⟨ltK_ge _ _, ltK_le _ _ (by omega)⟩
theorem rnN_in {u : Nat → Nat} {stop p : Nat} (h : p < stop) : 1 ≤ rnN u stop p ∧ p + rnN u stop p ≤ stop := by
  constructor
  · rw [rnN_1 h]; exact rnK_ge _ _
  · exact rnK_le _ _ (by omega)
def pkS (u : Nat → Nat) (stop : Nat) : Nat → Nat → List Nat
  | 0, _ => []
  | m + 1, p => if stop ≤ p then [] else if t3 u stop p = true then [257 - rnN u stop p, u p] ++ pkS u stop m (p + rnN u stop p) else [ltN u stop p - 1] ++ rgL u p (ltN u stop p) ++ pkS u stop m (p + ltN u stop p)
theorem pkS_len {u : Nat → Nat} {stop : Nat} : ∀ m p, (pkS u stop m p).length ≤ 2 * (stop - p) := by
  intro m
  induction m with
  | zero => intro p; simp only [pkS, List.length_nil]; omega
  | succ m ih =>
    intro p
    simp only [pkS]
    split
    · simp only [List.length_nil]; omega
    · next q =>
      split
      · next q2 =>
        have h3 := (rnN_3 (by omega)).mpr q2
        have h4 := (rnN_in (u := u) (stop := stop) (p := p) (by omega)).2
        have := ih (p + rnN u stop p)
        simp only [List.length_append, List.length_cons, List.length_nil]
        omega
      · have h4 := ltN_in (u := u) (stop := stop) (p := p) (by omega)
        have := ih (p + ltN u stop p)
        simp only [List.length_append, List.length_cons, List.length_nil, rgL_len]
        omega
theorem aB.pkS {u : Nat → Nat} {stop : Nat} (hs : stop ≤ 256) (hu : ∀ j, j < stop → u j < 256) : ∀ m p, aB (pkS u stop m p) := by
  intro m
  induction m with
  | zero => intro p; exact aB.nil
  | succ m ih =>
    intro p
    simp only [Jvm.Pilot.CTaggedRasterLaw_law_r6233_95c97e.pkS]
    split
    · exact aB.nil
    · next q =>
      split
      · next q2 =>
        have h3 := (rnN_3 (by omega)).mpr q2
        refine aB.app (fun x hx => ?_) (ih _)
        rcases List.mem_cons.mp hx with rfl | hx
        · omega
        · rw [List.mem_singleton.mp hx]; exact hu p (by omega)
      · have h4 := ltN_in (u := u) (stop := stop) (p := p) (by omega)
        exact aB.app (aB.app (aB.one (by omega)) (aB.rg (fun j hj => hu _ (by omega)))) (ih _)
/-- an array that holds u from fr on, up to n of it -/
def hU (f : Nat → Int32) (fr n : Nat) (u : Nat → Nat) : Prop := ∀ j, j < n → u j < 256 ∧ f (fr + j) = nI (u j)
theorem p_three {post : Int32 → Prop} {f : Nat → Int32} {fr n stop p : Nat} {u : Nat → Nat} (h : hU f fr n u) (hn : fr + n ≤ 256) (hs : stop ≤ n) (h1 : t3 u stop p = true → post 1) (h0 : ¬ t3 u stop p = true → post 0) (hp : p ≤ stop) : wp_Pk_threeEqualBegin post f (nI (fr + p)) (nI (fr + stop)) := by
  unfold wp_Pk_threeEqualBegin wp_Pk_threeEqualBegin_b33
  rw [t3_iff] at h1 h0
  rw [show (2 : Int32) = nI 2 from rfl, nI_add, nI_1]
  refine pk_le (fr + stop) (fr + p + 2) (fun q => h0 (by omega)) (fun q => ⟨vp_in_nI (by omega) (by decide), vp_in_nI (by omega) (by decide), ?_⟩)
  obtain ⟨a0, b0⟩ := h p (by omega)
  obtain ⟨a1, b1⟩ := h (p + 1) (by omega)
  obtain ⟨a2, b2⟩ := h (p + 2) (by omega)
  rw [← Nat.add_assoc] at b1 b2
  rw [nI_clamp (by omega), nI_clamp (by omega), nI_clamp (by omega), b0, b1, b2]
  exact pk_eq (u p) (u (p + 1)) (fun q1 => ⟨vp_in_nI (by omega) (by decide), vp_in_nI (by omega) (by decide), pk_eq (u p) (u (p + 2)) (fun q2 => h1 ⟨by omega, q1, q2⟩) (fun q2 => h0 (fun z => q2 z.2.2))⟩) (fun q1 => h0 (fun z => q1 z.2.1))
theorem p_equal {post : Int32 → Prop} {f : Nat → Int32} {fr n stop p : Nat} {u : Nat → Nat} (h : hU f fr n u) (hn : fr + n ≤ 256) (hs : stop ≤ n) (hp : p < stop) (h1 : post (nI (rnN u stop p))) : wp_Pk_equalBytes post f (nI (fr + p)) (nI (fr + stop)) := by
  unfold wp_Pk_equalBytes
  rw [rnN_1 hp] at h1
  have key : ∀ (m k : Nat), p + k + m = stop → post (nI (rnK u stop p m k)) → wp_Pk_equalBytes_l2 post f (m + 1) (nI (fr + p)) (nI (fr + stop)) (nI k) := by
    intro m
    induction m with
    | zero =>
      intro k hk hq
      unfold wp_Pk_equalBytes_l2
      rw [nI_add]
      exact br_t (nI_le (by omega) (by omega)) hq
    | succ m ih =>
      intro k hk hq
      unfold wp_Pk_equalBytes_l2
      simp only [rnK] at hq
      obtain ⟨a0, b0⟩ := h p (by omega)
      obtain ⟨a1, b1⟩ := h (p + k) (by omega)
      rw [← Nat.add_assoc] at b1
      rw [nI_add, nI_clamp (by omega), nI_clamp (by omega), b0, b1, nI_1]
      refine br_f (nI_ge (by omega) (by omega)) ⟨vp_in_nI (by omega) (by decide), vp_in_nI (by omega) (by decide), pk_eq (u (p + k)) (u p) (fun q => ?_) (fun q => ?_)⟩
      · rw [if_pos ⟨by omega, q⟩] at hq
        exact ih (k + 1) (by omega) hq
      · rw [if_neg (fun z => q z.2)] at hq
        exact hq
  exact ⟨stop - p - 1 + 1, key (stop - p - 1) 1 (by omega) h1⟩
theorem p_upTo {post : Int32 → Prop} {f : Nat → Int32} {fr n stop p : Nat} {u : Nat → Nat} (h : hU f fr n u) (hn : fr + n ≤ 256) (hs : stop ≤ n) (hp : p < stop) (h1 : post (nI (ltN u stop p))) : wp_Pk_bytesUpToThreeEqual post f (nI (fr + p)) (nI (fr + stop)) := by
  unfold wp_Pk_bytesUpToThreeEqual
  have key : ∀ (m k : Nat), stop < p + k + m → p + k ≤ stop → post (nI (ltK u stop p m k)) → wp_Pk_bytesUpToThreeEqual_l2 post f m (nI (fr + p)) (nI (fr + stop)) (nI k) := by
    intro m
    induction m with
    | zero => intro k hk hk2 hq; omega
    | succ m ih =>
      intro k hk hk2 hq
      unfold wp_Pk_bytesUpToThreeEqual_l2
      simp only [ltK] at hq
      rw [nI_add, nI_1]
      refine pk_le (fr + stop) (fr + p + k) (fun q => ?_) (fun q => ?_)
      · rw [if_neg (by omega)] at hq
        exact hq
      · rw [Nat.add_assoc]
        refine p_three h hn hs (fun z => br_f (by decide) ?_) (fun z => br_t rfl ?_) (by omega)
        · rw [if_neg (fun y => y.2 z)] at hq
          exact hq
        · rw [if_pos ⟨by omega, z⟩] at hq
          exact ih (k + 1) (by omega) (by omega) hq
  exact ⟨stop - p, key (stop - p) 1 (by omega) (by omega) h1⟩
theorem p_encodeRow {post : (Nat → Int32) → (Nat → Int32) → Prop} {I0 f0 I fb f : Nat → Int32} {fr n stop p0 sz : Nat} {L : List Nat} {u : Nat → Nat} (h : hU f fr n u) (hn : fr + n ≤ 256) (hs : stop ≤ n) (hp0 : p0 ≤ stop) (hx : XA I0 f0 sz L I fb) (hb : sz + L.length < 2 ^ 20) (k : ∀ I' f', XA I0 f0 sz (L ++ pkS u stop (stop - p0 + 1) p0) I' f' → post I' f') : wp_Pk_encodeRow post f I fb (nI (fr + p0)) (nI (fr + stop)) := by
  unfold wp_Pk_encodeRow
  have key : ∀ (m p c : Nat) (L : List Nat) (I fb : Nat → Int32), stop < p + m → p ≤ stop → p0 + c ≤ p → sz + L.length + 2 * (stop - p) < 2 ^ 21 → XA I0 f0 sz L I fb → (∀ I' f', XA I0 f0 sz (L ++ pkS u stop m p) I' f' → post I' f') → wp_Pk_encodeRow_l6 post f m I fb (nI (fr + p0)) (nI (fr + stop)) (nI (fr + p)) (nI c) := by
    intro m
    induction m with
    | zero => intro p c L I fb q1 q2; omega
    | succ m ih =>
      intro p c L I fb q1 q2 q3 q4 hx hk
      unfold wp_Pk_encodeRow_l6
      simp only [pkS] at hk
      rw [pk_sub (by omega)]
      have done : stop ≤ p → post I fb := fun z => by
        rw [if_pos z, List.append_nil] at hk
        exact hk I fb hx
      refine pk_le (fr + stop - (fr + p0)) c (fun z => done (by omega)) (fun z => pk_le (fr + stop) (fr + p) (fun z2 => done (by omega)) (fun z2 => ?_))
      rw [if_neg (by omega)] at hk
      obtain ⟨r1, r2⟩ := rnN_in (u := u) (stop := stop) (p := p) (by omega)
      obtain ⟨l1, l2⟩ := ltN_in (u := u) (stop := stop) (p := p) (by omega)
      refine p_three h hn hs (fun z3 => br_f (by decide) ?_) (fun z3 => br_t rfl ?_) q2
      · rw [if_pos z3] at hk
        refine p_equal h hn hs (by omega) ?_
        rw [show (257 : Int32) = nI 257 from rfl, pk_sub (by omega)]
        have h3 := (rnN_3 (u := u) (stop := stop) (p := p) (by omega)).mpr z3
        refine hx.one (by omega) (fun I1 f1 x1 => ⟨vp_in_nI (by omega) (by decide), ?_⟩)
        rw [nI_clamp (by omega), (h p (by omega)).2]
        refine x1.one (by rw [List.length_append, List.length_singleton]; omega) (fun I2 f2 x2 => ?_)
        unfold wp_Pk_encodeRow_b118
        rw [nI_add, nI_1, Nat.add_assoc]
        refine ih (p + rnN u stop p) (c + 1) _ I2 f2 (by omega) (by omega) (by omega) (by simp only [List.length_append, List.length_singleton]; omega) x2 (fun I' f' x' => hk I' f' ?_)
        have e : L ++ [257 - rnN u stop p] ++ [u p] ++ pkS u stop m (p + rnN u stop p) = L ++ ([257 - rnN u stop p, u p] ++ pkS u stop m (p + rnN u stop p)) := by simp
        rw [e] at x'
        exact x'
      · rw [if_neg z3] at hk
        refine p_upTo h hn hs (by omega) ?_
        rw [show (1 : Int32) = nI 1 from rfl, pk_sub (by omega)]
        refine hx.one (by omega) (fun I1 f1 x1 => ?_)
        have inn : ∀ (m' j : Nat) (I2 f2 : Nat → Int32), j + m' = ltN u stop p → XA I0 f0 sz (L ++ [ltN u stop p - 1] ++ rgL u p j) I2 f2 → wp_Pk_encodeRow_l87 post (wp_Pk_encodeRow_l6 post f m) f (m' + 1) I2 f2 (nI (fr + p0)) (nI (fr + stop)) (nI (fr + p)) (nI c) (nI (ltN u stop p)) (nI j) := by
          intro m'
          induction m' with
          | zero =>
            intro j I2 f2 hj x2
            unfold wp_Pk_encodeRow_l87 wp_Pk_encodeRow_b118
            have : j = ltN u stop p := by omega
            subst this
            rw [nI_add, nI_1, Nat.add_assoc]
            refine br_t (nI_le (by omega) (by omega)) ?_
            refine ih (p + ltN u stop p) (c + 1) _ I2 f2 (by omega) (by omega) (by omega) (by simp only [List.length_append, List.length_singleton, rgL_len]; omega) x2 (fun I' f' x' => hk I' f' ?_)
            have e : L ++ [ltN u stop p - 1] ++ rgL u p (ltN u stop p) ++ pkS u stop m (p + ltN u stop p) = L ++ ([ltN u stop p - 1] ++ rgL u p (ltN u stop p) ++ pkS u stop m (p + ltN u stop p)) := by simp
            rw [e] at x'
            exact x'
          | succ m' ihm =>
            intro j I2 f2 hj x2
            unfold wp_Pk_encodeRow_l87
            have hj2 := h (p + j) (by omega)
            rw [← Nat.add_assoc] at hj2
            rw [nI_add (fr + p) j, nI_clamp (n := fr + p + j) (by omega), hj2.2, nI_1 j]
            refine br_f (nI_ge (by omega) (by omega)) ⟨vp_in_nI (by omega) (by decide), ?_⟩
            refine x2.one (by simp only [List.length_append, List.length_singleton, rgL_len]; omega) (fun I3 f3 x3 => ihm (j + 1) I3 f3 (by omega) ?_)
            rw [List.append_assoc] at x3
            exact x3
        exact ⟨ltN u stop p + 1, inn (ltN u stop p) 0 I1 f1 (by omega) (by simp only [rgL, List.append_nil]; exact x1)⟩
  exact ⟨stop - p0 + 1, key (stop - p0 + 1) p0 0 L I fb (by omega) hp0 (by omega) (by omega) hx k⟩
theorem p_M_run {post : Int32 → Prop} {J d : Nat → Int32} {n stop p : Nat} {u : Nat → Nat} (h : hU d 0 n u) (hn : n ≤ 256) (hs : stop ≤ n) (hp : p ≤ stop) (h1 : post (nI (rnN u stop p))) : wp_M_run post J d (nI p) (nI stop) := by
  unfold wp_M_run
  have key : ∀ (m k : Nat), p + k + m = stop → post (nI (rnK u stop p m k)) → wp_M_run_l2 post J d (m + 1) (nI p) (nI stop) (nI k) := by
    intro m
    induction m with
    | zero =>
      intro k hk hq
      unfold wp_M_run_l2
      rw [nI_add]
      exact br_t (nI_le (by omega) (by omega)) hq
    | succ m ih =>
      intro k hk hq
      unfold wp_M_run_l2
      simp only [rnK] at hq
      have z0 := h p (by omega)
      have z1 := h (p + k) (by omega)
      rw [Nat.zero_add] at z0 z1
      rw [nI_add, nI_clamp (by omega), nI_clamp (by omega), z0.2, z1.2, nI_1]
      refine br_f (nI_ge (by omega) (by omega)) ⟨vp_in_nI (by omega) (by decide), vp_in_nI (by omega) (by decide), pk_eq (u (p + k)) (u p) (fun q => ?_) (fun q => ?_)⟩
      · rw [if_pos ⟨by omega, q⟩] at hq
        exact ih (k + 1) (by omega) hq
      · rw [if_neg (fun z => q z.2)] at hq
        exact hq
  exact ⟨stop - p + 1, key (stop - p) 0 (by omega) h1⟩
theorem p_M_packets {post : (Nat → Int32) → (Nat → Int32) → Prop} {J0 g0 J g d : Nat → Int32} {n stop p0 sz : Nat} {L : List Nat} {u : Nat → Nat} (h : hU d 0 n u) (hn : n ≤ 256) (hs : stop ≤ n) (hp0 : p0 ≤ stop) (hx : MA J0 g0 sz L J g) (hb : sz + L.length + 2 * (stop - p0) < 2000) (k : ∀ J' g', MA J0 g0 sz (L ++ pkS u stop (stop - p0 + 1) p0) J' g' → post J' g') : wp_M_packets post d J g (nI p0) (nI stop) := by
  unfold wp_M_packets
  have key : ∀ (m p : Nat) (L : List Nat) (J g : Nat → Int32), stop < p + m → p ≤ stop → sz + L.length + 2 * (stop - p) < 2000 → MA J0 g0 sz L J g → (∀ J' g', MA J0 g0 sz (L ++ pkS u stop m p) J' g' → post J' g') → wp_M_packets_l2 post d m J g (nI stop) (nI p) := by
    intro m
    induction m with
    | zero => intro p L J g q1 q2; omega
    | succ m ih =>
      intro p L J g q1 q2 q4 hx hk
      unfold wp_M_packets_l2
      simp only [pkS] at hk
      refine pk_le stop p (fun z => ?_) (fun z2 => ?_)
      · rw [if_pos z, List.append_nil] at hk
        exact hk J g hx
      rw [if_neg (by omega)] at hk
      obtain ⟨r1, r2⟩ := rnN_in (u := u) (stop := stop) (p := p) (by omega)
      obtain ⟨l1, l2⟩ := ltN_in (u := u) (stop := stop) (p := p) (by omega)
      refine p_M_run h hn hs q2 (pk_lt (rnN u stop p) 3 (fun z3 => ?_) (fun z3 => ?_))
      · rw [if_neg (fun z => by have := (rnN_3 (u := u) (stop := stop) (p := p) (by omega)).mpr z; omega)] at hk
        rw [nI_1]
        have lit : wp_M_packets_b77 post (wp_M_packets_l2 post d m) d J g (nI stop) (nI p) (nI (p + ltN u stop p)) := by
          unfold wp_M_packets_b77
          rw [pk_sub (by omega), show (1 : Int32) = nI 1 from rfl, pk_sub (by omega), show p + ltN u stop p - p - 1 = ltN u stop p - 1 by omega]
          refine hx.put (by omega) (fun J1 g1 x1 => ?_)
          have inn : ∀ (m' j : Nat) (J2 g2 : Nat → Int32), j + m' = ltN u stop p → MA J0 g0 sz (L ++ [ltN u stop p - 1] ++ rgL u p j) J2 g2 → wp_M_packets_l87 post (wp_M_packets_l2 post d m) d (m' + 1) J2 g2 (nI stop) (nI (p + j)) (nI (p + ltN u stop p)) := by
            intro m'
            induction m' with
            | zero =>
              intro j J2 g2 hj x2
              unfold wp_M_packets_l87 wp_M_packets_b109
              have : j = ltN u stop p := by omega
              subst this
              refine br_t (nI_le (by omega) (by omega)) ?_
              refine ih (p + ltN u stop p) _ J2 g2 (by omega) (by omega) (by simp only [List.length_append, List.length_singleton, rgL_len]; omega) x2 (fun J' g' x' => hk J' g' ?_)
              have e : L ++ [ltN u stop p - 1] ++ rgL u p (ltN u stop p) ++ pkS u stop m (p + ltN u stop p) = L ++ ([ltN u stop p - 1] ++ rgL u p (ltN u stop p) ++ pkS u stop m (p + ltN u stop p)) := by simp
              rw [e] at x'
              exact x'
            | succ m' ihm =>
              intro j J2 g2 hj x2
              unfold wp_M_packets_l87
              have hj2 := h (p + j) (by omega)
              rw [Nat.zero_add] at hj2
              rw [nI_clamp (by omega), hj2.2, nI_1]
              refine br_f (nI_ge (by omega) (by omega)) ⟨vp_in_nI (by omega) (by decide), ?_⟩
              refine x2.put (by simp only [List.length_append, List.length_singleton, rgL_len]; omega) (fun J3 g3 x3 => ihm (j + 1) J3 g3 (by omega) ?_)
              rw [List.append_assoc] at x3
              exact x3
          exact ⟨ltN u stop p + 1, inn (ltN u stop p) 0 J1 g1 (by omega) (by simp only [rgL, List.append_nil]; exact x1)⟩
        have scan : ∀ (m' j : Nat), stop < p + j + m' → p + j ≤ stop → ltK u stop p m' j = ltN u stop p → wp_M_packets_l54 post (wp_M_packets_l2 post d m) d m' J g (nI stop) (nI p) (nI (p + j)) := by
          intro m'
          induction m' with
          | zero => intro j q1 q2; omega
          | succ m' ihm =>
            intro j y1 y2 y3
            unfold wp_M_packets_l54
            simp only [ltK] at y3
            refine pk_le stop (p + j) (fun y => ?_) (fun y => ?_)
            · rw [if_neg (by omega)] at y3
              rw [y3]; exact lit
            · refine p_M_run h hn hs y2 ?_
              have hl3 := rnN_in (u := u) (stop := stop) (p := p + j) (by omega)
              refine pk_le 3 (rnN u stop (p + j)) (fun w => ?_) (fun w => ?_)
              · rw [if_neg (fun v => v.2 ((rnN_3 (by omega)).mp w))] at y3
                rw [y3]; exact lit
              · rw [if_pos ⟨by omega, fun v => by have := (rnN_3 (u := u) (stop := stop) (p := p + j) (by omega)).mpr v; omega⟩] at y3
                rw [nI_1]
                exact ihm (j + 1) (by omega) (by omega) y3
        exact ⟨stop - p, scan (stop - p) 1 (by omega) (by omega) rfl⟩
      · rw [if_pos ((rnN_3 (by omega)).mp z3)] at hk
        rw [show (257 : Int32) = nI 257 from rfl, pk_sub (by omega)]
        refine hx.put (by omega) (fun J1 g1 x1 => ⟨vp_in_nI (by omega) (by decide), ?_⟩)
        have hj2 := h p (by omega)
        rw [Nat.zero_add] at hj2
        rw [nI_clamp (by omega), hj2.2]
        refine x1.put (by rw [List.length_append, List.length_singleton]; omega) (fun J2 g2 x2 => ?_)
        unfold wp_M_packets_b109
        rw [nI_add]
        refine ih (p + rnN u stop p) _ J2 g2 (by omega) (by omega) (by simp only [List.length_append, List.length_singleton]; omega) x2 (fun J' g' x' => hk J' g' ?_)
        have e : L ++ [257 - rnN u stop p] ++ [u p] ++ pkS u stop m (p + rnN u stop p) = L ++ ([257 - rnN u stop p, u p] ++ pkS u stop m (p + rnN u stop p)) := by simp
        rw [e] at x'
        exact x'
  exact ⟨stop - p0 + 1, key (stop - p0 + 1) p0 L J g (by omega) hp0 hb hx k⟩
