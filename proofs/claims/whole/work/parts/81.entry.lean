/-! entries of a directory: field, fieldCount -/
def enF (b : Nat → Nat) (p : Nat) (t : Int32) : Nat → Nat → Option Nat
  | 0, _ => none
  | m + 1, k => if nI (rdN b (p + 2 + 12 * k) 2) = t then some (p + 2 + 12 * k) else enF b p t m (k + 1)
/-- the entry of a tag in the directory at p -/
def enT (b : Nat → Nat) (p : Nat) (t : Int32) : Option Nat := enF b p t (rdN b p 2) 0
def knd (b : Nat → Nat) (e : Nat) : Nat := rdN b (e + 2) 2
def unK (k : Nat) : Nat := if k = 1 then 1 else if k = 2 then 1 else if k = 3 then 2 else if k = 4 then 4 else 0
def cnt (b : Nat → Nat) (e : Nat) : Nat := rdN b (e + 4) 4
def alB (b : Nat → Nat) (e : Nat) : Nat := unK (knd b e) * cnt b e
def plc (b : Nat → Nat) (e : Nat) : Nat := if 4 < alB b e then rdN b (e + 8) 4 else e + 8
def brk (b : Nat → Nat) (sz e : Nat) : Bool := decide (alB b e = 0 ∨ ¬ plc b e + alB b e ≤ sz)
theorem unK_le (k : Nat) : unK k ≤ 4 := by unfold unK; split <;> (try split) <;> (try split) <;> (try split) <;> omega
theorem brk_f {b : Nat → Nat} {sz e : Nat} : ¬ brk b sz e = true ↔ (alB b e ≠ 0 ∧ plc b e + alB b e ≤ sz) := by
  unfold brk
  rw [decide_eq_true_iff]
  omega
theorem enF_in {b : Nat → Nat} {p : Nat} {t : Int32} : ∀ (m k e : Nat), enF b p t m k = some e → ∃ j, k ≤ j ∧ j < k + m ∧ e = p + 2 + 12 * j := by
  intro m
  induction m with
  | zero => intro k e h; cases h
  | succ m ih =>
    intro k e h
    simp only [enF] at h
    split at h
    · cases h; exact ⟨k, by omega, by omega, rfl⟩
    · obtain ⟨j, h1, h2, h3⟩ := ih (k + 1) e h
      exact ⟨j, by omega, by omega, h3⟩
theorem enT_in {b : Nat → Nat} {sz p : Nat} {t : Int32} {e : Nat} (hs : stS b sz p = true) (h : enT b p t = some e) : e + 16 ≤ sz ∧ 10 ≤ e := by
  obtain ⟨j, h1, h2, h3⟩ := enF_in _ _ _ h
  have := stS_iff.mp hs
  omega
theorem p_valueBytes {post : Int32 → Prop} {I : Nat → Int32} {L : Nat → Int64} {k : Nat} (e0 : I 0 = nI k) (hk : k < 65536) (hp : post (nI (unK k))) : wp_En_valueBytes post I L := by
  unfold wp_En_valueBytes
  unfold unK at hp
  rw [e0, show (1 : Int32) = nI 1 from rfl, show (2 : Int32) = nI 2 from rfl, show (3 : Int32) = nI 3 from rfl, show (4 : Int32) = nI 4 from rfl, nI_eq (by omega) (by decide), nI_eq (by omega) (by decide), nI_eq (by omega) (by decide), nI_eq (by omega) (by decide)]
  refine br_c (fun q => ?_) (fun q => br_c (fun q2 => ?_) (fun q2 => br_c (fun q3 => ?_) (fun q3 => br_c (fun q4 => ?_) (fun q4 => ?_))))
  · rw [if_pos q] at hp; exact hp
  · rw [if_neg q, if_pos q2] at hp; exact hp
  · rw [if_neg q, if_neg q2, if_pos q3] at hp; exact hp
  · rw [if_neg q, if_neg q2, if_neg q3, if_pos q4] at hp; exact hp
  · rw [if_neg q, if_neg q2, if_neg q3, if_neg q4] at hp; exact hp
/-- the class's entry object holds the entry at e -/
def enX (b : Nat → Nat) (sz e : Nat) (I : Nat → Int32) (L : Nat → Int64) : Prop := I 0 = nI (knd b e) ∧ I 3 = b1 (brk b sz e) ∧ L 1 = lN (cnt b e) ∧ L 2 = lN (plc b e)
theorem al_lt {b : Nat → Nat} {sz e : Nat} {f : Nat → Int32} (h : Fb sz b f) (he : e + 12 ≤ sz) : knd b e < 65536 ∧ cnt b e < 4294967296 ∧ alB b e ≤ 4 * cnt b e ∧ plc b e < 4294967296 := by
  have h1 := h.lt2 (a := e + 2) (by omega)
  have h2 := h.lt4 (a := e + 4) (by omega)
  have h3 := h.lt4 (a := e + 8) (by omega)
  have h4 := h.2.1
  refine ⟨h1, h2, Nat.mul_le_mul_right _ (unK_le _), ?_⟩
  unfold plc
  split <;> omega
theorem p_En_read {post : (Nat → Int32) → (Nat → Int64) → Prop} {I f In : Nat → Int32} {Ln : Nat → Int64} {sz e : Nat} {b : Nat → Nat} (e1 : I 1 = nI sz) (h : Fb sz b f) (he : e + 12 ≤ sz) (hp : ∀ (In' : Nat → Int32) (Ln' : Nat → Int64), enX b sz e In' Ln' → post In' Ln') : wp_En_read post I f In Ln (nI e) := by
  obtain ⟨a1, a2, a3, a4⟩ := al_lt h he
  have h4 := h.2.1
  unfold wp_En_read
  rw [show (2 : Int32) = nI 2 from rfl, show (4 : Int32) = nI 4 from rfl, show (8 : Int32) = nI 8 from rfl, nI_add, nI_add, nI_add]
  refine p_St_shortAt e1 h (by omega) (p_St_longAt e1 h (by omega) (p_valueBytes (k := knd b e) rfl a1 ?_))
  have hu := unK_le (knd b e)
  rw [nI_l (by omega), lN_mul, show (4 : Int64) = lN 4 from rfl]
  have ea : rdN b (e + 4) 4 * unK (knd b e) = alB b e := Nat.mul_comm _ _
  rw [ea, pk_lLT (by decide) (by omega), nI_l (by omega)]
  have fin : wp_En_read_b58 post I f (upd In 0 (nI (rdN b (e + 2) 2))) (vp_updL Ln 1 (lN (rdN b (e + 4) 4))) (lN (alB b e)) (lN (plc b e)) := by
    unfold wp_En_read_b58 wp_En_read_b80
    rw [show (0 : Int64) = lN 0 from rfl, pk_lEQ (by omega) (by decide)]
    refine br_c (fun q => hp _ _ ⟨rfl, ?_, rfl, rfl⟩) (fun q => p_St_holds e1 h4 (by omega) (by omega) (fun q2 => br_f (by decide) (hp _ _ ⟨rfl, ?_, rfl, rfl⟩)) (fun q2 => br_t rfl (hp _ _ ⟨rfl, ?_, rfl, rfl⟩)))
    · have : brk b sz e = true := by unfold brk; exact decide_eq_true (Or.inl q)
      rw [this]; rfl
    · have : brk b sz e = false := by unfold brk; exact decide_eq_false (by omega)
      rw [this]; rfl
    · have : brk b sz e = true := by unfold brk; exact decide_eq_true (Or.inr q2)
      rw [this]; rfl
  have epl : plc b e = if 4 < alB b e then rdN b (e + 8) 4 else e + 8 := rfl
  refine br_c (fun q => p_St_longAt e1 h (by omega) ?_) (fun q => ?_)
  · rw [if_pos q] at epl
    rw [← epl]; exact fin
  · rw [if_neg q] at epl
    rw [← epl]; exact fin
theorem p_En_find {post : Int32 → (Nat → Int32) → (Nat → Int64) → Prop} {I f In : Nat → Int32} {Ln : Nat → Int64} {sz p : Nat} {t : Int32} {b : Nat → Nat} (e1 : I 1 = nI sz) (h : Fb sz b f) (hs : stS b sz p = true) (hn : enT b p t = none → post 0 In Ln) (hy : ∀ e, enT b p t = some e → ∀ (In' : Nat → Int32) (Ln' : Nat → Int64), enX b sz e In' Ln' → post 1 In' Ln') : wp_En_find post I f In Ln (nI p) t := by
  have s3 := stS_iff.mp hs
  have h4 := h.2.1
  unfold wp_En_find
  refine p_St_shortAt e1 h (by omega) ?_
  have key : ∀ (m k : Nat), k + m = rdN b p 2 → enF b p t m k = enT b p t → wp_En_find_l10 post I f (m + 1) In Ln (nI p) t (nI (rdN b p 2)) (nI k) := by
    intro m
    induction m with
    | zero =>
      intro k hk he
      unfold wp_En_find_l10
      exact br_t (nI_le (by omega) (by omega)) (hn he.symm)
    | succ m ih =>
      intro k hk he
      unfold wp_En_find_l10
      rw [show (2 : Int32) = nI 2 from rfl, show (12 : Int32) = nI 12 from rfl, nI_add, pk_mul, nI_add, nI_1]
      refine br_f (nI_ge (by omega) (by omega)) (p_St_shortAt e1 h (by omega) ?_)
      simp only [enF] at he
      refine br_c (fun q => ?_) (fun q => ?_)
      · rw [if_pos q] at he
        exact p_En_read e1 h (by omega) (fun In' Ln' hx => hy _ he.symm In' Ln' hx)
      · rw [if_neg q] at he
        exact ih (k + 1) (by omega) he
  exact ⟨rdN b p 2 + 1, key (rdN b p 2) 0 (by omega) rfl⟩
/-- the k-th value of the entry at e -/
def vlE (b : Nat → Nat) (e k : Nat) : Nat := rdN b (plc b e + unK (knd b e) * k) (unK (knd b e))
theorem unK_cases (k : Nat) : (unK k = 0 ∧ k ≠ 1 ∧ k ≠ 2 ∧ k ≠ 3 ∧ k ≠ 4) ∨ (unK k = 1 ∧ (k = 1 ∨ k = 2)) ∨ (unK k = 2 ∧ k = 3) ∨ (unK k = 4 ∧ k = 4) := by
  unfold unK
  split
  · omega
  · split
    · omega
    · split
      · omega
      · split <;> omega
theorem in_al {u c k : Nat} (h : k < c) : u * k + u ≤ u * c := by
  calc u * k + u = u * (k + 1) := by rw [Nat.mul_add, Nat.mul_one]
    _ ≤ u * c := Nat.mul_le_mul_left _ h
theorem p_En_value {post : Int64 → Prop} {I f In : Nat → Int32} {Ln : Nat → Int64} {sz e k : Nat} {b : Nat → Nat} (e1 : I 1 = nI sz) (h : Fb sz b f) (he : e + 12 ≤ sz) (hx : enX b sz e In Ln) (hb : ¬ brk b sz e = true) (hk : k < cnt b e) (hp : post (lN (vlE b e k))) : wp_En_value post In Ln I f (nI k) := by
  obtain ⟨a1, a2, a3, a4⟩ := al_lt h he
  obtain ⟨x0, x3, x1, x2⟩ := hx
  obtain ⟨b1', b2'⟩ := brk_f.mp hb
  have h4 := h.2.1
  have hin := in_al (u := unK (knd b e)) hk
  have hin2 : unK (knd b e) * cnt b e = alB b e := rfl
  have huk : k ≤ unK (knd b e) * k := by
    have : 1 ≤ unK (knd b e) := by
      rcases Nat.eq_zero_or_pos (unK (knd b e)) with q | q
      · exfalso; apply b1'; unfold alB; rw [q, Nat.zero_mul]
      · exact q
    exact Nat.le_mul_of_pos_left _ this
  unfold wp_En_value
  refine p_valueBytes x0 a1 ?_
  rw [x0, x2, lN_i, pk_mul, nI_add, show (4 : Int32) = nI 4 from rfl, show (3 : Int32) = nI 3 from rfl, nI_eq (by omega) (by decide), nI_eq (by omega) (by decide), Nat.mul_comm k]
  unfold vlE at hp
  rcases unK_cases (knd b e) with ⟨u, q1, q2, q3, q4⟩ | ⟨u, q⟩ | ⟨u, q⟩ | ⟨u, q⟩
  · exfalso; apply b1'; unfold alB; rw [u, Nat.zero_mul]
  · rw [u] at hp hin hin2 huk ⊢
    refine br_f (by omega) (br_f (by omega) ?_)
    rw [nI_l (by omega)]
    refine p_St_holds (n := 1) e1 h4 (by omega) (by decide) (fun _ => br_f (by decide) ?_) (fun n => absurd (by omega) n)
    obtain ⟨i1, i2⟩ := h.2.2 (plc b e + 1 * k) (by omega)
    rw [nI_clamp (by omega), i2, nI_l (by omega)]
    rw [rd1_eq] at hp
    exact ⟨vp_in_nI (by omega) (by decide), hp⟩
  · rw [u] at hp hin hin2 huk ⊢
    refine br_f (by omega) (br_t q (p_St_shortAt e1 h (by omega) ?_))
    have := h.lt2 (a := plc b e + 2 * k) (by omega)
    rw [nI_l (by omega)]
    exact hp
  · rw [u] at hp hin hin2 huk ⊢
    exact br_t q (p_St_longAt e1 h (by omega) hp)
theorem p_M_entry {post : Int32 → (Nat → Int32) → (Nat → Int32) → Prop} {J g dr : Nat → Int32} {sz : Nat} {b : Nat → Nat} {pg t : Int32} (e1 : J 1 = nI sz) (h : Fb sz b g)
    (hno : ∀ J' dr' : Nat → Int32, wM (wkR b sz) J J' dr' → ¬ (0 ≤ pg ∧ pg < nI (wkR b sz).1.length) → post (-1) J' dr')
    (hn : ∀ J' dr' : Nat → Int32, wM (wkR b sz) J J' dr' → ∀ i, i < (wkR b sz).1.length → pg = nI i → enT b ((wkR b sz).1.getD i 0) t = none → post (-1) J' dr')
    (hy : ∀ J' dr' : Nat → Int32, wM (wkR b sz) J J' dr' → ∀ i e, i < (wkR b sz).1.length → pg = nI i → enT b ((wkR b sz).1.getD i 0) t = some e → post (nI e) J' dr') : wp_M_entry post g J dr pg t := by
  unfold wp_M_entry
  refine p_walk e1 h (fun J' dr' hm => ?_)
  have hok := wkR_ok (b := b) (sz := sz) h.1
  have h4 := h.2.1
  rw [hm.1]
  have hlen := hok.1
  refine br_c (fun q => hno J' dr' hm (by grind)) (fun q => br_c (fun q2 => ?_) (fun q2 => hno J' dr' hm (fun z => q2 z.2)))
  obtain ⟨i, hi, rfl⟩ := nI_of (x := pg) q
  rw [nI_ltI hi (by omega)] at q2
  refine ⟨vp_in_nI (by omega) (by decide), ?_⟩
  have hmem : (wkR b sz).1.getD i 0 ∈ (wkR b sz).1 := by
    rw [List.getD_eq_getElem?_getD, List.getElem?_eq_getElem q2]
    exact List.getElem_mem q2
  have hs := hok.2.1 _ hmem
  have s3 := stS_iff.mp hs
  rw [nI_clamp (by omega), hm.2.2.2.1 i q2]
  have hn' := hn J' dr' hm i q2 rfl
  have hy' := fun e => hy J' dr' hm i e q2 rfl
  have hdr := hm.2.2.2.1 i q2
  generalize (wkR b sz).1.getD i 0 = p at hs s3 hn' hy' hdr ⊢
  refine p_M_read (n := 2) h (by omega) (by decide) ?_
  rw [lN_i]
  have key : ∀ (m k : Nat), k + m = rdN b p 2 → enF b p t m k = enT b p t → wp_M_entry_l34 post g (m + 1) J' dr' (nI i) t (nI (rdN b p 2)) (nI k) := by
    intro m
    induction m with
    | zero =>
      intro k hk he
      unfold wp_M_entry_l34
      exact br_t (nI_le (by omega) (by omega)) (hn' he.symm)
    | succ m ih =>
      intro k hk he
      unfold wp_M_entry_l34
      rw [nI_clamp (n := i) (by omega), hdr, show (2 : Int32) = nI 2 from rfl, show (12 : Int32) = nI 12 from rfl, nI_add, pk_mul, nI_add, nI_1]
      refine br_f (nI_ge (by omega) (by omega)) ⟨vp_in_nI (by omega) (by decide), p_M_read (n := 2) h (by omega) (by decide) ?_⟩
      have l2 := h.lt2 (a := p + 2 + 12 * k) (by omega)
      rw [← nI_l (n := rdN b (p + 2 + 12 * k) 2) (by omega), L64eq]
      simp only [enF] at he
      refine br_c (fun q => ?_) (fun q => ?_)
      · rw [if_pos q] at he
        exact hy' _ he.symm
      · rw [if_neg q] at he
        exact ih (k + 1) (by omega) he
  exact ⟨rdN b p 2 + 1, key (rdN b p 2) 0 (by omega) rfl⟩
theorem p_M_unit {post : Int32 → Prop} {J g : Nat → Int32} {sz e : Nat} {b : Nat → Nat} (h : Fb sz b g) (he : e + 12 ≤ sz) (hp : post (nI (unK (knd b e)))) : wp_M_unit post J g (nI e) := by
  obtain ⟨a1, a2, a3, a4⟩ := al_lt h he
  unfold wp_M_unit wp_M_unit_b20
  rw [show (2 : Int32) = nI 2 from rfl, nI_add]
  refine p_M_read (n := 2) h (by omega) (by decide) ?_
  have ek : rdN b (e + 2) 2 = knd b e := rfl
  rw [lN_i, ek, show (1 : Int32) = nI 1 from rfl, show (3 : Int32) = nI 3 from rfl, show (4 : Int32) = nI 4 from rfl, nI_eq (by omega) (by decide), nI_eq (by omega) (by decide), nI_eq (by omega) (by decide), nI_eq (by omega) (by decide)]
  unfold unK at hp
  refine br_c (fun q => ?_) (fun q => br_c (fun q2 => ?_) (fun q2 => br_c (fun q3 => ?_) (fun q3 => br_c (fun q4 => ?_) (fun q4 => ?_))))
  · rw [if_pos q] at hp; exact hp
  · rw [if_neg q, if_pos q2] at hp; exact hp
  · rw [if_neg q, if_neg q2, if_pos q3] at hp; exact hp
  · rw [if_neg q, if_neg q2, if_neg q3, if_pos q4] at hp; exact hp
  · rw [if_neg q, if_neg q2, if_neg q3, if_neg q4] at hp; exact hp
theorem p_M_values {post : Int64 → Prop} {J g : Nat → Int32} {sz e : Nat} {b : Nat → Nat} (e1 : J 1 = nI sz) (h : Fb sz b g) (he : e + 12 ≤ sz) (h1 : brk b sz e = true → post (-1)) (h0 : ¬ brk b sz e = true → post (lN (plc b e))) : wp_M_values post J g (nI e) := by
  obtain ⟨a1, a2, a3, a4⟩ := al_lt h he
  have h4 := h.2.1
  unfold wp_M_values
  refine p_M_unit h he ?_
  rw [show (4 : Int32) = nI 4 from rfl, show (8 : Int32) = nI 8 from rfl, nI_add, nI_add]
  refine p_M_read (n := 4) h (by omega) (by decide) ?_
  have hu := unK_le (knd b e)
  have ea : unK (knd b e) * rdN b (e + 4) 4 = alB b e := rfl
  rw [nI_l (by omega), lN_mul, ea, show (0 : Int64) = lN 0 from rfl, show (4 : Int64) = lN 4 from rfl, pk_lEQ (by omega) (by decide), pk_lLT (by decide) (by omega), e1, nI_l (by omega), nI_l (by omega), show (8 : Int64) = lN 8 from rfl, lN_add]
  have epl : plc b e = if 4 < alB b e then rdN b (e + 8) 4 else e + 8 := rfl
  refine br_c (fun q => h1 (decide_eq_true (Or.inl q))) (fun q => br_c (fun q2 => p_M_read (n := 4) h (by omega) (by decide) ?_) (fun q2 => ?_))
  · rw [if_pos q2] at epl
    rw [← epl, lN_add, pk_lLT (by omega) (by omega)]
    exact br_c (fun q3 => h1 (decide_eq_true (Or.inr (by omega)))) (fun q3 => h0 (brk_f.mpr ⟨q, by omega⟩))
  · rw [if_neg q2] at epl
    rw [← epl]
    exact h0 (brk_f.mpr ⟨q, by omega⟩)
/-- there is such a page, it has such an entry, and the entry is sound: it stands at e -/
def SE (b : Nat → Nat) (sz : Nat) (pg t : Int32) (e : Nat) : Prop := ∃ i, i < (wkR b sz).1.length ∧ pg = nI i ∧ enT b ((wkR b sz).1.getD i 0) t = some e ∧ ¬ brk b sz e = true
theorem wk_mem {b : Nat → Nat} {sz i : Nat} (h8 : 8 ≤ sz) (hi : i < (wkR b sz).1.length) : stS b sz ((wkR b sz).1.getD i 0) = true := by
  refine (wkR_ok h8).2.1 _ ?_
  rw [List.getD_eq_getElem?_getD, List.getElem?_eq_getElem hi]
  exact List.getElem_mem hi
theorem SE.uni {b : Nat → Nat} {sz : Nat} {pg t : Int32} {e e' : Nat} (h8 : 8 ≤ sz) (h : SE b sz pg t e) (h' : SE b sz pg t e') : e = e' := by
  obtain ⟨i, hi, ei, hs, -⟩ := h
  obtain ⟨j, hj, ej, hs', -⟩ := h'
  have hl := (wkR_ok (b := b) h8).1
  have : i = j := (nI_eq (by omega) (by omega)).mp (ei.symm.trans ej)
  subst this
  exact Option.some.inj (hs.symm.trans hs')
theorem SE.at {b : Nat → Nat} {sz : Nat} {pg t : Int32} {e : Nat} (h8 : 8 ≤ sz) (h : SE b sz pg t e) : e + 16 ≤ sz ∧ 10 ≤ e := by
  obtain ⟨i, hi, ei, hs, -⟩ := h
  exact enT_in (wk_mem h8 hi) hs
theorem p_hasPage {post : Int32 → Prop} {W : Nat → Int32} {x : Int32} (h1 : 0 ≤ x → x < W 1 → post 1) (h0 : ¬ (0 ≤ x ∧ x < W 1) → post 0) : wp_Wk_hasPage post W x := by
  unfold wp_Wk_hasPage wp_Wk_hasPage_b16
  grind
theorem p_findSound {post : Int32 → (Nat → Int32) → (Nat → Int64) → (Nat → Int32) → (Nat → Int32) → Prop} {I f In W pl : Nat → Int32} {Ln : Nat → Int64} {sz : Nat} {b : Nat → Nat} {pg t : Int32} (e1 : I 1 = nI sz) (h : Fb sz b f) (hno : ∀ (In' : Nat → Int32) (Ln' : Nat → Int64) (W' pl' : Nat → Int32), (¬ ∃ e, SE b sz pg t e) → post 0 In' Ln' W' pl') (hyes : ∀ (e : Nat) (In' : Nat → Int32) (Ln' : Nat → Int64) (W' pl' : Nat → Int32), SE b sz pg t e → enX b sz e In' Ln' → post 1 In' Ln' W' pl') : wp_X_findSoundEntry post I f In Ln W pl pg t := by
  unfold wp_X_findSoundEntry wp_X_findSoundEntry_b60
  refine p_follow e1 h (fun W' pl' hw => ?_)
  have hl := (wkR_ok (b := b) h.1).1
  have h4 := h.2.1
  refine p_hasPage (fun q1 q2 => br_f (by decide) ?_) (fun n => br_t rfl (hno _ _ _ _ (fun z => n ?_)))
  · rw [hw.1] at q2
    obtain ⟨i, hi, rfl⟩ := nI_of (x := pg) (by grind)
    rw [nI_ltI hi (by omega)] at q2
    refine ⟨vp_in_nI (by omega) (by decide), ?_⟩
    rw [nI_clamp (by omega), hw.2.2.2 i q2]
    have same : ∀ e, SE b sz (nI i) t e → enT b ((wkR b sz).1.getD i 0) t = some e ∧ ¬ brk b sz e = true := by
      intro e hse
      obtain ⟨j, hj, ej, hs, hb⟩ := hse
      have : i = j := (nI_eq (by omega) (by omega)).mp ej
      subst this
      exact ⟨hs, hb⟩
    refine p_En_find e1 h (wk_mem h.1 q2) (fun z => br_t rfl (hno _ _ _ _ (fun y => ?_))) (fun e z In' Ln' hx => br_f (by decide) ?_)
    · obtain ⟨e, hse⟩ := y
      have := (same e hse).1
      rw [z] at this
      cases this
    · rw [hx.2.1]
      refine br_c (fun q3 => hyes e _ _ _ _ ⟨i, q2, rfl, z, fun hb => ?_⟩ hx) (fun q3 => hno _ _ _ _ (fun y => ?_))
      · rw [hb] at q3; exact absurd q3 (by decide)
      · obtain ⟨e', hse⟩ := y
        obtain ⟨y1, y2⟩ := same e' hse
        have : e = e' := Option.some.inj (z.symm.trans y1)
        subst this
        cases hc : brk b sz e with
        | true => exact y2 hc
        | false => rw [hc] at q3; exact q3 rfl
  · obtain ⟨e, i, hi, rfl, -, -⟩ := z
    rw [hw.1]
    exact ⟨nI_pos' (by omega), nI_lt hi (by omega)⟩
theorem p_M_field {post : Int64 → (Nat → Int32) → (Nat → Int32) → Prop} {J g dr : Nat → Int32} {sz : Nat} {b : Nat → Nat} {pg t k : Int32} (e1 : J 1 = nI sz) (h : Fb sz b g) (hno : ∀ J' dr' : Nat → Int32, wM (wkR b sz) J J' dr' → (¬ ∃ e i, SE b sz pg t e ∧ k = nI i ∧ i < cnt b e) → post (-1) J' dr') (hyes : ∀ (e i : Nat) (J' dr' : Nat → Int32), wM (wkR b sz) J J' dr' → SE b sz pg t e → k = nI i → i < cnt b e → post (lN (vlE b e i)) J' dr') : wp_M_field post g J dr pg t k := by
  have h8 := h.1
  have h4 := h.2.1
  unfold wp_M_field
  refine p_M_entry e1 h (fun J' dr' hm n => ?_) (fun J' dr' hm i hi ep hn => ?_) (fun J' dr' hm i e hi ep hs => ?_)
  · refine br_t (by decide) (hno J' dr' hm (fun z => n ?_))
    obtain ⟨e, j, ⟨i, hi, rfl, -, -⟩, -, -⟩ := z
    have hl := (wkR_ok (b := b) h8).1
    exact ⟨nI_pos' (by omega), nI_lt hi (by omega)⟩
  · refine br_t (by decide) (hno J' dr' hm (fun z => ?_))
    obtain ⟨e, j, ⟨i', hi', ei', hs', -⟩, -, -⟩ := z
    have hl := (wkR_ok (b := b) h8).1
    have : i = i' := (nI_eq (by omega) (by omega)).mp (ep.symm.trans ei')
    subst this
    rw [hn] at hs'
    cases hs'
  · have hat := enT_in (wk_mem h8 hi) hs
    obtain ⟨a1, a2, a3, a4⟩ := al_lt h (e := e) (by omega)
    have eJ : J' 1 = nI sz := (hm.2.2.2.2 1 (by decide) (by decide) (by decide)).trans e1
    have only : ∀ (e' j : Nat), SE b sz pg t e' → e' = e ∧ ¬ brk b sz e = true := by
      intro e' j hse
      obtain ⟨i', hi', ei', hs', hb'⟩ := hse
      have hl := (wkR_ok (b := b) h8).1
      have : i = i' := (nI_eq (by omega) (by omega)).mp (ep.symm.trans ei')
      subst this
      have : e = e' := Option.some.inj (hs.symm.trans hs')
      subst this
      exact ⟨rfl, hb'⟩
    refine br_f (nI_pos (by omega)) (br_c (fun q => hno J' dr' hm (fun z => ?_)) (fun q => ?_))
    · obtain ⟨e', j, hse, ek, hj⟩ := z
      have he' := (only e' j hse).1
      subst he'
      have hb2 := (only e' j hse).2
      obtain ⟨b1', b2'⟩ := brk_f.mp hb2
      have hin := in_al (u := unK (knd b e')) hj
      have hu : 1 ≤ unK (knd b e') := by
        rcases Nat.eq_zero_or_pos (unK (knd b e')) with q | q
        · exfalso; apply b1'; unfold alB; rw [q, Nat.zero_mul]
        · exact q
      have huk : j ≤ unK (knd b e') * j := Nat.le_mul_of_pos_left _ hu
      have hal : unK (knd b e') * cnt b e' = alB b e' := rfl
      rw [ek] at q
      exact absurd q (nI_pos (by omega))
    · refine p_M_values eJ h (by omega) (fun hb => br_t (by decide) (hno J' dr' hm (fun z => ?_))) (fun hb => ?_)
      · obtain ⟨e', j, hse, -, -⟩ := z
        exact (only e' j hse).2 hb
      · obtain ⟨i3, hi3, rfl⟩ := nI_of (x := k) q
        rw [show (0 : Int64) = lN 0 from rfl, pk_lLT (by omega) (by decide), show (4 : Int32) = nI 4 from rfl, nI_add]
        refine br_f (by omega) (p_M_read (n := 4) h (by omega) (by decide) ?_)
        have ec : rdN b (e + 4) 4 = cnt b e := rfl
        rw [ec, nI_l hi3, pk_lLT (by omega) (by omega)]
        refine br_c (fun q4 => ?_) (fun q4 => hno J' dr' hm (fun z => ?_))
        · refine p_M_unit h (by omega) (p_M_values eJ h (by omega) (fun hb2 => absurd hb2 hb) (fun _ => ?_))
          obtain ⟨b1', b2'⟩ := brk_f.mp hb
          have hin := in_al (u := unK (knd b e)) q4
          have hal : unK (knd b e) * cnt b e = alB b e := rfl
          rw [lN_i, pk_mul, nI_add]
          exact p_M_read h (by omega) (unK_le _) (hyes e i3 J' dr' hm ⟨i, hi, ep, hs, hb⟩ rfl q4)
        · obtain ⟨e', j, hse, ek, hj⟩ := z
          have he' := (only e' j hse).1
          subst he'
          obtain ⟨b1', b2'⟩ := brk_f.mp hb
          have hin := in_al (u := unK (knd b e')) hj
          have hu : 1 ≤ unK (knd b e') := by
            rcases Nat.eq_zero_or_pos (unK (knd b e')) with q | q
            · exfalso; apply b1'; unfold alB; rw [q, Nat.zero_mul]
            · exact q
          have huk : j ≤ unK (knd b e') * j := Nat.le_mul_of_pos_left _ hu
          have hal : unK (knd b e') * cnt b e' = alB b e' := rfl
          have : i3 = j := (nI_eq (by omega) (by omega)).mp ek
          omega
theorem q_field {sz : Nat} {b : Nat → Nat} {I f J g In W pl dr : Nat → Int32} {Ln : Nat → Int64} (h : RF sz b I f J g) (pg t k : Int32) {Wr : Prop → Prop} {K : (Nat → Int32) → (Nat → Int64) → (Nat → Int32) → (Nat → Int32) → (Nat → Int32) → (Nat → Int32) → Prop} (hP : ∀ D : Prop, D → Wr D) (kk : ∀ (In' : Nat → Int32) (Ln' : Nat → Int64) (W' pl' J' dr' : Nat → Int32), (∀ i, i ≠ 11 → i ≠ 12 → i ≠ 14 → J' i = J i) → K In' Ln' W' pl' J' dr') : wp_X_field (fun r In' Ln' W' pl' => Wr (wp_M_field (fun r' J' dr' => (r = r' → K In' Ln' W' pl' J' dr') ∧ (¬ r = r' → False)) g J dr pg t k)) I f In Ln W pl pg t k := by
  have h8 := h.2.2.1
  have h4 := h.2.2.2.1
  unfold wp_X_field
  have no : ∀ (In' : Nat → Int32) (Ln' : Nat → Int64) (W' pl' : Nat → Int32), (¬ ∃ e i, SE b sz pg t e ∧ k = nI i ∧ i < cnt b e) → Wr (wp_M_field (fun r' J' dr' => ((-1 : Int64) = r' → K In' Ln' W' pl' J' dr') ∧ (¬ (-1 : Int64) = r' → False)) g J dr pg t k) := by
    intro In' Ln' W' pl' n
    exact hP _ (p_M_field h.2.1 h.fM (fun J' dr' hm _ => ⟨fun _ => kk _ _ _ _ _ _ hm.2.2.2.2, fun n => n rfl⟩) (fun e i J' dr' hm y1 y2 y3 => absurd ⟨e, i, y1, y2, y3⟩ n))
  refine p_findSound h.1 h.fX (fun In' Ln' W' pl' n => br_t rfl (no _ _ _ _ (fun z => ?_))) (fun e In' Ln' W' pl' hse hx => br_f (by decide) ?_)
  · obtain ⟨e, i, y, -, -⟩ := z
    exact n ⟨e, y⟩
  · have hat := hse.at h8
    obtain ⟨a1, a2, a3, a4⟩ := al_lt h.fX (e := e) (by omega)
    have hb : ¬ brk b sz e = true := by obtain ⟨-, -, -, -, hb⟩ := hse; exact hb
    obtain ⟨b1', b2'⟩ := brk_f.mp hb
    have small : ∀ j, j < cnt b e → j < 2 ^ 31 := by
      intro j hj
      have hin := in_al (u := unK (knd b e)) hj
      have hu : 1 ≤ unK (knd b e) := by
        rcases Nat.eq_zero_or_pos (unK (knd b e)) with q | q
        · exfalso; apply b1'; unfold alB; rw [q, Nat.zero_mul]
        · exact q
      have huk : j ≤ unK (knd b e) * j := Nat.le_mul_of_pos_left _ hu
      have hal : unK (knd b e) * cnt b e = alB b e := rfl
      omega
    refine br_c (fun q => no _ _ _ _ (fun z => ?_)) (fun q => ?_)
    · obtain ⟨e', j, y1, y2, y3⟩ := z
      have := SE.uni h8 hse y1
      subst this
      rw [y2] at q
      exact absurd q (nI_pos (small j y3))
    · obtain ⟨i, hi, rfl⟩ := nI_of (x := k) q
      rw [hx.2.2.1, nI_l hi, pk_lLT (by omega) (by omega)]
      refine br_c (fun q2 => ?_) (fun q2 => no _ _ _ _ (fun z => ?_))
      · refine p_En_value h.1 h.fX (by omega) hx hb q2 (hP _ (p_M_field h.2.1 h.fM (fun J' dr' hm n => absurd ⟨e, i, hse, rfl, q2⟩ n) (fun e' i' J' dr' hm y1 y2 y3 => ⟨fun _ => kk _ _ _ _ _ _ hm.2.2.2.2, fun n => n ?_⟩)))
        have e1 := SE.uni h8 hse y1
        subst e1
        have e2 : i = i' := (nI_eq hi (small i' y3)).mp y2
        rw [e2]
      · obtain ⟨e', j, y1, y2, y3⟩ := z
        have := SE.uni h8 hse y1
        subst this
        have e2 : i = j := (nI_eq hi (small j y3)).mp y2
        omega
theorem p_M_fieldCount {post : Int64 → (Nat → Int32) → (Nat → Int32) → Prop} {J g dr : Nat → Int32} {sz : Nat} {b : Nat → Nat} {pg t : Int32} (e1 : J 1 = nI sz) (h : Fb sz b g) (hno : ∀ J' dr' : Nat → Int32, wM (wkR b sz) J J' dr' → (¬ ∃ e, SE b sz pg t e) → post (-1) J' dr') (hyes : ∀ (e : Nat) (J' dr' : Nat → Int32), wM (wkR b sz) J J' dr' → SE b sz pg t e → post (lN (cnt b e)) J' dr') : wp_M_fieldCount post g J dr pg t := by
  have h8 := h.1
  have h4 := h.2.1
  unfold wp_M_fieldCount wp_M_fieldCount_b21
  refine p_M_entry e1 h (fun J' dr' hm n => ?_) (fun J' dr' hm i hi ep hn => ?_) (fun J' dr' hm i e hi ep hs => ?_)
  · refine br_t (by decide) (hno J' dr' hm (fun z => n ?_))
    obtain ⟨e, i, hi, rfl, -, -⟩ := z
    have hl := (wkR_ok (b := b) h8).1
    exact ⟨nI_pos' (by omega), nI_lt hi (by omega)⟩
  · refine br_t (by decide) (hno J' dr' hm (fun z => ?_))
    obtain ⟨e, i', hi', ei', hs', -⟩ := z
    have hl := (wkR_ok (b := b) h8).1
    have : i = i' := (nI_eq (by omega) (by omega)).mp (ep.symm.trans ei')
    subst this
    rw [hn] at hs'
    cases hs'
  · have hat := enT_in (wk_mem h8 hi) hs
    obtain ⟨a1, a2, a3, a4⟩ := al_lt h (e := e) (by omega)
    have eJ : J' 1 = nI sz := (hm.2.2.2.2 1 (by decide) (by decide) (by decide)).trans e1
    refine br_f (nI_pos (by omega)) (p_M_values eJ h (by omega) (fun hb => br_f (by decide) (hno J' dr' hm (fun z => ?_))) (fun hb => ?_))
    · obtain ⟨e', i', hi', ei', hs', hb'⟩ := z
      have hl := (wkR_ok (b := b) h8).1
      have : i = i' := (nI_eq (by omega) (by omega)).mp (ep.symm.trans ei')
      subst this
      have : e = e' := Option.some.inj (hs.symm.trans hs')
      subst this
      exact hb' hb
    · rw [show (0 : Int64) = lN 0 from rfl, pk_lLE (by decide) (by omega), show (4 : Int32) = nI 4 from rfl, nI_add]
      exact br_t (by omega) (p_M_read (n := 4) h (by omega) (by decide) (hyes e J' dr' hm ⟨i, hi, ep, hs, hb⟩))
theorem q_fieldCount {sz : Nat} {b : Nat → Nat} {I f J g In W pl dr : Nat → Int32} {Ln : Nat → Int64} (h : RF sz b I f J g) (pg t : Int32) {Wr : Prop → Prop} {K : (Nat → Int32) → (Nat → Int64) → (Nat → Int32) → (Nat → Int32) → (Nat → Int32) → (Nat → Int32) → Prop} (hP : ∀ D : Prop, D → Wr D) (kk : ∀ (In' : Nat → Int32) (Ln' : Nat → Int64) (W' pl' J' dr' : Nat → Int32), (∀ i, i ≠ 11 → i ≠ 12 → i ≠ 14 → J' i = J i) → K In' Ln' W' pl' J' dr') : wp_X_fieldCount (fun r In' Ln' W' pl' => Wr (wp_M_fieldCount (fun r' J' dr' => (r = r' → K In' Ln' W' pl' J' dr') ∧ (¬ r = r' → False)) g J dr pg t)) I f In Ln W pl pg t := by
  have h8 := h.2.2.1
  unfold wp_X_fieldCount
  refine p_findSound h.1 h.fX (fun In' Ln' W' pl' n => br_t rfl (hP _ (p_M_fieldCount h.2.1 h.fM (fun J' dr' hm _ => ⟨fun _ => kk _ _ _ _ _ _ hm.2.2.2.2, fun n => n rfl⟩) (fun e J' dr' hm y => absurd ⟨e, y⟩ n)))) (fun e In' Ln' W' pl' hse hx => br_f (by decide) (hP _ (p_M_fieldCount h.2.1 h.fM (fun J' dr' hm n => absurd ⟨e, hse⟩ n) (fun e' J' dr' hm y => ⟨fun _ => kk _ _ _ _ _ _ hm.2.2.2.2, fun n => n ?_⟩))))
  rw [hx.2.2.1, SE.uni h8 hse y]
