/-! load: strips that are plain or packets -/
theorem okG.uni {b : Nat → Nat} {sz p cs rs dp mt ec pr a1 a2 cs' rs' dp' mt' ec' pr' a1' a2' : Nat} (h : okG b sz p cs rs dp mt ec pr a1 a2) (g : okG b sz p cs' rs' dp' mt' ec' pr' a1' a2') : cs = cs' ∧ rs = rs' ∧ dp = dp' ∧ mt = mt' ∧ ec = ec' ∧ pr = pr' ∧ a1 = a1' ∧ a2 = a2' := by
  obtain ⟨u, ⟨o1, c1⟩, ⟨o2, c2⟩, ⟨o3, c3⟩, ⟨o4, c4⟩, ⟨r, c5, o5, c6, c7⟩, ⟨o6, c8⟩, g1, g2⟩ := h
  obtain ⟨u', ⟨o1', c1'⟩, ⟨o2', c2'⟩, ⟨o3', c3'⟩, ⟨o4', c4'⟩, ⟨r', c5', o5', c6', c7'⟩, ⟨o6', c8'⟩, g1', g2'⟩ := g
  unfold dpO at c3 c3'
  unfold mtO at c4 c4'
  have q1 := lN_inj (by omega) (by omega) (o1.uni o1')
  have q2 := lN_inj (by omega) (by omega) (o2.uni o2')
  have q3 := lN_inj (by omega) (by omega) (o3.uni o3')
  have q4 := lN_inj (by omega) (by omega) (o4.uni o4')
  have q5 := lN_inj (by omega) (by omega) (o5.uni o5')
  have q6 := lN_inj (by omega) (by omega) (o6.uni o6')
  subst q1 q2 q3 q4 q5 q6
  have q7 : ec = ec' := c7.trans c7'.symm
  subst q7
  exact ⟨rfl, rfl, rfl, rfl, rfl, rfl, g1.uni g1', g2.uni g2'⟩
/-- the bytes l stand in f' from fr on; below fr nothing has changed -/
def gX (f f' : Nat → Int32) (fr : Nat) (l : List Nat) : Prop := (∀ j, j < l.length → f' (fr + j) = nI (l.getD j 0)) ∧ ∀ j, j < fr → f' j = f j
theorem gX.nil (f : Nat → Int32) (fr : Nat) : gX f f fr [] := ⟨fun j hj => absurd hj (by simp), fun _ _ => rfl⟩
theorem gX.snoc {f f' : Nat → Int32} {fr x : Nat} {l : List Nat} (h : gX f f' fr l) : gX f (upd f' (fr + l.length) (nI x)) fr (l ++ [x]) := by
  constructor
  · intro j hj
    rw [List.length_append, List.length_singleton] at hj
    rw [upd_at, getD_snoc hj]
    by_cases q : j = l.length
    · rw [if_pos (by omega), if_pos q]
    · rw [if_neg (by omega), if_neg q]
      exact h.1 j (by omega)
  · intro j hj
    rw [upd_at, if_neg (by omega)]
    exact h.2 j hj
def cpL (b s : Nat → Nat) (acc : List Nat) : Nat → List Nat
  | 0 => acc
  | k + 1 => cpL b s acc k ++ [b (s k)]
theorem cpL_len (b s : Nat → Nat) (acc : List Nat) (k : Nat) : (cpL b s acc k).length = acc.length + k := by
  induction k with
  | zero => rfl
  | succ k ih => simp only [cpL, List.length_append, ih, List.length_singleton]; omega
theorem cpL_lt {b s : Nat → Nat} {acc : List Nat} (h : ∀ x ∈ acc, x < 256) : ∀ k, (∀ j, j < k → b (s j) < 256) → ∀ x ∈ cpL b s acc k, x < 256 := by
  intro k
  induction k with
  | zero => intro _; exact h
  | succ k ih =>
    intro hk x hx
    rcases List.mem_append.mp hx with hx | hx
    · exact ih (fun j hj => hk j (by omega)) x hx
    · rw [List.mem_singleton.mp hx]; exact hk k (by omega)
/-- k bytes more, from base on -/
def cpF (b s : Nat → Nat) (f : Nat → Int32) (base k : Nat) : Nat → Int32 := fun j => if base ≤ j ∧ j < base + k then nI (b (s (j - base))) else f j
theorem cpF_0 (b s : Nat → Nat) (f : Nat → Int32) (base : Nat) : cpF b s f base 0 = f := by
  funext j
  unfold cpF
  rw [if_neg (by omega)]
theorem cpF_s (b s : Nat → Nat) (f : Nat → Int32) (base k : Nat) : upd (cpF b s f base k) (base + k) (nI (b (s k))) = cpF b s f base (k + 1) := by
  funext j
  unfold cpF
  rw [upd_at]
  by_cases y : j = base + k
  · rw [if_pos y, if_pos (by omega), show j - base = k by omega]
  · rw [if_neg y]
    by_cases y2 : base ≤ j ∧ j < base + k
    · rw [if_pos y2, if_pos (by omega)]
    · rw [if_neg y2, if_neg (by omega)]
theorem gX.cpF {f f' : Nat → Int32} {fr : Nat} {acc : List Nat} {b : Nat → Nat} (hg : gX f f' fr acc) (k : Nat) (s : Nat → Nat) : gX f (cpF b s f' (fr + acc.length) k) fr (cpL b s acc k) := by
  induction k with
  | zero => rw [cpF_0]; exact hg
  | succ k ih =>
    have := ih.snoc (x := b (s k))
    rw [cpL_len, ← Nat.add_assoc, cpF_s] at this
    exact this
def dPl (b : Nat → Nat) (a n want : Nat) : Option (List Nat) := if n = want then some (cpL b (fun k => a + k) [] want) else none
theorem p_takePlain {post : Int32 → (Nat → Int32) → Prop} {I fb f : Nat → Int32} {sz a n fr want : Nat} {b : Nat → Nat} (h : Fb sz b fb) (ha : a + n ≤ sz) (hw : fr + want ≤ 256) (h1 : ∀ l f', dPl b a n want = some l → gX f f' fr l → post 1 f') (h0 : dPl b a n want = none → ∀ f', post 0 f') : wp_Da_takePlain post I fb f (nI a) (nI (a + n)) (nI fr) (nI (fr + want)) := by
  have h4 := h.2.1
  unfold dPl at h1 h0
  unfold wp_Da_takePlain
  rw [pk_sub (by omega), pk_sub (by omega), show a + n - a = n by omega, show fr + want - fr = want by omega, nI_eq (by omega) (by omega)]
  refine br_c (fun q => ?_) (fun q => h0 (if_neg q) _)
  subst q
  have key : ∀ (m k : Nat) (f' : Nat → Int32), k + m = n → gX f f' fr (cpL b (fun k => a + k) [] k) → wp_Da_takePlain_l16 post I fb (m + 1) f' (nI a) (nI fr) (nI (fr + n)) (nI k) := by
    intro m
    induction m with
    | zero =>
      intro k f' hk hg
      unfold wp_Da_takePlain_l16
      rw [pk_sub (by omega)]
      have : k = n := by omega
      subst this
      exact br_t (nI_le (by omega) (by omega)) (h1 _ _ (if_pos rfl) hg)
    | succ m ih =>
      intro k f' hk hg
      unfold wp_Da_takePlain_l16
      rw [pk_sub (by omega), nI_add, nI_add, nI_clamp (by omega), nI_clamp (by omega), (h.2.2 (a + k) (by omega)).2, nI_1]
      refine br_f (nI_ge (by omega) (by omega)) ⟨vp_in_nI (by omega) (by decide), vp_in_nI (by omega) (by decide), ih (k + 1) _ (by omega) ?_⟩
      have := hg.snoc (x := b (a + k))
      rw [cpL_len] at this
      simpa [cpL] using this
  exact ⟨n + 1, key n 0 f (by omega) (gX.nil f fr)⟩
def dPk (b : Nat → Nat) (stop want : Nat) : Nat → Nat → List Nat → Option (List Nat)
  | 0, _, _ => none
  | n + 1, p, acc =>
    if stop ≤ p then (if acc.length = want then some acc else none)
    else if b p = 128 then dPk b stop want n (p + 1) acc
    else if b p < 128 then (if p + 2 + b p ≤ stop ∧ acc.length + (b p + 1) ≤ want then dPk b stop want n (p + 2 + b p) (cpL b (fun k => p + 1 + k) acc (b p + 1)) else none)
    else (if p + 2 ≤ stop ∧ acc.length + (257 - b p) ≤ want then dPk b stop want n (p + 2) (cpL b (fun _ => p + 1) acc (257 - b p)) else none)
theorem dPk_ok {b : Nat → Nat} {stop want : Nat} (hb : ∀ j, j < stop → b j < 256) : ∀ (n p : Nat) (acc l : List Nat), (∀ x ∈ acc, x < 256) → dPk b stop want n p acc = some l → l.length = want ∧ ∀ x ∈ l, x < 256 := by
  intro n
  induction n with
  | zero => intro p acc l _ h; cases h
  | succ n ih =>
    intro p acc l ha h
    unfold dPk at h
    split at h
    · split at h
      · next q => cases h; exact ⟨q, ha⟩
      · cases h
    · split at h
      · exact ih _ _ _ ha h
      · split at h
        · split at h
          · next q => exact ih _ _ _ (cpL_lt ha _ (fun j hj => hb _ (by omega))) h
          · cases h
        · split at h
          · next q => exact ih _ _ _ (cpL_lt ha _ (fun j hj => hb _ (by omega))) h
          · cases h
theorem p_Pk_decode {post : Int32 → (Nat → Int32) → Prop} {I fb f : Nat → Int32} {sz a n fr want : Nat} {b : Nat → Nat} (h : Fb sz b fb) (ha : a + n ≤ sz) (hw : fr + want ≤ 256) (h1 : ∀ l f', dPk b (a + n) want (n + 1) a [] = some l → gX f f' fr l → post 1 f') (h0 : dPk b (a + n) want (n + 1) a [] = none → ∀ f', post 0 f') : wp_Pk_decode post I fb f (nI a) (nI (a + n)) (nI fr) (nI (fr + want)) := by
  have h4 := h.2.1
  unfold wp_Pk_decode
  have key : ∀ (m p : Nat) (acc : List Nat) (f' : Nat → Int32), a + n < p + m → p ≤ a + n → acc.length ≤ want → gX f f' fr acc → (∀ l f', dPk b (a + n) want m p acc = some l → gX f f' fr l → post 1 f') → (dPk b (a + n) want m p acc = none → ∀ f', post 0 f') → wp_Pk_decode_l7 post I fb m f' (nI (a + n)) (nI (fr + want)) (nI p) (nI (fr + acc.length)) := by
    intro m
    induction m with
    | zero => intro p acc f' q1 q2; omega
    | succ m ih =>
      intro p acc f' q1 q2 q3 hg k1 k0
      unfold wp_Pk_decode_l7
      unfold dPk at k1 k0
      refine pk_le (a + n) p (fun z => ?_) (fun z => ?_)
      · rw [if_pos z] at k1 k0
        refine pk_eq (fr + acc.length) (fr + want) (fun y => ?_) (fun y => ?_)
        · rw [if_pos (by omega)] at k1
          exact k1 _ _ rfl hg
        · rw [if_neg (by omega)] at k0
          exact k0 rfl _
      · rw [if_neg (by omega)] at k1 k0
        refine ⟨vp_in_nI (by omega) (by decide), ?_⟩
        obtain ⟨i1, i2⟩ := h.2.2 p (by omega)
        rw [nI_clamp (by omega), i2, nI_1]
        -- the copying of one packet
        have cp : ∀ (giv tak : Nat) (x9 : Int32) (s : Nat → Nat), acc.length + giv ≤ want → p + 1 + tak ≤ a + n → (∀ k, k < giv → s k < a + n) → ((x9 = 0 ∧ ∀ k, s k = p + 1 + k) ∨ (x9 = 1 ∧ ∀ k, s k = p + 1)) → wp_Pk_decode_l7 post I fb m (cpF b s f' (fr + acc.length) giv) (nI (a + n)) (nI (fr + want)) (nI (p + 1 + tak)) (nI (fr + acc.length + giv)) → ∃ n1, wp_Pk_decode_l108 post (wp_Pk_decode_l7 post I fb m) I fb n1 f' (nI (a + n)) (nI (fr + want)) (nI (p + 1)) (nI (fr + acc.length)) x9 (nI giv) (nI tak) 0 := by
          intro giv tak x9 s g1 g2 g3 g4 hk
          have inn : ∀ (m' k : Nat), k + m' = giv → wp_Pk_decode_l108 post (wp_Pk_decode_l7 post I fb m) I fb (m' + 1) (cpF b s f' (fr + acc.length) k) (nI (a + n)) (nI (fr + want)) (nI (p + 1)) (nI (fr + acc.length)) x9 (nI giv) (nI tak) (nI k) := by
            intro m'
            induction m' with
            | zero =>
              intro k hk'
              unfold wp_Pk_decode_l108
              have : k = giv := by omega
              subst this
              rw [nI_add, nI_add]
              exact br_t (nI_le (by omega) (by omega)) hk
            | succ m' ihm =>
              intro k hk'
              unfold wp_Pk_decode_l108 wp_Pk_decode_b140
              rw [nI_add (p + 1) k, nI_add (fr + acc.length) k, nI_1 k, nI_clamp (n := fr + acc.length + k) (by omega), nI_clamp (n := p + 1 + k) (by omega), nI_clamp (n := p + 1) (by omega)]
              have g3k := g3 k (by omega)
              have st : ∀ x, x = nI (b (s k)) → wp_Pk_decode_l108 post (wp_Pk_decode_l7 post I fb m) I fb (m' + 1) (upd (cpF b s f' (fr + acc.length) k) (fr + acc.length + k) x) (nI (a + n)) (nI (fr + want)) (nI (p + 1)) (nI (fr + acc.length)) x9 (nI giv) (nI tak) (nI (k + 1)) := fun x e => by rw [e, cpF_s]; exact ihm (k + 1) (by omega)
              refine br_f (nI_ge (by omega) (by omega)) ?_
              rcases g4 with ⟨rfl, g4⟩ | ⟨rfl, g4⟩
              · have := g4 k
                exact br_t rfl ⟨vp_in_nI (by omega) (by decide), vp_in_nI (by omega) (by decide), st _ (by rw [(h.2.2 (p + 1 + k) (by omega)).2, g4 k])⟩
              · have := g4 k
                exact br_f (by decide) ⟨vp_in_nI (by omega) (by decide), vp_in_nI (by omega) (by decide), st _ (by rw [(h.2.2 (p + 1) (by omega)).2, g4 k])⟩
          refine ⟨giv + 1, ?_⟩
          have := inn giv 0 (by omega)
          rw [cpF_0] at this
          exact this
        refine pk_eq (b p) 128 (fun y => ?_) (fun y => ?_)
        · rw [if_pos y] at k1 k0
          exact ih (p + 1) acc f' (by omega) (by omega) q3 hg k1 k0
        · rw [if_neg y] at k1 k0
          unfold wp_Pk_decode_b49 wp_Pk_decode_b69 wp_Pk_decode_b82
          rw [pk_sub (by omega), pk_sub (by omega), nI_1, show (257 : Int32) = nI 257 from rfl, pk_sub (by omega)]
          refine pk_le (b p) 128 (fun y2 => br_t rfl (br_t rfl ?_)) (fun y2 => br_f (by decide) (br_f (by decide) ?_))
          · rw [if_pos (by omega)] at k1 k0
            refine pk_lt (a + n - (p + 1)) (b p + 1) (fun y3 => ?_) (fun y3 => pk_le (b p + 1) (fr + want - (fr + acc.length)) (fun y4 => ?_) (fun y4 => ?_))
            · rw [if_neg (by omega)] at k0
              exact k0 rfl _
            · rw [if_pos (by omega)] at k1 k0
              refine cp (b p + 1) (b p + 1) 0 (fun k => p + 1 + k) (by omega) (by omega) (fun k hk => by show p + 1 + k < a + n; omega) (Or.inl ⟨rfl, fun k => rfl⟩) ?_
              have := ih (p + 2 + b p) (cpL b (fun k => p + 1 + k) acc (b p + 1)) _ (by omega) (by omega) (by rw [cpL_len]; omega) (hg.cpF (b p + 1) (fun k => p + 1 + k)) k1 k0
              rw [cpL_len, ← Nat.add_assoc] at this
              rw [show p + 1 + (b p + 1) = p + 2 + b p by omega]
              exact this
            · rw [if_neg (by omega)] at k0
              exact k0 rfl _
          · rw [if_neg (by omega)] at k1 k0
            refine pk_lt (a + n - (p + 1)) 1 (fun y3 => ?_) (fun y3 => pk_le (257 - b p) (fr + want - (fr + acc.length)) (fun y4 => ?_) (fun y4 => ?_))
            · rw [if_neg (by omega)] at k0
              exact k0 rfl _
            · rw [if_pos (by omega)] at k1 k0
              refine cp (257 - b p) 1 1 (fun _ => p + 1) (by omega) (by omega) (fun k hk => by show p + 1 < a + n; omega) (Or.inr ⟨rfl, fun k => rfl⟩) ?_
              have := ih (p + 2) (cpL b (fun _ => p + 1) acc (257 - b p)) _ (by omega) (by omega) (by rw [cpL_len]; omega) (hg.cpF (257 - b p) (fun _ => p + 1)) k1 k0
              rw [cpL_len, ← Nat.add_assoc fr] at this
              exact this
            · rw [if_neg (by omega)] at k0
              exact k0 rfl _
  have := key (n + 1) a [] f (by omega) (by omega) (Nat.zero_le _) (gX.nil f fr) h1 h0
  exact ⟨n + 1, this⟩
theorem p_M_plain {post : Int32 → (Nat → Int32) → (Nat → Int32) → (Nat → Int32) → (Nat → Int32) → (Nat → Int32) → (Nat → Int32) → Prop} {J fb d dr mn nb st : Nat → Int32} {sz a n want : Nat} {b : Nat → Nat} (h : Fb sz b fb) (ha : a + n ≤ sz) (hw : want ≤ 256) (h1 : ∀ l d', dPl b a n want = some l → gX d d' 0 l → post 1 J d' dr mn nb st) (h0 : dPl b a n want = none → ∀ d', post 0 J d' dr mn nb st) : ∃ n1, wp_M_strip_l122 post fb n1 J d dr mn nb st (lN a) (lN n) (nI want) 0 := by
  have h4 := h.2.1
  unfold dPl at h1 h0
  by_cases q : n = want
  · subst q
    have key : ∀ (m k : Nat) (d' : Nat → Int32), k + m = n → gX d d' 0 (cpL b (fun k => a + k) [] k) → wp_M_strip_l122 post fb (m + 1) J d' dr mn nb st (lN a) (lN n) (nI n) (nI k) := by
      intro m
      induction m with
      | zero =>
        intro k d' hk hg
        unfold wp_M_strip_l122 wp_M_strip_b161
        have : k = n := by omega
        subst this
        exact br_t (nI_le (by omega) (by omega)) (br_t (nI_l (by omega)).symm (h1 _ _ (if_pos rfl) hg))
      | succ m ih =>
        intro k d' hk hg
        unfold wp_M_strip_l122
        rw [lN_i, nI_add, nI_clamp (n := k) (by omega), nI_clamp (by omega), (h.2.2 (a + k) (by omega)).2, nI_1]
        refine br_f (nI_ge (by omega) (by omega)) (br_t (nI_l (by omega)).symm ⟨vp_in_nI (by omega) (by decide), vp_in_nI (by omega) (by decide), ih (k + 1) _ (by omega) ?_⟩)
        have := hg.snoc (x := b (a + k))
        rw [cpL_len] at this
        simpa [cpL] using this
    exact ⟨n + 1, key n 0 d (by omega) (gX.nil d 0)⟩
  · refine ⟨1, ?_⟩
    unfold wp_M_strip_l122 wp_M_strip_b161
    have ne : ¬ lN n = (nI want).toInt64 := by
      rw [nI_l (by omega), pk_lEQ (by omega) (by omega)]; exact q
    refine br_c (fun _ => br_f ne (h0 (if_neg q) _)) (fun _ => br_f ne (br_f ne (h0 (if_neg q) _)))
theorem p_M_unpack {post : Int32 → (Nat → Int32) → Prop} {J fb f : Nat → Int32} {sz a n want : Nat} {b : Nat → Nat} (h : Fb sz b fb) (ha : a + n ≤ sz) (hw : want ≤ 256) (h1 : ∀ l f', dPk b (a + n) want (n + 1) a [] = some l → gX f f' 0 l → post 1 f') (h0 : dPk b (a + n) want (n + 1) a [] = none → ∀ f', post 0 f') : wp_M_unpack post J fb f (nI a) (nI n) (nI want) := by
  have h4 := h.2.1
  unfold wp_M_unpack
  have key : ∀ (m p : Nat) (acc : List Nat) (f' : Nat → Int32), a + n < p + m → p ≤ a + n → acc.length ≤ want → gX f f' 0 acc → (∀ l f', dPk b (a + n) want m p acc = some l → gX f f' 0 l → post 1 f') → (dPk b (a + n) want m p acc = none → ∀ f', post 0 f') → wp_M_unpack_l6 post J fb m f' (nI a) (nI n) (nI want) (nI p) (nI acc.length) := by
    intro m
    induction m with
    | zero => intro p acc f' q1 q2; omega
    | succ m ih =>
      intro p acc f' q1 q2 q3 hg k1 k0
      unfold wp_M_unpack_l6
      unfold dPk at k1 k0
      rw [nI_add a n]
      refine pk_le (a + n) p (fun z => ?_) (fun z => ?_)
      · rw [if_pos z] at k1 k0
        refine pk_eq acc.length want (fun y => ?_) (fun y => ?_)
        · rw [if_pos (by omega)] at k1
          exact k1 _ _ rfl hg
        · rw [if_neg (by omega)] at k0
          exact k0 rfl _
      · rw [if_neg (by omega)] at k1 k0
        refine ⟨vp_in_nI (by omega) (by decide), ?_⟩
        obtain ⟨i1, i2⟩ := h.2.2 p (by omega)
        rw [nI_clamp (by omega), i2]
        -- the copying of one packet
        have cp : ∀ (giv tak : Nat) (s : Nat → Nat), acc.length + giv ≤ want → p + tak ≤ a + n → (∀ k, k < giv → s k < a + n) → ((128 ≤ b p ∧ ∀ k, s k = p + 1) ∨ (b p < 128 ∧ ∀ k, s k = p + 1 + k)) → wp_M_unpack_l6 post J fb m (cpF b s f' acc.length giv) (nI a) (nI n) (nI want) (nI (p + tak)) (nI (acc.length + giv)) → ∃ n1, wp_M_unpack_l113 post (wp_M_unpack_l6 post J fb m) J fb n1 f' (nI a) (nI n) (nI want) (nI p) (nI acc.length) (nI (b p)) (nI giv) (nI tak) 0 := by
          intro giv tak s g1 g2 g3 g4 hk
          have inn : ∀ (m' k : Nat), k + m' = giv → wp_M_unpack_l113 post (wp_M_unpack_l6 post J fb m) J fb (m' + 1) (cpF b s f' acc.length k) (nI a) (nI n) (nI want) (nI p) (nI acc.length) (nI (b p)) (nI giv) (nI tak) (nI k) := by
            intro m'
            induction m' with
            | zero =>
              intro k hk'
              unfold wp_M_unpack_l113
              have : k = giv := by omega
              subst this
              rw [nI_add, nI_add]
              exact br_t (nI_le (by omega) (by omega)) hk
            | succ m' ihm =>
              intro k hk'
              unfold wp_M_unpack_l113 wp_M_unpack_b155
              rw [nI_1 p, nI_add (p + 1) k, nI_add acc.length k, nI_1 k, nI_clamp (n := acc.length + k) (by omega), nI_clamp (n := p + 1 + k) (by omega), nI_clamp (n := p + 1) (by omega)]
              have g3k := g3 k (by omega)
              have st : ∀ x, x = nI (b (s k)) → wp_M_unpack_l113 post (wp_M_unpack_l6 post J fb m) J fb (m' + 1) (upd (cpF b s f' acc.length k) (acc.length + k) x) (nI a) (nI n) (nI want) (nI p) (nI acc.length) (nI (b p)) (nI giv) (nI tak) (nI (k + 1)) := fun x e => by rw [e, cpF_s]; exact ihm (k + 1) (by omega)
              refine br_f (nI_ge (by omega) (by omega)) ?_
              rcases g4 with ⟨gb, g4⟩ | ⟨gb, g4⟩
              · have := g4 k
                exact br_t (nI_le (a := 128) gb (by omega)) ⟨vp_in_nI (by omega) (by decide), vp_in_nI (by omega) (by decide), st _ (by rw [(h.2.2 (p + 1) (by omega)).2, g4 k])⟩
              · have := g4 k
                exact br_f (nI_ge (b := 128) gb (by decide)) ⟨vp_in_nI (by omega) (by decide), vp_in_nI (by omega) (by decide), st _ (by rw [(h.2.2 (p + 1 + k) (by omega)).2, g4 k])⟩
          refine ⟨giv + 1, ?_⟩
          have := inn giv 0 (by omega)
          rw [cpF_0] at this
          exact this
        have gz := fun k s => (hg.cpF (b := b) k s)
        simp only [Nat.zero_add] at gz
        unfold wp_M_unpack_b56 wp_M_unpack_b86
        rw [nI_add a n, nI_1 (b p), show (1 : Int32) + nI (b p + 1) = nI (1 + (b p + 1)) from nI_add 1 _, nI_add p (1 + (b p + 1)), show nI p + 1 = nI (p + 1) from nI_1 p, show nI p + 2 = nI (p + 2) from nI_add p 2, show (257 : Int32) - nI (b p) = nI (257 - b p) from pk_sub (a := 257) (by omega), nI_add acc.length (257 - b p), nI_add acc.length (b p + 1), show nI acc.length + 0 = nI acc.length from nI_add acc.length 0]
        refine pk_le 128 (b p) (fun y2 => pk_eq (b p) 128 (fun y => br_t (nI_le (a := 128) y2 (by omega)) (br_t (by rw [y]; rfl) ?_)) (fun y => br_t (nI_le (a := 128) y2 (by omega)) (br_f (fun z => y ((nI_eq (b := 128) (by omega) (by decide)).mp z)) ?_))) (fun y2 => br_f (nI_ge (b := 128) y2 (by decide)) ?_)
        · rw [if_pos y] at k1 k0
          refine br_f (nI_nlt (by omega) (by omega)) (br_t (nI_le (by omega) (by omega)) ?_)
          refine cp 0 1 (fun _ => p + 1) (by omega) (by omega) (fun k hk => absurd hk (by omega)) (Or.inl ⟨y2, fun k => rfl⟩) ?_
          rw [cpF_0]
          exact ih (p + 1) acc f' (by omega) (by omega) q3 hg k1 k0
        · rw [if_neg y, if_neg (by omega)] at k1 k0
          refine pk_lt (a + n) (p + 2) (fun y3 => ?_) (fun y3 => pk_le (acc.length + (257 - b p)) want (fun y4 => ?_) (fun y4 => ?_))
          · rw [if_neg (by omega)] at k0
            exact k0 rfl _
          · rw [if_pos (by omega)] at k1 k0
            refine cp (257 - b p) 2 (fun _ => p + 1) (by omega) (by omega) (fun k hk => by show p + 1 < a + n; omega) (Or.inl ⟨y2, fun k => rfl⟩) ?_
            have := ih (p + 2) (cpL b (fun _ => p + 1) acc (257 - b p)) _ (by omega) (by omega) (by rw [cpL_len]; omega) (gz (257 - b p) (fun _ => p + 1)) k1 k0
            rw [cpL_len] at this
            exact this
          · rw [if_neg (by omega)] at k0
            exact k0 rfl _
        · rw [if_neg (by omega), if_pos (by omega)] at k1 k0
          refine pk_lt (a + n) (p + (1 + (b p + 1))) (fun y3 => ?_) (fun y3 => pk_le (acc.length + (b p + 1)) want (fun y4 => ?_) (fun y4 => ?_))
          · rw [if_neg (by omega)] at k0
            exact k0 rfl _
          · rw [if_pos (by omega)] at k1 k0
            refine cp (b p + 1) (1 + (b p + 1)) (fun k => p + 1 + k) (by omega) (by omega) (fun k hk => by show p + 1 + k < a + n; omega) (Or.inr ⟨y2, fun k => rfl⟩) ?_
            have := ih (p + 2 + b p) (cpL b (fun k => p + 1 + k) acc (b p + 1)) _ (by omega) (by omega) (by rw [cpL_len]; omega) (gz (b p + 1) (fun k => p + 1 + k)) k1 k0
            rw [cpL_len] at this
            rw [show p + (1 + (b p + 1)) = p + 2 + b p by omega]
            exact this
          · rw [if_neg (by omega)] at k0
            exact k0 rfl _
  have := key (n + 1) a [] f (by omega) (by omega) (Nat.zero_le _) (gX.nil f 0) h1 h0
  exact ⟨n + 1, this⟩
