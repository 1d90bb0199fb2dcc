/-! load, on both sides -/
def ldR (b : Nat → Nat) (sz cs rs dp mt ec a1 a2 : Nat) : Nat → Nat → List Nat → Nat ⊕ List Nat
  | 0, _, acc => .inr acc
  | m + 1, k, acc => match stD b sz cs rs dp mt ec a1 a2 k with
    | none => .inl k
    | some l => ldR b sz cs rs dp mt ec a1 a2 m (k + 1) (acc ++ l)
theorem ldR_none {b : Nat → Nat} {sz cs rs dp mt ec a1 a2 m k : Nat} {acc : List Nat} (h : stD b sz cs rs dp mt ec a1 a2 k = none) : ldR b sz cs rs dp mt ec a1 a2 (m + 1) k acc = .inl k := by
  simp only [ldR, h]
theorem ldR_some {b : Nat → Nat} {sz cs rs dp mt ec a1 a2 m k : Nat} {acc l : List Nat} (h : stD b sz cs rs dp mt ec a1 a2 k = some l) : ldR b sz cs rs dp mt ec a1 a2 (m + 1) k acc = ldR b sz cs rs dp mt ec a1 a2 m (k + 1) (acc ++ l) := by
  simp only [ldR, h]
theorem okG.facts {b : Nat → Nat} {sz p cs rs dp mt ec pr a1 a2 : Nat} (h : okG b sz p cs rs dp mt ec pr a1 a2) : (1 ≤ cs ∧ cs ≤ 16) ∧ (1 ≤ rs ∧ rs ≤ 16) ∧ dpO dp ∧ (pr = 1 ∨ pr = 2) ∧ (1 ≤ ec ∧ ec ≤ rs) ∧ mtO mt := by
  obtain ⟨u, ⟨o1, c1, c2⟩, ⟨o2, r1, r2⟩, ⟨o3, hd⟩, ⟨o4, hm⟩, ⟨r, hr, o5, r3, hec⟩, ⟨o6, hp⟩, g1, g2⟩ := h
  exact ⟨⟨c1, c2⟩, ⟨r1, r2⟩, hd, hp, by rw [hec]; split <;> omega, hm⟩
theorem gX.join {f f' f'' : Nat → Int32} {fr : Nat} {acc l : List Nat} (h1 : gX f f' 0 acc) (hl : acc.length = fr) (h2 : gX f' f'' fr l) : gX f f'' 0 (acc ++ l) := by
  refine ⟨fun j hj => ?_, fun j hj => absurd hj (by omega)⟩
  rw [Nat.zero_add]
  rw [List.length_append] at hj
  by_cases q : j < acc.length
  · rw [getD_app q, h2.2 j (by omega)]
    have := h1.1 j q
    rw [Nat.zero_add] at this
    exact this
  · obtain ⟨i, rfl⟩ : ∃ i, j = acc.length + i := ⟨j - acc.length, by omega⟩
    rw [getD_app2, hl]
    exact h2.1 i (by omega)
theorem app_lt {l1 l2 : List Nat} {m : Nat} (h1 : ∀ x ∈ l1, x < m) (h2 : ∀ x ∈ l2, x < m) : ∀ x ∈ l1 ++ l2, x < m := fun x hx => (List.mem_append.mp hx).elim (h1 x) (h2 x)
theorem p_X_loadL {post : Int32 → (Nat → Int32) → (Nat → Int32) → (Nat → Int32) → (Nat → Int32) → (Nat → Int32) → (Nat → Int64) → (Nat → Int32) → (Nat → Int32) → (Nat → Int32) → (Nat → Int32) → (Nat → Int64) → (Nat → Int32) → (Nat → Int64) → (Nat → Int32) → (Nat → Int32) → Prop} {I fb f D zs st In IY IPi fS IS IP W pl : Nat → Int32} {Ln LS LP : Nat → Int64} {sz p cs rs dp mt ec pr a1 a2 : Nat} {b : Nat → Nat} (e1 : I 1 = nI sz) (h : Fb sz b fb) (hs : stS b sz p = true) (hG : okG b sz p cs rs dp mt ec pr a1 a2) (hl : lyX cs rs dp mt ec pr IY) (x1 : enX b sz a1 IP LP) (x2 : enX b sz a2 IS LS)
    (h0 : ∀ q, ldR b sz cs rs dp mt ec a1 a2 (nSt rs ec) 0 [] = .inl q → ∀ f' D' zs' st' : Nat → Int32, post (-6 - nI q) f' D' zs' st' In Ln IY IPi fS IS LS IP LP W pl)
    (h1 : ∀ Dl, ldR b sz cs rs dp mt ec a1 a2 (nSt rs ec) 0 [] = .inr Dl → ∀ f' D' zs' st' IPi' fS' : Nat → Int32, (IPi' 1 = nI cs ∧ IPi' 2 = nI rs ∧ IPi' 3 = nI dp) → (∀ y x, y < rs → x < cs → fS' (16 * y + x) = nI (smS Dl cs dp pr y x)) → post 0 f' D' zs' st' In Ln IY IPi' fS' IS LS IP LP W pl) : ∃ n1, wp_X_load_l46 post I fb n1 f D zs st In Ln IY IPi fS IS LS IP LP W pl 0 := by
  obtain ⟨⟨c1, c2⟩, ⟨r1, r2⟩, hd, hpr, he, hm⟩ := hG.facts
  have hn := nSt_le he.1 he.2
  have key : ∀ (m k : Nat) (acc : List Nat) (f' D zs st : Nat → Int32), k + m = nSt rs ec → acc.length = frR rs ec k * rbN cs dp → (∀ x ∈ acc, x < 256) → gX f f' 0 acc → ldR b sz cs rs dp mt ec a1 a2 (nSt rs ec) 0 [] = ldR b sz cs rs dp mt ec a1 a2 m k acc → wp_X_load_l46 post I fb (m + 1) f' D zs st In Ln IY IPi fS IS LS IP LP W pl (nI k) := by
    intro m
    induction m with
    | zero =>
      intro k acc f' D zs st hk ha h256 hg hR
      unfold wp_X_load_l46
      have : k = nSt rs ec := by omega
      subst this
      rw [frR_last he.1] at ha
      refine p_Ly_strips hl.2.1 hl.2.2.2.2.1 he.1 he.2 r2 (br_t (nI_le (by omega) (by omega)) ?_)
      unfold wp_Pi_become
      rw [hl.1, hl.2.1, hl.2.2.1]
      refine p_J_fill (fun f0 hf0 => p_unpack (D := acc) hl rfl rfl rfl hd c2 r2 hpr ha h256 (fun j hj => ?_) (fun fS' hfS => h1 acc hR _ _ _ _ _ _ ⟨rfl, rfl, rfl⟩ hfS))
      have := hg.1 j hj
      rw [Nat.zero_add] at this
      exact this
    | succ m ih =>
      intro k acc f' D zs st hk ha h256 hg hR
      unfold wp_X_load_l46
      refine p_Ly_strips hl.2.1 hl.2.2.2.2.1 he.1 he.2 r2 (br_f (nI_ge (by omega) (by omega)) ?_)
      have hkn : k < nSt rs ec := by omega
      refine p_decodeStrip e1 h hs hG hl x1 x2 hkn (fun l f'' y1 y2 D' zs' st' => br_f (by decide) ?_) (fun y f'' D' zs' st' => br_t rfl (h0 k (hR.trans (ldR_none y)) _ _ _ _))
      rw [nI_1]
      obtain ⟨s1, s2⟩ := stD_ok h y1
      refine ih (k + 1) (acc ++ l) f'' D' zs' st' (by omega) ?_ (app_lt h256 s2) (hg.join ha y2) (hR.trans (ldR_some y1))
      rw [List.length_append, ha, s1, wnt_add he.1 hkn]
  refine ⟨nSt rs ec + 1, key (nSt rs ec) 0 [] f D zs st (by omega) ?_ (fun x hx => absurd hx List.not_mem_nil) (gX.nil f 0) rfl⟩
  rw [(frR_in he.1 (k := 0) (by omega)).2.1, Nat.zero_mul, Nat.zero_mul]
  rfl
theorem p_X_load {post : Int32 → (Nat → Int32) → (Nat → Int32) → (Nat → Int32) → (Nat → Int32) → (Nat → Int32) → (Nat → Int64) → (Nat → Int32) → (Nat → Int32) → (Nat → Int32) → (Nat → Int32) → (Nat → Int64) → (Nat → Int32) → (Nat → Int64) → (Nat → Int32) → (Nat → Int32) → Prop} {I fb f D zs st In IY IPi fS IS IP W pl : Nat → Int32} {Ln LS LP : Nat → Int64} {sz : Nat} {b : Nat → Nat} {a : Int32} (e1 : I 1 = nI sz) (h : Fb sz b fb)
    (hno : (¬ ∃ i, i < (wkR b sz).1.length ∧ a = nI i) → ∀ W' pl' : Nat → Int32, post (-4) f D zs st In Ln IY IPi fS IS LS IP LP W' pl')
    (hbad : ∀ i, i < (wkR b sz).1.length → a = nI i → (¬ ∃ cs rs dp mt ec pr a1 a2, okG b sz ((wkR b sz).1.getD i 0) cs rs dp mt ec pr a1 a2) → ∀ (In' : Nat → Int32) (Ln' : Nat → Int64) (IY' IS' : Nat → Int32) (LS' : Nat → Int64) (IP' : Nat → Int32) (LP' : Nat → Int64) (W' pl' : Nat → Int32), post (-5) f D zs st In' Ln' IY' IPi fS IS' LS' IP' LP' W' pl')
    (hst : ∀ i, i < (wkR b sz).1.length → a = nI i → ∀ cs rs dp mt ec pr a1 a2, okG b sz ((wkR b sz).1.getD i 0) cs rs dp mt ec pr a1 a2 → ∀ q, ldR b sz cs rs dp mt ec a1 a2 (nSt rs ec) 0 [] = .inl q → ∀ (f' D' zs' st' In' : Nat → Int32) (Ln' : Nat → Int64) (IY' IS' : Nat → Int32) (LS' : Nat → Int64) (IP' : Nat → Int32) (LP' : Nat → Int64) (W' pl' : Nat → Int32), post (-6 - nI q) f' D' zs' st' In' Ln' IY' IPi fS IS' LS' IP' LP' W' pl')
    (hok : ∀ i, i < (wkR b sz).1.length → a = nI i → ∀ cs rs dp mt ec pr a1 a2, okG b sz ((wkR b sz).1.getD i 0) cs rs dp mt ec pr a1 a2 → ∀ Dl, ldR b sz cs rs dp mt ec a1 a2 (nSt rs ec) 0 [] = .inr Dl → ∀ (f' D' zs' st' In' : Nat → Int32) (Ln' : Nat → Int64) (IY' IPi' fS' IS' : Nat → Int32) (LS' : Nat → Int64) (IP' : Nat → Int32) (LP' : Nat → Int64) (W' pl' : Nat → Int32), (IPi' 1 = nI cs ∧ IPi' 2 = nI rs ∧ IPi' 3 = nI dp) → (∀ y x, y < rs → x < cs → fS' (16 * y + x) = nI (smS Dl cs dp pr y x)) → post 0 f' D' zs' st' In' Ln' IY' IPi' fS' IS' LS' IP' LP' W' pl') : wp_X_load post I fb f D zs st In Ln IY IPi fS IS LS IP LP W pl a := by
  have h8 := h.1
  have hlen := (wkR_ok (b := b) (sz := sz) h8).1
  unfold wp_X_load
  refine p_follow e1 h (fun W' pl' hw => p_hasPage (fun q1 q2 => br_f (by decide) ?_) (fun n => br_t rfl (hno (fun ⟨i, hi, ei⟩ => n ?_) _ _)))
  · rw [hw.1] at q2
    obtain ⟨i, hi, rfl⟩ := in16 (by omega) q1 q2
    rw [nI_clamp (by omega), hw.2.2.2 i hi]
    refine ⟨vp_in_nI (by omega) (by decide), p_readLayout e1 h (wk_mem h8 hi) (fun n In' Ln' IY' IS' LS' IP' LP' => br_t rfl (hbad i hi rfl n _ _ _ _ _ _ _ _ _)) (fun cs rs dp mt ec pr a1 a2 hG In' Ln' IY' IS' LS' IP' LP' hl x1 x2 => br_f (by decide) ?_)⟩
    exact p_X_loadL e1 h (wk_mem h8 hi) hG hl x1 x2 (fun q hq f' D' zs' st' => hst i hi rfl cs rs dp mt ec pr a1 a2 hG q hq _ _ _ _ _ _ _ _ _ _ _ _ _) (fun Dl hq f' D' zs' st' IPi' fS' y1 y2 => hok i hi rfl cs rs dp mt ec pr a1 a2 hG Dl hq _ _ _ _ _ _ _ _ _ _ _ _ _ _ _ y1 y2)
  · rw [ei, hw.1]
    exact ⟨nI_pos' (by omega), nI_lt hi (by omega)⟩
theorem p_M_loadL {post : Int32 → (Nat → Int32) → (Nat → Int32) → (Nat → Int32) → (Nat → Int32) → (Nat → Int32) → (Nat → Int32) → (Nat → Int32) → (Nat → Int32) → Prop} {fb J d dr mn nx nb sm sr : Nat → Int32} {sz p i cs rs dp mt ec pr a1 a2 : Nat} {b : Nat → Nat} (e1 : J 1 = nI sz) (h : Fb sz b fb) (hi : i < (wkR b sz).1.length) (ep : (wkR b sz).1.getD i 0 = p) (hG : okG b sz p cs rs dp mt ec pr a1 a2) (hl : lyM cs rs dp mt ec pr J)
    (h0 : ∀ q, ldR b sz cs rs dp mt ec a1 a2 (nSt rs ec) 0 [] = .inl q → ∀ J' d' dr' mn' nx' nb' sr' : Nat → Int32, (∀ j, j < 11 → J' j = J j) → post (-6 - nI q) J' d' dr' mn' nx' nb' sm sr')
    (h1 : ∀ Dl, ldR b sz cs rs dp mt ec a1 a2 (nSt rs ec) 0 [] = .inr Dl → ∀ J' d' dr' mn' nx' nb' sm' sr' : Nat → Int32, (J' 3 = nI cs ∧ J' 4 = nI rs ∧ J' 5 = nI dp) → (∀ j, j < 11 → j ≠ 3 → j ≠ 4 → j ≠ 5 → J' j = J j) → (∀ y x, y < rs → x < cs → sm' (16 * y + x) = nI (smS Dl cs dp pr y x)) → post 0 J' d' dr' mn' nx' nb' sm' sr') : ∃ n1, wp_M_load_l32 post fb n1 J d dr mn nx nb sm sr (nI i) 0 := by
  obtain ⟨⟨c1, c2⟩, ⟨r1, r2⟩, hd, hpr, he, hm⟩ := hG.facts
  have hn := nSt_le he.1 he.2
  have lyOf : ∀ {J' dr' : Nat → Int32}, wM (wkR b sz) J J' dr' → lyM cs rs dp mt ec pr J' := fun {J' dr'} hm => by
    obtain ⟨l1, l2, l3, l4, l5, l6⟩ := hl
    have g := hm.2.2.2.2
    exact ⟨(g 23 (by decide) (by decide) (by decide)).trans l1, (g 24 (by decide) (by decide) (by decide)).trans l2, (g 25 (by decide) (by decide) (by decide)).trans l3, (g 26 (by decide) (by decide) (by decide)).trans l4, (g 27 (by decide) (by decide) (by decide)).trans l5, (g 28 (by decide) (by decide) (by decide)).trans l6⟩
  have key : ∀ (m k : Nat) (acc : List Nat) (J' d dr mn nx nb sr : Nat → Int32), k + m = nSt rs ec → acc.length = frR rs ec k * rbN cs dp → tkI cs (fun y x => smS acc cs dp pr y x) (frR rs ec k) 0 nx → (J' = J ∨ wM (wkR b sz) J J' dr) → ldR b sz cs rs dp mt ec a1 a2 (nSt rs ec) 0 [] = ldR b sz cs rs dp mt ec a1 a2 m k acc → wp_M_load_l32 post fb (m + 1) J' d dr mn nx nb sm sr (nI i) (nI k) := by
    intro m
    induction m with
    | zero =>
      intro k acc J' d dr mn nx nb sr hk ha ht hJ hR
      have hl' : lyM cs rs dp mt ec pr J' := hJ.elim (fun e => e ▸ hl) (fun w => lyOf w)
      have lo : ∀ j, j < 11 → J' j = J j := fun j hj => hJ.elim (fun e => by rw [e]) (fun w => w.2.2.2.2 j (by omega) (by omega) (by omega))
      unfold wp_M_load_l32
      have : k = nSt rs ec := by omega
      subst this
      rw [frR_last he.1] at ha ht
      refine p_M_strips hl'.2.1 hl'.2.2.2.2.1 he.1 he.2 r2 (br_t (nI_le (by omega) (by omega)) ?_)
      rw [hl'.1, hl'.2.1, hl'.2.2.1]
      have cp : ∀ (m' j : Nat) (sm' : Nat → Int32), j + m' = 256 → (∀ q, q < j → sm' q = nx q) → wp_M_load_l132 post fb (m' + 1) (upd (upd (upd J' 3 (nI cs)) 4 (nI rs)) 5 (nI dp)) d dr mn nx nb sm' sr (nI j) := by
        intro m'
        induction m' with
        | zero =>
          intro j sm' hj hq
          unfold wp_M_load_l132
          have : j = 256 := by omega
          subst this
          refine br_t (by decide) (h1 acc hR _ _ _ _ _ _ _ _ ⟨rfl, rfl, rfl⟩ (fun j q1 q2 q3 q4 => ?_) (fun y x hy hx => ?_))
          · simp only [upd_at, if_neg q2, if_neg q3, if_neg q4]
            exact lo j q1
          · rw [hq _ (by omega)]
            exact ht y x hx (by omega)
        | succ m' ihm =>
          intro j sm' hj hq
          unfold wp_M_load_l132
          rw [nI_clamp (by omega), nI_1]
          refine br_f (nI_ge (b := 256) (by omega) (by decide)) ⟨vp_in_nI (by omega) (by decide), vp_in_nI (by omega) (by decide), ihm (j + 1) _ (by omega) (fun q hq' => ?_)⟩
          rw [upd_at]
          by_cases y : q = j
          · rw [if_pos y, y]
          · rw [if_neg y]; exact hq q (by omega)
      exact ⟨257, cp 256 0 sm rfl (fun q hq => absurd hq (by omega))⟩
    | succ m ih =>
      intro k acc J' d dr mn nx nb sr hk ha ht hJ hR
      have hl' : lyM cs rs dp mt ec pr J' := hJ.elim (fun e => e ▸ hl) (fun w => lyOf w)
      have lo : ∀ j, j < 11 → J' j = J j := fun j hj => hJ.elim (fun e => by rw [e]) (fun w => w.2.2.2.2 j (by omega) (by omega) (by omega))
      have jn : ∀ {J2 d2 : Nat → Int32}, wM (wkR b sz) J' J2 d2 → wM (wkR b sz) J J2 d2 := fun w2 => hJ.elim (fun e => e ▸ w2) (fun w => w.trans w2)
      unfold wp_M_load_l32
      refine p_M_strips hl'.2.1 hl'.2.2.2.2.1 he.1 he.2 r2 (br_f (nI_ge (by omega) (by omega)) ?_)
      have hkn : k < nSt rs ec := by omega
      refine p_M_strip ((lo 1 (by decide)).trans e1) h hi ep hG hl' hkn (fun l d' y1 y2 J2 d2 mn' nb' st' w2 => br_f (by decide) ?_) (fun y d' J2 d2 mn' nb' st' w2 => br_t rfl (h0 k (hR.trans (ldR_none y)) _ _ _ _ _ _ _ (fun j hj => (jn w2).2.2.2.2 j (by omega) (by omega) (by omega))))
      obtain ⟨s1, s2⟩ := stD_ok h y1
      have l2 := lyOf (jn w2)
      obtain ⟨f1, f2, f3, f4⟩ := frR_in he.1 hkn
      have f5 := frR_le rs ec (k + 1)
      rw [l2.2.2.2.2.1, l2.2.1, pk_mul, nI_add]
      have body : ∀ s : Nat, s = frR rs ec (k + 1) → wp_M_load_b97 post (wp_M_load_l32 post fb (m + 1)) fb J2 d' d2 mn' nx nb' sm st' (nI i) (nI k) (nI s) (nI (k * ec)) := by
        intro s es
        subst es
        unfold wp_M_load_b97
        rw [← f2, nI_1]
        refine p_M_take (D := acc) (l := l) l2 hd c2 hpr f4 (by omega) ha s1 s2 (fun j hj => ?_) ht (fun nx' ht' => ?_)
        · have := y2.1 j hj
          rw [Nat.zero_add] at this
          exact this
        · refine ih (k + 1) (acc ++ l) J2 d' d2 mn' nx' nb' st' (by omega) ?_ ht' (Or.inr (jn w2)) (hR.trans (ldR_some y1))
          rw [List.length_append, ha, s1, wnt_add he.1 hkn]
      refine pk_le (k * ec + ec) rs (fun z => body _ ?_) (fun z => body _ ?_)
      · rw [f3]; split <;> omega
      · rw [f3]; split <;> omega
  refine ⟨nSt rs ec + 1, key (nSt rs ec) 0 [] J d dr mn nx nb sr (by omega) ?_ (fun y' x' hx hy => ?_) (Or.inl rfl) rfl⟩
  · rw [(frR_in he.1 (k := 0) (by omega)).2.1, Nat.zero_mul, Nat.zero_mul]
    rfl
  · rw [(frR_in he.1 (k := 0) (by omega)).2.1, Nat.zero_mul] at hy
    omega
theorem p_M_load {post : Int32 → (Nat → Int32) → (Nat → Int32) → (Nat → Int32) → (Nat → Int32) → (Nat → Int32) → (Nat → Int32) → (Nat → Int32) → (Nat → Int32) → Prop} {fb J d dr mn nx nb sm sr : Nat → Int32} {sz : Nat} {b : Nat → Nat} {a : Int32} (e1 : J 1 = nI sz) (h : Fb sz b fb)
    (hno : (¬ ∃ i, i < (wkR b sz).1.length ∧ a = nI i) → ∀ J' dr' : Nat → Int32, (∀ j, j < 11 → J' j = J j) → post (-4) J' d dr' mn nx nb sm sr)
    (hbad : ∀ i, i < (wkR b sz).1.length → a = nI i → (¬ ∃ cs rs dp mt ec pr a1 a2, okG b sz ((wkR b sz).1.getD i 0) cs rs dp mt ec pr a1 a2) → ∀ J' dr' : Nat → Int32, (∀ j, j < 11 → J' j = J j) → post (-5) J' d dr' mn nx nb sm sr)
    (hst : ∀ i, i < (wkR b sz).1.length → a = nI i → ∀ cs rs dp mt ec pr a1 a2, okG b sz ((wkR b sz).1.getD i 0) cs rs dp mt ec pr a1 a2 → ∀ q, ldR b sz cs rs dp mt ec a1 a2 (nSt rs ec) 0 [] = .inl q → ∀ J' d' dr' mn' nx' nb' sr' : Nat → Int32, (∀ j, j < 11 → J' j = J j) → post (-6 - nI q) J' d' dr' mn' nx' nb' sm sr')
    (hok : ∀ i, i < (wkR b sz).1.length → a = nI i → ∀ cs rs dp mt ec pr a1 a2, okG b sz ((wkR b sz).1.getD i 0) cs rs dp mt ec pr a1 a2 → ∀ Dl, ldR b sz cs rs dp mt ec a1 a2 (nSt rs ec) 0 [] = .inr Dl → ∀ J' d' dr' mn' nx' nb' sm' sr' : Nat → Int32, (J' 3 = nI cs ∧ J' 4 = nI rs ∧ J' 5 = nI dp) → (∀ j, j < 11 → j ≠ 3 → j ≠ 4 → j ≠ 5 → J' j = J j) → (∀ y x, y < rs → x < cs → sm' (16 * y + x) = nI (smS Dl cs dp pr y x)) → post 0 J' d' dr' mn' nx' nb' sm' sr') : wp_M_load post fb J d dr mn nx nb sm sr a := by
  have h8 := h.1
  have hlen := (wkR_ok (b := b) (sz := sz) h8).1
  unfold wp_M_load
  refine p_walk e1 h (fun J' dr' hw => ?_)
  have lo : ∀ j, j < 11 → J' j = J j := fun j hj => hw.2.2.2.2 j (by omega) (by omega) (by omega)
  rw [hw.1]
  refine br_c (fun q => hno (fun ⟨i, hi, ei⟩ => ?_) _ _ lo) (fun q => br_c (fun q2 => ?_) (fun q2 => hno (fun ⟨i, hi, ei⟩ => ?_) _ _ lo))
  · rw [ei] at q
    exact nI_pos (by omega) q
  · obtain ⟨i, hi, rfl⟩ := in16 (by omega) (by grind) q2
    refine p_M_fields ((lo 1 (by decide)).trans e1) h hi rfl (fun n J2 d2 lo2 => br_t rfl (hbad i hi rfl n _ _ (fun j hj => (lo2 j hj).trans (lo j hj)))) (fun cs rs dp mt ec pr a1 a2 hG J2 d2 lo2 hl => br_f (by decide) ?_)
    exact p_M_loadL ((lo2 1 (by decide)).trans ((lo 1 (by decide)).trans e1)) h hi rfl hG hl (fun q hq J3 d3 dr3 mn3 nx3 nb3 sr3 lo3 => hst i hi rfl cs rs dp mt ec pr a1 a2 hG q hq _ _ _ _ _ _ _ (fun j hj => (lo3 j hj).trans ((lo2 j hj).trans (lo j hj)))) (fun Dl hq J3 d3 dr3 mn3 nx3 nb3 sm3 sr3 y1 lo3 y2 => hok i hi rfl cs rs dp mt ec pr a1 a2 hG Dl hq _ _ _ _ _ _ _ _ y1 (fun j hj z3 z4 z5 => (lo3 j hj z3 z4 z5).trans ((lo2 j hj).trans (lo j hj))) y2)
  · rw [ei] at q2
    exact q2 (nI_lt hi (by omega))
