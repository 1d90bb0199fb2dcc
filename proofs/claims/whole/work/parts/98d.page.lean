/-! write: a page -/
theorem p_putLong {post : (Nat → Int32) → Prop} {I f : Nat → Int32} {a v sz : Nat} {be : Bool} (e1 : I 1 = nI sz) (hsz : sz ≤ 900) (ha : 1 ≤ a) (ha2 : a + 4 ≤ sz) (hv : v < 2 ^ 31) (hbe : (f 0 = nI 77) ↔ be = true) (h : post (puL f a (bN be 4 v))) : wp_St_putLong post I f (nI a) (nI v) := by
  unfold wp_St_putLong
  have key : ∀ (m k : Nat), k + m = 4 → wp_St_putLong_l15 post I (m + 1) (puL f a ((bN be 4 v).take k)) (nI a) (nI v) (nI k) := by
    intro m
    induction m with
    | zero =>
      intro k hk
      unfold wp_St_putLong_l15
      have hk4 : k = 4 := by omega
      subst hk4
      refine br_t (by decide) ?_
      rw [List.take_of_length_le (by rw [bN_len]; omega)]
      exact h
    | succ m ih =>
      intro k hk
      unfold wp_St_putLong_l15 wp_St_byteOfLong wp_St_byteOfLong_b25
      refine br_f (nI_ge (a := k) (b := 4) (by omega) (by decide)) ⟨v0_900, ?_⟩
      rw [puL_low (by omega), show (77 : Int32) = nI 77 from rfl, show (24 : Int32) = nI 24 from rfl, show (8 : Int32) = nI 8 from rfl, pk_mul, pk_sub (by omega), nI_add, nI_clamp (by omega), nI_1]
      have step : ∀ s, s < 32 → (s = if be = true then 24 - 8 * k else 8 * k) → vp_in (nI (a + k)) 900 ∧ wp_St_putLong_l15 post I (m + 1) (upd (puL f a ((bN be 4 v).take k)) (a + k) ((nI v >>> (nI s &&& 31)) &&& 255)) (nI a) (nI v) (nI (k + 1)) := by
        intro s hs es
        rw [shN hv s hs, a255 (Nat.lt_of_le_of_lt (Nat.div_le_self _ _) (by omega))]
        have hl : ((bN be 4 v).take k).length = k := by rw [List.length_take, bN_len]; omega
        have e3 : upd (puL f a ((bN be 4 v).take k)) (a + k) (nI (v / 2 ^ s % 256)) = puL f a ((bN be 4 v).take (k + 1)) := by
          rw [← puL_one]
          have := puL_app f a ((bN be 4 v).take k) [v / 2 ^ s % 256]
          rw [hl] at this
          rw [this]
          have h5 := bN4_at (be := be) (v := v) (k := k) (by omega)
          rw [← es] at h5
          have h6 : (bN be 4 v)[k]? = some (v / 2 ^ s % 256) := by
            have hlt : k < (bN be 4 v).length := by rw [bN_len]; omega
            rw [List.getElem?_eq_getElem hlt]
            rw [List.getD_eq_getElem?_getD, List.getElem?_eq_getElem hlt] at h5
            exact congrArg some h5
          rw [List.take_add_one, h6]
          rfl
        rw [e3]
        exact ⟨vp_in_nI (by omega) (by decide), ih (k + 1) (by omega)⟩
      refine br_c (fun hc => ?_) (fun hc => ?_)
      · exact step (24 - 8 * k) (by omega) (by rw [if_pos (hbe.mp hc)])
      · exact step (8 * k) (by omega) (by rw [if_neg (fun q => hc (hbe.mpr q))])
  have go : ∃ n1 : Nat, wp_St_putLong_l15 post I n1 f (nI a) (nI v) 0 := by
    refine ⟨5, ?_⟩
    have := key 4 0 rfl
    rw [List.take_zero, puL_nil] at this
    exact this
  rw [nI_l (by omega)]
  exact p_St_holds (n := 4) e1 hsz (by omega) (by decide) (fun _ => br_f (by decide) go) (fun z => absurd ha2 z)
def pgP (s : Nat → Nat → Nat) (w h d mt ec pr sz j : Nat) : Nat := sz + (eL sz (stL sz (stK s w h d mt ec pr) j)).length
def pgQ (s : Nat → Nat → Nat) (w h d mt ec pr j : Nat) : Nat := (stK s w h d mt ec pr j).length
def pgS (s : Nat → Nat → Nat) (w h d mt ec pr sz : Nat) : List Nat := stL sz (stK s w h d mt ec pr) (nSt h ec)
def pgN (be : Bool) (s : Nat → Nat → Nat) (w h d mt ec pr sz : Nat) : List Nat := nmL sz be (pgQ s w h d mt ec pr) (nSt h ec) (nmL sz be (pgP s w h d mt ec pr sz) (nSt h ec) (pgS s w h d mt ec pr sz))
def pgT (be : Bool) (tg ln : Nat → Nat) (ch : Nat → Nat → Nat) (c : Nat) (s : Nat → Nat → Nat) (w h d mt ec pr sz : Nat) : List Nat := tL sz ch ln (lwN c tg) (pgN be s w h d mt ec pr sz) c
def pgD (be : Bool) (tg ln : Nat → Nat) (ch : Nat → Nat → Nat) (c : Nat) (s : Nat → Nat → Nat) (w h d mt ec pr sz : Nat) : List Nat := dirL be tg ln ch (tP sz ch ln (lwN c tg) (pgN be s w h d mt ec pr sz)) c w h d mt ec pr (nmP sz (pgP s w h d mt ec pr sz) (nSt h ec) (pgS s w h d mt ec pr sz)) (nmP sz (pgQ s w h d mt ec pr) (nSt h ec) (nmL sz be (pgP s w h d mt ec pr sz) (nSt h ec) (pgS s w h d mt ec pr sz))) (eL sz (pgT be tg ln ch c s w h d mt ec pr sz))
/-- a picture and its layout -/
def gd (s : Nat → Nat → Nat) (w h d mt ec pr sz : Nat) : Prop := (dpO d) ∧ (mtO mt) ∧ (1 ≤ w) ∧ (w ≤ 16) ∧ (h ≤ 16) ∧ (1 ≤ ec) ∧ (ec ≤ h) ∧ (pr = 1 ∨ pr = 2) ∧ (∀ y x, y < h → x < w → s y x < 2 ^ d) ∧ (8 ≤ sz) ∧ (sz ≤ 900)
theorem gd.hd {s : Nat → Nat → Nat} {w h d mt ec pr sz : Nat} (g : gd s w h d mt ec pr sz) : dpO d := g.1
theorem gd.hmt {s : Nat → Nat → Nat} {w h d mt ec pr sz : Nat} (g : gd s w h d mt ec pr sz) : mtO mt := g.2.1
theorem gd.hw {s : Nat → Nat → Nat} {w h d mt ec pr sz : Nat} (g : gd s w h d mt ec pr sz) : 1 ≤ w := g.2.2.1
theorem gd.hw2 {s : Nat → Nat → Nat} {w h d mt ec pr sz : Nat} (g : gd s w h d mt ec pr sz) : w ≤ 16 := g.2.2.2.1
theorem gd.hh {s : Nat → Nat → Nat} {w h d mt ec pr sz : Nat} (g : gd s w h d mt ec pr sz) : h ≤ 16 := g.2.2.2.2.1
theorem gd.he {s : Nat → Nat → Nat} {w h d mt ec pr sz : Nat} (g : gd s w h d mt ec pr sz) : 1 ≤ ec := g.2.2.2.2.2.1
theorem gd.he2 {s : Nat → Nat → Nat} {w h d mt ec pr sz : Nat} (g : gd s w h d mt ec pr sz) : ec ≤ h := g.2.2.2.2.2.2.1
theorem gd.hpr {s : Nat → Nat → Nat} {w h d mt ec pr sz : Nat} (g : gd s w h d mt ec pr sz) : pr = 1 ∨ pr = 2 := g.2.2.2.2.2.2.2.1
theorem gd.hs {s : Nat → Nat → Nat} {w h d mt ec pr sz : Nat} (g : gd s w h d mt ec pr sz) : ∀ y x, y < h → x < w → s y x < 2 ^ d := g.2.2.2.2.2.2.2.2.1
theorem gd.hz {s : Nat → Nat → Nat} {w h d mt ec pr sz : Nat} (g : gd s w h d mt ec pr sz) : 8 ≤ sz := g.2.2.2.2.2.2.2.2.2.1
theorem gd.hz2 {s : Nat → Nat → Nat} {w h d mt ec pr sz : Nat} (g : gd s w h d mt ec pr sz) : sz ≤ 900 := g.2.2.2.2.2.2.2.2.2.2
theorem gd.S {s : Nat → Nat → Nat} {w h d mt ec pr sz : Nat} (g : gd s w h d mt ec pr sz) : (pgS s w h d mt ec pr sz).length ≤ 640 := by
  have hn := nSt_le g.he g.he2
  have hh := g.hh
  have h1 := stL_len (sz := sz) (mt := mt) (pr := pr) g.hd g.hw g.hw2 g.hh g.he g.hs (nSt h ec) (Nat.le_refl _)
  have h2 := fr_le (cs := w) (dp := d) (ec := ec) g.hd g.hw2 g.hh (nSt h ec)
  unfold pgS
  omega
theorem gd.P {s : Nat → Nat → Nat} {w h d mt ec pr sz : Nat} (g : gd s w h d mt ec pr sz) {j : Nat} (hj : j < nSt h ec) : pgP s w h d mt ec pr sz j < 2000 ∧ pgQ s w h d mt ec pr j < 2000 := by
  have hn := nSt_le g.he g.he2
  have hh := g.hh
  have hz := g.hz2
  have h1 := stL_len (sz := sz) (mt := mt) (pr := pr) g.hd g.hw g.hw2 g.hh g.he g.hs j (by omega)
  have h2 := fr_le (cs := w) (dp := d) (ec := ec) g.hd g.hw2 g.hh j
  have h3 := stK_len (mt := mt) (pr := pr) g.hd g.hw g.hw2 g.hh g.he hj g.hs
  have h4 := wnt_add (cs := w) (dp := d) g.he hj
  have h5 := fr_le (cs := w) (dp := d) (ec := ec) g.hd g.hw2 g.hh (j + 1)
  unfold pgP pgQ
  rw [eL_len]
  omega
theorem gd.N {s : Nat → Nat → Nat} {w h d mt ec pr sz : Nat} (g : gd s w h d mt ec pr sz) (be : Bool) : (pgN be s w h d mt ec pr sz).length ≤ 770 ∧ (nmL sz be (pgP s w h d mt ec pr sz) (nSt h ec) (pgS s w h d mt ec pr sz)).length ≤ 705 := by
  have hn := nSt_le g.he g.he2
  have hh := g.hh
  have h1 := g.S
  have h2 := nmL_len sz be (pgP s w h d mt ec pr sz) (nSt h ec) (pgS s w h d mt ec pr sz)
  have h3 := nmL_len sz be (pgQ s w h d mt ec pr) (nSt h ec) (nmL sz be (pgP s w h d mt ec pr sz) (nSt h ec) (pgS s w h d mt ec pr sz))
  unfold pgN
  omega
theorem gd.nmP {s : Nat → Nat → Nat} {w h d mt ec pr sz : Nat} (g : gd s w h d mt ec pr sz) (be : Bool) : nmP sz (pgP s w h d mt ec pr sz) (nSt h ec) (pgS s w h d mt ec pr sz) < 2000 ∧ nmP sz (pgQ s w h d mt ec pr) (nSt h ec) (nmL sz be (pgP s w h d mt ec pr sz) (nSt h ec) (pgS s w h d mt ec pr sz)) < 2000 := by
  have hn := nSt_le g.he g.he2
  have h1 := g.S
  have h2 := (g.N be).2
  have hz := g.hz2
  have h3 := g.P (show 0 < nSt h ec by omega)
  have h4 := eL_len sz (pgS s w h d mt ec pr sz)
  have h5 := eL_len sz (nmL sz be (pgP s w h d mt ec pr sz) (nSt h ec) (pgS s w h d mt ec pr sz))
  unfold Jvm.Pilot.CTaggedRasterLaw_law_r6233_95c97e.nmP
  constructor
  · split <;> omega
  · split <;> omega
theorem gd.T {s : Nat → Nat → Nat} {w h d mt ec pr sz : Nat} (g : gd s w h d mt ec pr sz) {c : Nat} {tg ln : Nat → Nat} {ch : Nat → Nat → Nat} {fc fs ft : Nat → Int32} (hl : lb1 c tg ln ch fc fs ft) (be : Bool) : (pgT be tg ln ch c s w h d mt ec pr sz).length ≤ 798 := by
  have h1 := (g.N be).1
  have hc := hl.1
  have h2 := tL_len (sz := sz) (L := pgN be s w h d mt ec pr sz) hl c (Nat.le_refl _)
  unfold pgT
  omega
theorem gd.tP {s : Nat → Nat → Nat} {w h d mt ec pr sz : Nat} (g : gd s w h d mt ec pr sz) {c : Nat} {tg ln : Nat → Nat} {ch : Nat → Nat → Nat} {fc fs ft : Nat → Int32} (hl : lb1 c tg ln ch fc fs ft) (be : Bool) (i : Nat) (hi : i < c) : tP sz ch ln (lwN c tg) (pgN be s w h d mt ec pr sz) (oK (lwN c tg) i) < 2 ^ 31 := by
  have h1 := (g.N be).1
  have hc := hl.1
  have hz := g.hz2
  rw [tP_o (lwN_le c tg) (by omega), eL_len]
  have h2 := tL_len (sz := sz) (L := pgN be s w h d mt ec pr sz) hl i (by omega)
  omega
theorem gd.D {s : Nat → Nat → Nat} {w h d mt ec pr sz : Nat} (g : gd s w h d mt ec pr sz) {c : Nat} {tg ln : Nat → Nat} {ch : Nat → Nat → Nat} {fc fs ft : Nat → Int32} (hl : lb1 c tg ln ch fc fs ft) (be : Bool) : (pgD be tg ln ch c s w h d mt ec pr sz).length ≤ 925 ∧ aB (pgD be tg ln ch c s w h d mt ec pr sz) ∧ sz + (eL sz (pgT be tg ln ch c s w h d mt ec pr sz)).length < 2000 := by
  have h1 := g.T hl be
  have hc := hl.1
  have hz := g.hz2
  have h2 := eL_len sz (pgT be tg ln ch c s w h d mt ec pr sz)
  refine ⟨?_, ?_, by omega⟩
  · unfold pgD
    rw [dirL_len]
    omega
  · unfold pgD
    refine aB.dirL hl (aB.e ?_)
    unfold pgT
    refine aB.tL hl ?_ c (Nat.le_refl _)
    unfold pgN pgS
    exact aB.nmL (aB.nmL (aB.stL (fun k hk => aB.stK g.hd g.hw g.hw2 g.hh g.he hk g.hs)))
theorem p_X_page {post : Int32 → (Nat → Int32) → (Nat → Int32) → (Nat → Int32) → (Nat → Int32) → (Nat → Int32) → (Nat → Int32) → (Nat → Int32) → (Nat → Int32) → (Nat → Int32) → (Nat → Int32) → Prop} {IL fc fs ft IY IPi fS f Ie e1 e2 e3 I0 f0 I fb wl wp wt : Nat → Int32} {s : Nat → Nat → Nat} {w h d mt ec pr sz c : Nat} {tg ln : Nat → Nat} {ch : Nat → Nat → Nat} {be : Bool} (g : gd s w h d mt ec pr sz) (hl : lb1 c tg ln ch fc fs ft) (el : IL 3 = nI c) (hy : lyX w h d mt ec pr IY) (p1 : IPi 1 = nI w) (p2 : IPi 2 = nI h) (p3 : IPi 3 = nI d) (hf : ∀ y x, y < h → x < w → s y x < 2 ^ d ∧ fS (16 * y + x) = nI (s y x)) (hx : XA I0 f0 sz [] I fb) (hbe : (f0 0 = nI 77) ↔ be = true) (k : ∀ f' Ie' e1' e2' e3' I' fb' wl' wp' wt', XA I0 f0 sz (pgD be tg ln ch c s w h d mt ec pr sz) I' fb' → post (nI (sz + (eL sz (pgT be tg ln ch c s w h d mt ec pr sz)).length)) f' Ie' e1' e2' e3' I' fb' wl' wp' wt') : wp_X_appendPage post IL fc fs ft IY IPi fS f Ie e1 e2 e3 I fb wl wp wt := by
  obtain ⟨y0, y1, y2, y3, y4, y5⟩ := id hy
  have hz := g.hz
  have hz2 := g.hz2
  have hN := g.N be
  have hS := g.S
  have hT := g.T hl be
  have hm := g.nmP be
  have hpr := g.hpr
  unfold wp_X_appendPage
  refine p_pack (s := s) p1 p2 p3 hy g.hw2 g.hh g.hd g.hpr hf (fun f' hf' => ?_)
  refine p_X_strips (s := s) hy g.hd g.hmt g.hw g.hw2 g.hh g.he g.he2 g.hs hf' hx g.hz2 (fun Ie' e1' e2' e3' I1 f1 wl' wp' x1 hnum => ?_)
  refine p_X_numbers (F := pgP s w h d mt ec pr sz) y1 y4 g.he g.he2 g.hh (fun j hj => ⟨(hnum j hj).1, by have := (g.P hj).1; omega⟩) x1 (by omega) hbe (by unfold pgS at hS; omega) (fun I2 f2 x2 => ?_)
  refine p_X_numbers (F := pgQ s w h d mt ec pr) y1 y4 g.he g.he2 g.hh (fun j hj => ⟨(hnum j hj).2, by have := (g.P hj).2; omega⟩) x2 (by omega) hbe (by unfold pgS at hN; omega) (fun I3 f3 x3 => ?_)
  refine p_X_texts hl el x3 (by unfold pgN pgS at hN; omega) (fun I4 f4 wt' x4 hwt => ?_)
  refine p_X_directory (P := tP sz ch ln (lwN c tg) (pgN be s w h d mt ec pr sz)) hl el hy g.hd g.hmt g.hw2 g.hh g.he g.he2 (by omega) hwt (g.tP hl be) (by unfold pgS at hm; omega) (by unfold pgS at hm; omega) x4 (by omega) hbe (by unfold pgT pgN pgS at hT; omega) (fun I5 f5 x5 => k _ _ _ _ _ _ _ _ _ _ x5)

section
variable {post : Int32 → (Nat → Int32) → (Nat → Int32) → (Nat → Int32) → (Nat → Int32) → (Nat → Int32) → (Nat → Int32) → (Nat → Int32) → (Nat → Int32) → (Nat → Int32) → Prop} {gl gc gS gt J0 g0 da dr mn nb gp gs st : Nat → Int32} {s : Nat → Nat → Nat} {w h d mt ec pr sz c : Nat} {tg ln : Nat → Nat} {ch : Nat → Nat → Nat} {be : Bool}
/-- what becomes of a page once it stands in the file -/
def fnM (post : Int32 → (Nat → Int32) → (Nat → Int32) → (Nat → Int32) → (Nat → Int32) → (Nat → Int32) → (Nat → Int32) → (Nat → Int32) → (Nat → Int32) → (Nat → Int32) → Prop) (da dr mn nb gp gs st J0 g0 : Nat → Int32) (sz : Nat) (D : List Nat) (dp : Nat) : Prop := ∀ (x : Int64) (J' g' : Nat → Int32), x = lN dp → MA J0 g0 sz D J' g' → ((J' 2 ≤ 900 → wp_M_store (fun g'' => post (J' 2 - J' 1) (upd J' 1 (J' 2)) da dr g'' mn nb gp gs st) J' g' (J' 14) 4 x) ∧ (¬ J' 2 ≤ 900 → post (-3) J' da dr g' mn nb gp gs st))
theorem p_M_l236 (g : gd s w h d mt ec pr sz) (hl : lb1 c tg ln ch gc gl gt) (j3 : J0 3 = nI w) (j4 : J0 4 = nI h) (j5 : J0 5 = nI d) (j7 : J0 7 = nI c) (hbe : (g0 0 = nI 77) ↔ be = true) (hfin : fnM post da dr mn nb gp gs st J0 g0 sz (pgD be tg ln ch c s w h d mt ec pr sz) (sz + (eL sz (pgT be tg ln ch c s w h d mt ec pr sz)).length)) {a : Nat} (h1 : nSt h ec = 1 → gp 0 = nI (nmP sz (pgP s w h d mt ec pr sz) (nSt h ec) (pgS s w h d mt ec pr sz)) ∧ gs 0 = nI (nmP sz (pgQ s w h d mt ec pr) (nSt h ec) (nmL sz be (pgP s w h d mt ec pr sz) (nSt h ec) (pgS s w h d mt ec pr sz)))) (h2 : nSt h ec ≠ 1 → a = nmP sz (pgP s w h d mt ec pr sz) (nSt h ec) (pgS s w h d mt ec pr sz) ∧ a + 4 * nSt h ec = nmP sz (pgQ s w h d mt ec pr) (nSt h ec) (nmL sz be (pgP s w h d mt ec pr sz) (nSt h ec) (pgS s w h d mt ec pr sz))) : ∀ (m j : Nat) (x8 x9 : Int32) (J g : Nat → Int32), j + m = c → MA J0 g0 sz (eL sz (tL sz ch ln (lwN c tg) (pgN be s w h d mt ec pr sz) j)) J g → (∀ i, i < j → 4 ≤ ln (oK (lwN c tg) i) → (if oK (lwN c tg) i = 0 then x8 else x9) = nI (tP sz ch ln (lwN c tg) (pgN be s w h d mt ec pr sz) (oK (lwN c tg) i))) → wp_M_write_l236 post gl gc gS gt (m + 1) J da dr g mn nb gp gs st (nI mt) (nI ec) (nI pr) (nI (nSt h ec)) (nI a) (nI (lwN c tg)) x8 x9 (nI j) := by
  have hc := hl.1
  have hlw := lwN_le c tg
  have hz := g.hz
  have hz2 := g.hz2
  have hN := g.N be
  have hT := g.T hl be
  have hm := g.nmP be
  have hpr := g.hpr
  intro m
  induction m with
  | zero =>
    intro j x8 x9 J gg hj x hq
    unfold wp_M_write_l236
    have : j = c := by omega
    subst this
    rw [x.2.1 7 (by decide) (by decide) (by decide), j7]
    refine br_t (nI_le (by omega) (by omega)) ?_
    have hel := eL_len sz (pgT be tg ln ch j s w h d mt ec pr sz)
    refine p_M_directory (P := tP sz ch ln (lwN j tg) (pgN be s w h d mt ec pr sz)) hl j3 j4 j5 j7 g.hd g.hmt g.hw2 g.hh g.he g.he2 (by omega) hq (g.tP hl be) (by omega) (by omega) h1 h2 x (by omega) hbe (by unfold pgT at hel hT; omega) (fun J' g' x' => ?_)
    rw [x.1]
    unfold pgT at hel hT
    exact hfin _ J' g' (nI_l (by omega)) x'
  | succ m ih =>
    intro j x8 x9 J gg hj x hq
    unfold wp_M_write_l236
    rw [x.2.1 7 (by decide) (by decide) (by decide), j7]
    have hqc := oK_lt (tg := tg) hc (show j < c by omega)
    obtain ⟨_, ⟨l1, l2, l3⟩, _⟩ := hl.2 _ hqc
    have hlen := tL_len (sz := sz) (L := pgN be s w h d mt ec pr sz) hl j (by omega)
    have hel := eL_len sz (tL sz ch ln (lwN c tg) (pgN be s w h d mt ec pr sz) j)
    have hP := tP_o (sz := sz) (ch := ch) (ln := ln) (L := pgN be s w h d mt ec pr sz) (i := j) hlw (by omega)
    have hin := fun i (hi : i < j) => oK_inj (i := i) (j := j) hlw (by omega) (by omega)
    have nx := fun x8 x9 J gg => ih (j + 1) x8 x9 J gg (by omega)
    simp only [tL] at nx
    have step : wp_M_write_b259 post (wp_M_write_l236 post gl gc gS gt (m + 1)) gl gc gS gt J da dr gg mn nb gp gs st (nI mt) (nI ec) (nI pr) (nI (nSt h ec)) (nI a) (nI (lwN c tg)) x8 x9 (nI j) (nI (oK (lwN c tg) j)) := by
      obtain ⟨q, hqe⟩ : ∃ q, oK (lwN c tg) j = q := ⟨_, rfl⟩
      rw [hqe] at hqc l1 l2 l3 hP nx ⊢
      unfold wp_M_write_b259
      rw [nI_clamp (n := q) (by omega), l3]
      refine ⟨vp_in_nI (by omega) (by decide), pk_le (ln q) 3 (fun z => ?_) (fun z => ?_)⟩
      · unfold wp_M_write_b315
        rw [nI_1]
        rw [if_neg (by omega)] at nx
        refine nx _ _ _ _ x (fun i hi h4 => ?_)
        by_cases ei : i = j
        · rw [ei, hqe] at h4
          omega
        · exact hq i (by omega) h4
      · rw [if_pos (by omega)] at nx
        have go : ∀ (y8 y9 : Int32), (∀ i, i < j + 1 → 4 ≤ ln (oK (lwN c tg) i) → (if oK (lwN c tg) i = 0 then y8 else y9) = nI (tP sz ch ln (lwN c tg) (pgN be s w h d mt ec pr sz) (oK (lwN c tg) i))) → wp_M_write_b303 post (wp_M_write_l236 post gl gc gS gt (m + 1)) gl gc gS gt J da dr gg mn nb gp gs st (nI mt) (nI ec) (nI pr) (nI (nSt h ec)) (nI a) (nI (lwN c tg)) y8 (nI j) (nI q) y9 := by
          intro y8 y9 hy
          unfold wp_M_write_b303 wp_M_write_b315
          refine p_M_text hl hqc x (by omega) (fun J2 g2 x2 => ?_)
          refine x2.even (by rw [List.length_append, rgL_len]; omega) (fun J3 g3 x3 => ?_)
          rw [nI_1]
          exact nx _ _ _ _ x3 hy
        unfold wp_M_write_b286
        rw [x.1]
        refine pk_eq q 0 (fun w0 => br_f ?_ (go _ _ (fun i hi h4 => ?_))) (fun w0 => br_t ?_ (go _ _ (fun i hi h4 => ?_)))
        · rw [w0]; decide
        · by_cases ei : i = j
          · rw [ei, hqe, if_pos w0, hP]
          · have := hin i (by omega)
            have hne : oK (lwN c tg) i ≠ 0 := fun y => ei (this (by rw [y, hqe, w0]))
            rw [if_neg hne]
            have h5 := hq i (by omega) h4
            rw [if_neg hne] at h5
            exact h5
        · have : q = 1 := by omega
          rw [this]
          rfl
        · by_cases ei : i = j
          · rw [ei, hqe, if_neg w0, hP]
          · have h6 := hin i (by omega)
            have h7 := oK_2 (c := c) (tg := tg) (i := i)
            have he0 : oK (lwN c tg) i = 0 := by
              have : oK (lwN c tg) i ≠ q := fun y => ei (h6 (y.trans hqe.symm))
              omega
            rw [if_pos he0]
            have h5 := hq i (by omega) h4
            rw [if_pos he0] at h5
            exact h5
    refine br_f (nI_ge (by omega) (by omega)) (pk_eq j 0 (fun z => ?_) (fun z => ?_))
    · have e : oK (lwN c tg) j = lwN c tg := if_pos z
      rw [e] at step
      exact step
    · have e : oK (lwN c tg) j = 1 - lwN c tg := if_neg z
      rw [e] at step
      rw [show (1 : Int32) = nI 1 from rfl, pk_sub (by omega)]
      exact step
end
