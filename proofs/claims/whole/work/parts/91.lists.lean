/-! write: bytes that are appended on both sides -/
def evL (n : Nat) : List Nat := List.replicate (n % 2) 0
def eL (sz : Nat) (L : List Nat) : List Nat := L ++ evL (sz + L.length)
theorem evL_len (n : Nat) : (evL n).length = n % 2 := List.length_replicate
theorem eL_len (sz : Nat) (L : List Nat) : (eL sz L).length = L.length + (sz + L.length) % 2 := by
  unfold eL
  rw [List.length_append, evL_len]
theorem eL_even (sz : Nat) (L : List Nat) : (sz + (eL sz L).length) % 2 = 0 := by
  rw [eL_len]
  omega
theorem eL_id {sz : Nat} {L : List Nat} (h : (sz + L.length) % 2 = 0) : eL sz L = L := by
  unfold eL evL
  rw [h]
  exact List.append_nil L
theorem eL_eL (sz : Nat) (L : List Nat) : eL sz (eL sz L) = eL sz L := eL_id (eL_even sz L)
def aB (L : List Nat) : Prop := ∀ x ∈ L, x < 256
theorem aB.nil : aB [] := fun x hx => absurd hx List.not_mem_nil
theorem aB.app {l1 l2 : List Nat} (h1 : aB l1) (h2 : aB l2) : aB (l1 ++ l2) := app_lt h1 h2
theorem aB.ev (n : Nat) : aB (evL n) := fun x hx => by
  rw [(List.mem_replicate.mp hx).2]
  decide
theorem aB.e {sz : Nat} {L : List Nat} (h : aB L) : aB (eL sz L) := h.app (aB.ev _)
theorem aB.leB (n v : Nat) : aB (leB n v) := by
  induction n generalizing v with
  | zero => exact aB.nil
  | succ n ih =>
    intro x hx
    rcases List.mem_cons.mp hx with rfl | hx
    · exact Nat.mod_lt _ (by decide)
    · exact ih _ x hx
theorem aB.bN (be : Bool) (n v : Nat) : aB (bN be n v) := by
  unfold Jvm.Pilot.CTaggedRasterLaw_law_r6233_95c97e.bN
  split
  · intro x hx
    exact aB.leB n v x (List.mem_reverse.mp hx)
  · exact aB.leB n v
theorem aB.one {x : Nat} (h : x < 256) : aB [x] := fun y hy => by rw [List.mem_singleton.mp hy]; exact h
/-- the class's file with the bytes L appended at sz -/
def XA (I0 f0 : Nat → Int32) (sz : Nat) (L : List Nat) (I f : Nat → Int32) : Prop := I 2 = nI (sz + L.length) ∧ (∀ j, j ≠ 2 → I j = I0 j) ∧ f = apL f0 sz L
/-- the reference's file with the bytes L appended at sz -/
def MA (J0 g0 : Nat → Int32) (sz : Nat) (L : List Nat) (J g : Nat → Int32) : Prop := J 2 = nI (sz + L.length) ∧ (∀ j, j ≠ 2 → j ≠ 19 → j ≠ 20 → J j = J0 j) ∧ g = puL g0 sz L
theorem XA.ext {I0 f0 I f : Nat → Int32} {sz n : Nat} {L l : List Nat} (h : XA I0 f0 sz L I f) (hn : n = sz + L.length + l.length) : XA I0 f0 sz (L ++ l) (upd I 2 (nI n)) (apL f (sz + L.length) l) := by
  obtain ⟨h1, h2, h3⟩ := h
  refine ⟨?_, fun j hj => ?_, ?_⟩
  · rw [upd_at, if_pos rfl, List.length_append, hn]
    congr 1
    omega
  · rw [upd_at, if_neg hj]; exact h2 j hj
  · rw [h3, apL_app]
theorem MA.ext {J0 g0 J g : Nat → Int32} {sz n : Nat} {L l : List Nat} (h : MA J0 g0 sz L J g) (hn : n = sz + L.length + l.length) : MA J0 g0 sz (L ++ l) (upd J 2 (nI n)) (puL g (sz + L.length) l) := by
  obtain ⟨h1, h2, h3⟩ := h
  refine ⟨?_, fun j hj h19 h20 => ?_, ?_⟩
  · rw [upd_at, if_pos rfl, List.length_append, hn]
    congr 1
    omega
  · rw [upd_at, if_neg hj]; exact h2 j hj h19 h20
  · rw [h3, puL_app]
theorem XA.be {I0 f0 I f : Nat → Int32} {sz : Nat} {L : List Nat} {be : Bool} (h : XA I0 f0 sz L I f) (hs : 1 ≤ sz) (hb : (f0 0 = nI 77) ↔ be = true) : (f 0 = nI 77) ↔ be = true := by
  rw [h.2.2, apL_low (by omega)]; exact hb
theorem MA.be {J0 g0 J g : Nat → Int32} {sz : Nat} {L : List Nat} {be : Bool} (h : MA J0 g0 sz L J g) (hs : 1 ≤ sz) (hb : (g0 0 = nI 77) ↔ be = true) : (g 0 = nI 77) ↔ be = true := by
  rw [h.2.2, puL_low (by omega)]; exact hb
theorem XA.one {post : (Nat → Int32) → (Nat → Int32) → Prop} {I0 f0 I f : Nat → Int32} {sz v : Nat} {L : List Nat} (h : XA I0 f0 sz L I f) (hb : sz + L.length < 2 ^ 28) (k : ∀ I' f', XA I0 f0 sz (L ++ [v]) I' f' → post I' f') : wp_St_append post I f (nI v) :=
  p_St_ap h.1 (by omega) (k _ _ (h.ext (l := [v]) rfl))
theorem XA.even {post : (Nat → Int32) → (Nat → Int32) → Prop} {I0 f0 I f : Nat → Int32} {sz : Nat} {L : List Nat} (h : XA I0 f0 sz L I f) (hb : sz + L.length < 2 ^ 28) (k : ∀ I' f', XA I0 f0 sz (eL sz L) I' f' → post I' f') : wp_St_appendToEven post I f :=
  p_St_even h.1 (by omega) (k _ _ (h.ext (l := evL (sz + L.length)) (by rw [evL_len])))
theorem XA.short {post : (Nat → Int32) → (Nat → Int32) → Prop} {I0 f0 I f : Nat → Int32} {sz v : Nat} {L : List Nat} {be : Bool} (h : XA I0 f0 sz L I f) (hs : 1 ≤ sz) (hbe : (f0 0 = nI 77) ↔ be = true) (hb : sz + L.length < 2 ^ 28) (hv : v < 65536) (k : ∀ I' f', XA I0 f0 sz (L ++ bN be 2 v) I' f' → post I' f') : wp_St_appendShort post I f (nI v) :=
  p_St_short h.1 (by omega) (by omega) hv (h.be hs hbe) (k _ _ (h.ext (l := bN be 2 v) (by rw [bN_len])))
theorem XA.long {post : (Nat → Int32) → (Nat → Int32) → Prop} {I0 f0 I f : Nat → Int32} {sz v : Nat} {L : List Nat} {be : Bool} (h : XA I0 f0 sz L I f) (hs : 1 ≤ sz) (hbe : (f0 0 = nI 77) ↔ be = true) (hb : sz + L.length < 2 ^ 28) (hv : v < 2 ^ 31) (k : ∀ I' f', XA I0 f0 sz (L ++ bN be 4 v) I' f' → post I' f') : wp_St_appendLong post I f (nI v) :=
  p_St_long h.1 (by omega) (by omega) hv (h.be hs hbe) (k _ _ (h.ext (l := bN be 4 v) (by rw [bN_len])))
theorem MA.put {post : (Nat → Int32) → (Nat → Int32) → Prop} {J0 g0 J g : Nat → Int32} {sz v : Nat} {L : List Nat} (h : MA J0 g0 sz L J g) (hb : sz + L.length < 2000) (k : ∀ J' g', MA J0 g0 sz (L ++ [v]) J' g' → post J' g') : wp_M_put post J g (nI v) :=
  p_M_put h.1 hb (k _ _ (h.ext (l := [v]) rfl))
theorem MA.even {post : (Nat → Int32) → (Nat → Int32) → Prop} {J0 g0 J g : Nat → Int32} {sz : Nat} {L : List Nat} (h : MA J0 g0 sz L J g) (hb : sz + L.length < 2000) (k : ∀ J' g', MA J0 g0 sz (eL sz L) J' g' → post J' g') : wp_M_even post J g :=
  p_M_even h.1 hb (k _ _ (h.ext (l := evL (sz + L.length)) (by rw [evL_len])))
theorem MA.number {post : (Nat → Int32) → (Nat → Int32) → Prop} {J0 g0 J g : Nat → Int32} {sz n v : Nat} {L : List Nat} {be : Bool} (h : MA J0 g0 sz L J g) (hs : 1 ≤ sz) (hbe : (g0 0 = nI 77) ↔ be = true) (hb : sz + L.length + n ≤ 2000) (hv : v < 2 ^ 62) (k : ∀ J' g', MA J0 g0 sz (L ++ bN be n v) J' g' → post J' g') : wp_M_number post J g (nI n) (lN v) :=
  p_M_number h.1 (h.be hs hbe) (by omega) hb hv (k _ _ (h.ext (l := bN be n v) (by rw [bN_len])))
/-- u a, u (a + 1), .. -/
def rgL (u : Nat → Nat) (a : Nat) : Nat → List Nat
  | 0 => []
  | k + 1 => rgL u a k ++ [u (a + k)]
theorem rgL_len (u : Nat → Nat) (a k : Nat) : (rgL u a k).length = k := by
  induction k with
  | zero => rfl
  | succ k ih => simp only [rgL, List.length_append, ih, List.length_singleton]
theorem rgL_add (u : Nat → Nat) (a k m : Nat) : rgL u a (k + m) = rgL u a k ++ rgL u (a + k) m := by
  induction m with
  | zero => exact (List.append_nil _).symm
  | succ m ih =>
    rw [← Nat.add_assoc]
    simp only [rgL]
    rw [ih, List.append_assoc, show a + (k + m) = a + k + m by omega]
theorem aB.rg {u : Nat → Nat} {a k : Nat} (h : ∀ j, j < k → u (a + j) < 256) : aB (rgL u a k) := by
  induction k with
  | zero => exact aB.nil
  | succ k ih => exact (ih (fun j hj => h j (by omega))).app (aB.one (h k (by omega)))
