-- ===== end of PART A; then your names; then what follows =====
/-! THE CLAIM OUT OF ONE WALK OF THE LAW'S BODY. Your part is whole_start (and what it stands on); all else here is the same for every law, but numbers. -/
def R_law : String := "TaggedRasterLaw"
def lw_P (b : Addr) (xs : List Int32) (args : Array Value) (s : State) : Prop := args = #[.ref b] ∧ s.IntsAt b xs ∧ xs.length ≤ 3072 ∧ (Jvm.Cond.and given_1 narrow_1).before args s = true
def lw_Q (_ : Array Value) (s : State) (o : Outcome) (t : State) : Prop := o = .returned (some (.int 1)) ∧ Framed s o t [] 41 5758
def lw_Z (below : List Frame) (a : Array Value) (s : State) : State → Prop := fun t => ∃ o, t.status = .running ∧ Ended t below o ∧ lw_Q a s o t
/-- the law's own end, with 1 on the stack, nothing written that was there before, its room as the claim has it -/
theorem lw_ret {p : Program} {l : Launch} {e : Env} {s : State} {m : MethodId} {below : List Frame} {meth : Method} {c : Code} {b : Nat} (hx : p.tables.exec = Jvm.exec) (hb : c.code = code) (hr : meth.sig.returnType = ret) (hlocks : meth.locks = false) {pc : Nat} {H : Heap} {ls : Array Slot} (hdg : decode code pc = .ok (.ireturn, 1)) : W p l e room_1 s m #[Value.ref b] below meth c H [] 41 5758 (lw_Z below #[Value.ref b] s) (F0 m pc ls [.int 1]) := by
  intro T hT X
  obtain ⟨fs, hret, hrun, hended, hW, hframe⟩ := X.leave (v := some (.int 1)) (hlocks := hlocks) (fun h => by rw [hr] at h; cases h)
  have hmeth' : T.vm.method? m = some meth := X.method'
  refine ⟨T.setFrames fs, ?_, .returned (some (.int 1)), hrun, hended, rfl, ⟨_, rfl⟩, hW, hframe⟩
  jvm_step X.here [X.here.top, hx, hb, hdg, hmeth', hr, ret, narrow_b1]
  (try refine ⟨rfl, ?_⟩); (try refine ⟨rfl, ?_⟩)
  first | (intro acts; rw [hret _ acts rfl rfl rfl]) | rw [hret _ _ rfl rfl rfl]
  exact Steps.refl _
/-- what holds at the law's entry: the machine, the code, the tables' words (any of lw_tbl by 'hts w (by decide +kernel)'), the script of L ints xs at the cell b, what the Statement gives of the start (any of its parts by flat_of_before) -/
def lw_At (p : Program) (s : State) (m : MethodId) (meth : Method) (c : Code) (b L : Nat) (xs : Nat → Int32) : Prop :=
  p.tables.exec = Jvm.exec ∧ c.code = code ∧ meth.sig.returnType = ret ∧ c.maxLocals = 4 ∧ s.vm.findClass R_law = some m.cls ∧ (∀ w ∈ lw_tbl, w.before #[Value.ref b] s = true) ∧ va_X b L xs s s.heap ∧ b < s.heap.size ∧ meth.locks = false ∧ (Jvm.Cond.and given_1 narrow_1).before #[Value.ref b] s = true
theorem gK_start {s : State} {args : Array Value} (hg : ∀ w ∈ GL, w.before args s = true) : ∃ (dC : Nat → ClassId) (dI : Nat → Nat → Nat) (cI : ClassId), va_K (dC, dI) vwCl [(cI, .int)] s := by
  have h : ∀ c : Nat, ∃ (cC : ClassId) (iS : Nat → Nat), ∀ q : vw_C, vwCl[c]? = some q → u_Kn s q.1 q.2.1 q.2.2 cC iS := by
    intro c
    match c with
    | 0 => obtain ⟨a, b, h⟩ := u_known hg in_Da (hg _ t_208); exact ⟨a, b, fun q hq => by cases hq; exact h⟩
    | 1 => obtain ⟨a, b, h⟩ := u_known hg in_En (hg _ t_260); exact ⟨a, b, fun q hq => by cases hq; exact h⟩
    | 2 => obtain ⟨a, b, h⟩ := u_known hg in_Lb (hg _ t_152); exact ⟨a, b, fun q hq => by cases hq; exact h⟩
    | 3 => obtain ⟨a, b, h⟩ := u_known hg in_Ly (hg _ t_173); exact ⟨a, b, fun q hq => by cases hq; exact h⟩
    | 4 => obtain ⟨a, b, h⟩ := u_known hg in_Nd (hg _ t_244); exact ⟨a, b, fun q hq => by cases hq; exact h⟩
    | 5 => obtain ⟨a, b, h⟩ := u_known hg in_Ne (hg _ t_219); exact ⟨a, b, fun q hq => by cases hq; exact h⟩
    | 6 => obtain ⟨a, b, h⟩ := u_known hg in_Pi (hg _ t_130); exact ⟨a, b, fun q hq => by cases hq; exact h⟩
    | 7 => obtain ⟨a, b, h⟩ := u_known hg in_St (hg _ t_83); exact ⟨a, b, fun q hq => by cases hq; exact h⟩
    | 8 => obtain ⟨a, b, h⟩ := u_known hg in_Wk (hg _ t_107); exact ⟨a, b, fun q hq => by cases hq; exact h⟩
    | 9 => obtain ⟨a, b, h⟩ := u_known hg in_X (hg _ t_75); exact ⟨a, b, fun q hq => by cases hq; exact h⟩
    | 10 => obtain ⟨a, b, h⟩ := u_known hg in_M (hg _ t_749); exact ⟨a, b, fun q hq => by cases hq; exact h⟩
    | n + 11 => exact ⟨0, fun _ => 0, fun q hq => by simp at hq⟩
  obtain ⟨ca, k, comp, h1, h2, h3⟩ := Cond.arrayClass_spec (hg _ t_105)
  refine ⟨fun c => Classical.choose (h c), fun c => Classical.choose (Classical.choose_spec (h c)), ca, fun i q hq => Classical.choose_spec (Classical.choose_spec (h i)) q hq, fun i q hq => ?_⟩
  cases i with
  | zero => cases hq; exact ⟨fun n z => ⟨fun k h => (by cases h), k, h2, comp, h3⟩, h1⟩
  | succ i => simp at hq
theorem gN_start {s : State} {args : Array Value} (hts : ∀ w ∈ lw_tbl, w.before args s = true) : gN s := fun w hw => va_Nw.of ((by decide +kernel : ∀ w ∈ nestL, w.onTables = true) w hw) (hts w ((by decide +kernel : ∀ w ∈ nestL, w ∈ lw_tbl) w hw))
theorem whole_start_open (hpure : ∀ (L : Nat) (xs : Nat → Int32), L ≤ 3072 → wp_L_law L xs) {p : Program} {e : Env} {s : State} {m : MethodId} {below : List Frame} {meth : Method} {c : Code} (l : Launch) {b L : Nat} {xs : Nat → Int32} (hL : L ≤ 3072) (C0 : lw_At p s m meth c b L xs) : W p l e room_1 s m #[Value.ref b] below meth c s.heap [] 0 0 (lw_Z below #[Value.ref b] s) (entryFrame m ([Value.ref b] : List Value).toArray 4) := by
  obtain ⟨hx, hb, hr, hml, hown, hts, hX, hbl, hlk, -⟩ := C0
  have hg : ∀ w ∈ GL, w.before #[Value.ref b] s = true := fun w h => hts w (GL_tbl w h)
  obtain ⟨dC, dI, cI, hK⟩ := gK_start hg
  have hN := gN_start hts
  rw [lg_entry_eq]
  exact c_L_law l dC dI cI (A := fun q => s.heap.size ≤ q) hx hb hml hown hg hK hN (fun q h => h) hX hbl (Nat.not_le.mpr hbl) (fun H locs pc ls hd hS => va_forget hS.2.2 (lw_ret hx hb hr hlk hd)) (hpure L xs hL) _ (lv_entry [Value.ref b] (n := 4) (Nat.le_of_ble_eq_true rfl))
