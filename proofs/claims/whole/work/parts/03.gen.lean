theorem in_Da : ∀ w ∈ u_ws R_Da T_Da 1, w ∈ GL := gin_of (fun k hk => by match k, hk with
  | 0, _ => exact t_215
  | j + 1, h => exact absurd h (by omega))
theorem in_En : ∀ w ∈ u_ws R_En T_En 4, w ∈ GL := gin_of (fun k hk => by match k, hk with
  | 0, _ => exact t_271
  | 1, _ => exact t_273
  | 2, _ => exact t_275
  | 3, _ => exact t_277
  | j + 4, h => exact absurd h (by omega))
theorem in_Lb : ∀ w ∈ u_ws R_Lb T_Lb 4, w ∈ GL := gin_of (fun k hk => by match k, hk with
  | 0, _ => exact t_163
  | 1, _ => exact t_165
  | 2, _ => exact t_167
  | 3, _ => exact t_169
  | j + 4, h => exact absurd h (by omega))
theorem in_Ly : ∀ w ∈ u_ws R_Ly T_Ly 6, w ∈ GL := gin_of (fun k hk => by match k, hk with
  | 0, _ => exact t_194
  | 1, _ => exact t_196
  | 2, _ => exact t_198
  | 3, _ => exact t_200
  | 4, _ => exact t_202
  | 5, _ => exact t_204
  | j + 6, h => exact absurd h (by omega))
theorem in_Nd : ∀ w ∈ u_ws R_Nd T_Nd 3, w ∈ GL := gin_of (fun k hk => by match k, hk with
  | 0, _ => exact t_252
  | 1, _ => exact t_254
  | 2, _ => exact t_256
  | j + 3, h => exact absurd h (by omega))
theorem in_Ne : ∀ w ∈ u_ws R_Ne T_Ne 6, w ∈ GL := gin_of (fun k hk => by match k, hk with
  | 0, _ => exact t_230
  | 1, _ => exact t_232
  | 2, _ => exact t_234
  | 3, _ => exact t_236
  | 4, _ => exact t_238
  | 5, _ => exact t_240
  | j + 6, h => exact absurd h (by omega))
theorem in_Pi : ∀ w ∈ u_ws R_Pi T_Pi 4, w ∈ GL := gin_of (fun k hk => by match k, hk with
  | 0, _ => exact t_142
  | 1, _ => exact t_144
  | 2, _ => exact t_146
  | 3, _ => exact t_148
  | j + 4, h => exact absurd h (by omega))
theorem in_St : ∀ w ∈ u_ws R_St T_St 3, w ∈ GL := gin_of (fun k hk => by match k, hk with
  | 0, _ => exact t_98
  | 1, _ => exact t_100
  | 2, _ => exact t_102
  | j + 3, h => exact absurd h (by omega))
theorem in_Wk : ∀ w ∈ u_ws R_Wk T_Wk 4, w ∈ GL := gin_of (fun k hk => by match k, hk with
  | 0, _ => exact t_120
  | 1, _ => exact t_122
  | 2, _ => exact t_124
  | 3, _ => exact t_126
  | j + 4, h => exact absurd h (by omega))
theorem in_X : ∀ w ∈ u_ws R_X T_X 14, w ∈ GL := gin_of (fun k hk => by match k, hk with
  | 0, _ => exact t_321
  | 1, _ => exact t_323
  | 2, _ => exact t_325
  | 3, _ => exact t_327
  | 4, _ => exact t_329
  | 5, _ => exact t_331
  | 6, _ => exact t_333
  | 7, _ => exact t_335
  | 8, _ => exact t_337
  | 9, _ => exact t_339
  | 10, _ => exact t_341
  | 11, _ => exact t_343
  | 12, _ => exact t_345
  | 13, _ => exact t_347
  | j + 14, h => exact absurd h (by omega))
theorem in_M : ∀ w ∈ u_ws R_M T_M 30, w ∈ GL := gin_of (fun k hk => by match k, hk with
  | 0, _ => exact t_788
  | 1, _ => exact t_790
  | 2, _ => exact t_792
  | 3, _ => exact t_794
  | 4, _ => exact t_796
  | 5, _ => exact t_798
  | 6, _ => exact t_800
  | 7, _ => exact t_802
  | 8, _ => exact t_804
  | 9, _ => exact t_806
  | 10, _ => exact t_808
  | 11, _ => exact t_810
  | 12, _ => exact t_812
  | 13, _ => exact t_814
  | 14, _ => exact t_816
  | 15, _ => exact t_818
  | 16, _ => exact t_820
  | 17, _ => exact t_822
  | 18, _ => exact t_824
  | 19, _ => exact t_826
  | 20, _ => exact t_828
  | 21, _ => exact t_830
  | 22, _ => exact t_832
  | 23, _ => exact t_834
  | 24, _ => exact t_836
  | 25, _ => exact t_838
  | 26, _ => exact t_840
  | 27, _ => exact t_842
  | 28, _ => exact t_844
  | 29, _ => exact t_846
  | j + 30, h => exact absurd h (by omega))
def nestQ : List (String × Nat × MethodName × String) := [(R_X, 9, y_St_init, "TaggedRaster"), (R_X, 18, y_Wk_init, "TaggedRaster"), (R_X, 25, y_Pi_init, "TaggedRaster"), (R_X, 32, y_Lb_init, "TaggedRaster"), (R_X, 39, y_Ly_init, "TaggedRaster"), (R_X, 46, y_Da_init, "TaggedRaster"), (R_X, 53, y_Ne_init, "TaggedRaster"), (R_X, 60, y_Nd_init, "TaggedRaster"), (R_X, 67, y_En_init, "TaggedRaster"), (R_Ne, 59, y_X_codeWidth, "TaggedRaster"), (R_Nd, 18, y_X_codeWidth, "TaggedRaster")]
def nestL : List Cond := nestQ.map (fun q => .methodLinkNest q.1 q.2.1 q.2.2.1 q.2.2.2)
def gN (U : State) : Prop := ∀ w ∈ nestL, va_Nw w U
theorem gN.warm {s U : State} (hW : s.WarmedH U.vm) (h : gN s) : gN U := fun w hw => by
  obtain ⟨q, hq, rfl⟩ := List.mem_map.mp hw
  exact va_Nw.warmM hW (h _ hw)
theorem gN.same {u U : State} (h : u.vm = U.vm) (hn : gN u) : gN U := fun w hw => by
  obtain ⟨q, hq, rfl⟩ := List.mem_map.mp hw
  exact va_Nw.same rfl h (hn _ hw)
theorem nw_0 : (Cond.methodLinkNest R_X 9 y_St_init "TaggedRaster") ∈ nestL := List.mem_map.mpr ⟨_, List.mem_of_getElem? (i := 0) rfl, rfl⟩
theorem nw_1 : (Cond.methodLinkNest R_X 18 y_Wk_init "TaggedRaster") ∈ nestL := List.mem_map.mpr ⟨_, List.mem_of_getElem? (i := 1) rfl, rfl⟩
theorem nw_2 : (Cond.methodLinkNest R_X 25 y_Pi_init "TaggedRaster") ∈ nestL := List.mem_map.mpr ⟨_, List.mem_of_getElem? (i := 2) rfl, rfl⟩
theorem nw_3 : (Cond.methodLinkNest R_X 32 y_Lb_init "TaggedRaster") ∈ nestL := List.mem_map.mpr ⟨_, List.mem_of_getElem? (i := 3) rfl, rfl⟩
theorem nw_4 : (Cond.methodLinkNest R_X 39 y_Ly_init "TaggedRaster") ∈ nestL := List.mem_map.mpr ⟨_, List.mem_of_getElem? (i := 4) rfl, rfl⟩
theorem nw_5 : (Cond.methodLinkNest R_X 46 y_Da_init "TaggedRaster") ∈ nestL := List.mem_map.mpr ⟨_, List.mem_of_getElem? (i := 5) rfl, rfl⟩
theorem nw_6 : (Cond.methodLinkNest R_X 53 y_Ne_init "TaggedRaster") ∈ nestL := List.mem_map.mpr ⟨_, List.mem_of_getElem? (i := 6) rfl, rfl⟩
theorem nw_7 : (Cond.methodLinkNest R_X 60 y_Nd_init "TaggedRaster") ∈ nestL := List.mem_map.mpr ⟨_, List.mem_of_getElem? (i := 7) rfl, rfl⟩
theorem nw_8 : (Cond.methodLinkNest R_X 67 y_En_init "TaggedRaster") ∈ nestL := List.mem_map.mpr ⟨_, List.mem_of_getElem? (i := 8) rfl, rfl⟩
theorem nw_9 : (Cond.methodLinkNest R_Ne 59 y_X_codeWidth "TaggedRaster") ∈ nestL := List.mem_map.mpr ⟨_, List.mem_of_getElem? (i := 9) rfl, rfl⟩
theorem nw_10 : (Cond.methodLinkNest R_Nd 18 y_X_codeWidth "TaggedRaster") ∈ nestL := List.mem_map.mpr ⟨_, List.mem_of_getElem? (i := 10) rfl, rfl⟩
/-! our own rows: contracts of one shape over the kit's worlds, and one row a call -/
abbrev gz (cI : ClassId) (a n : Nat) (f : Nat → Int32) : Nat × va_E := (a, .inl (cI, n, .inl f))
def gl (l : List Nat) (k : Nat) : Nat := l.getD k 0
def gi (l : List Int32) (k : Nat) : Int32 := l.getD k 0
def gj (l : List Int64) (k : Nat) : Int64 := l.getD k 0
theorem gz_nar {v : Int32} (h : v = 0 ∨ v = 1) : narrow .boolean (.int v) = .int v := by rcases h with rfl | rfl <;> rfl
theorem gz_fit {v : Int32} (h : v = 0 ∨ v = 1) : fits .boolean (.int v) = true := by rcases h with rfl | rfl <;> rfl
theorem gk_same {D : va_G} {cl : List vw_C} {cI cA : ClassId} {s : State} (h : va_K D cl ([(cI, .int)] ++ [(cA, .int)]) s) : cA = cI := by
  have h1 : s.vm.findClass ("[" ++ FieldType.int.toString) = some cI := (h.2 0 _ rfl).2
  have h2 : s.vm.findClass ("[" ++ FieldType.int.toString) = some cA := (h.2 1 _ rfl).2
  exact Option.some.inj (h2.symm.trans h1)
theorem gg_B {y : MethodName} {cc : ByteArray} {n : Nat} {r : Option FieldType} (h : Cond.code y cc n r ∈ GL) : GoodIn GL (Cond.code y cc n r :: GL) := fun w hw => by
  rcases List.mem_cons.mp hw with rfl | hw
  · exact ⟨h, GL_good _ h⟩
  · exact ⟨hw, GL_good _ hw⟩
theorem gg_V {own C : String} {i : Nat} {y : MethodName} {cc : ByteArray} {n : Nat} {r : Option FieldType} (h1 : Cond.methodLink own i y ∈ GL) (h2 : Cond.instanceMethod y ∈ GL) (h3 : Cond.selects C y y ∈ GL) (h4 : Cond.initialized C ∈ GL) (h : Cond.code y cc n r ∈ GL) : GoodIn GL (wsV own i C y (Cond.code y cc n r :: GL)) := fun w hw => by
  rcases List.mem_append.mp hw with hw | hw
  · have : w ∈ GL := by
      simp only [List.mem_cons, List.not_mem_nil, or_false] at hw
      rcases hw with rfl | rfl | rfl | rfl <;> assumption
    exact ⟨this, GL_good _ this⟩
  · exact gg_B h w hw
theorem gg_S {own : String} {i : Nat} {y : MethodName} {cc : ByteArray} {n : Nat} {r : Option FieldType} (h1 : Cond.methodLink own i y ∈ GL) (h2 : Cond.static y ∈ GL) (h4 : Cond.initialized y.cls ∈ GL) (h : Cond.code y cc n r ∈ GL) : GoodIn GL (va_wsS own i y (Cond.code y cc n r :: GL)) := fun w hw => by
  rcases List.mem_append.mp hw with hw | hw
  · have : w ∈ GL := by
      simp only [List.mem_cons, List.not_mem_nil, or_false] at hw
      rcases hw with rfl | rfl | rfl <;> assumption
    exact ⟨this, GL_good _ this⟩
  · exact gg_B h w hw
def gm_P (D : va_G) (cl : List vw_C) (tys : List (ClassId × FieldType)) (sz : Nat) (w0 : va_W) : State → Prop := fun U => U.heap.size = sz ∧ va_P D cl w0 U.heap ∧ va_K D cl tys U ∧ gN U ∧ va_D (fun _ => True) w0
def gm_B {S : Type} (D : va_G) (cl : List vw_C) (tys : List (ClassId × FieldType)) (A : Nat → Prop) (wf : S → va_W) : S → State → Prop := fun u t => va_P D cl (wf u) t.heap ∧ va_K D cl tys t ∧ va_D A (wf u)
theorem gm_blind {D : va_G} {cl : List vw_C} {tys : List (ClassId × FieldType)} {sz : Nat} {w0 : va_W} {av : List Value} : FrameBlind (va_Pc av (gm_P D cl tys sz w0)) := fun a U g mk q => by
  obtain ⟨q0, q1, qP, qK, qN, qD⟩ := q
  exact ⟨q0, q1, qP, va_K.moved (u := U) (U := U.calling g mk a) (Vm.Alike.refl U.vm) qK, gN.same (u := U) (U := U.calling g mk a) rfl qN, qD⟩
theorem gm_pre {D : va_G} {cl : List vw_C} {tys : List (ClassId × FieldType)} {s : State} {H : Heap} {wc : va_W} {av : List Value} {A : Nat → Prop} (hK : va_K D cl tys s) (hN : gN s) (hP : va_P D cl wc H) (hD : va_D A wc) : ∀ U : State, U.heap = H → s.WarmedH U.vm → va_Pc av (gm_P D cl tys H.size wc) av.toArray U :=
  fun U hU hW => ⟨rfl, by rw [hU], by rw [hU]; exact hP, va_K.moved hW.alike hK, gN.warm hW hN, hD.weaken (fun _ _ _ _ => trivial)⟩
theorem gm_sub {D : va_G} {cl : List vw_C} {ws ws' : va_W} {H : Heap} (h : va_P D cl ws H) (is : List Nat) (hs : is.map (fun i => ws[i]?) = ws'.map some) : va_P D cl ws' H := by
  intro k q hk
  have h1 : (is.map (fun i => ws[i]?))[k]? = some (some q) := by rw [hs, List.getElem?_map, hk]; rfl
  rw [List.getElem?_map] at h1
  cases hi : is[k]? with
  | none => rw [hi] at h1; cases h1
  | some i => rw [hi] at h1; exact h i q (Option.some.inj h1)
/-- a contract: what is given of the world w0 and the arguments av; the answer, and the world behind it -/
def gm_i {S : Type} (l : Launch) (y : MethodName) (ws : List Cond) (rm : Room) (D : va_G) (cl : List vw_C) (tys : List (ClassId × FieldType)) (av : List Value) (w0 : va_W) (wf : S → va_W) (post : Int32 → S → Prop) : Prop :=
  ∀ sz : Nat, Met l y ws rm (va_Pc av (gm_P D cl tys sz w0)) (va_Qi post (gm_B D cl tys (va_A w0 sz) wf) (va_A w0 sz)) rm.cells rm.slots (va_A w0 sz)
def gm_l {S : Type} (l : Launch) (y : MethodName) (ws : List Cond) (rm : Room) (D : va_G) (cl : List vw_C) (tys : List (ClassId × FieldType)) (av : List Value) (w0 : va_W) (wf : S → va_W) (post : Int64 → S → Prop) : Prop :=
  ∀ sz : Nat, Met l y ws rm (va_Pc av (gm_P D cl tys sz w0)) (va_Ql post (gm_B D cl tys (va_A w0 sz) wf) (va_A w0 sz)) rm.cells rm.slots (va_A w0 sz)
def gm_v {S : Type} (l : Launch) (y : MethodName) (ws : List Cond) (rm : Room) (D : va_G) (cl : List vw_C) (tys : List (ClassId × FieldType)) (av : List Value) (w0 : va_W) (wf : S → va_W) (post : S → Prop) : Prop :=
  ∀ sz : Nat, Met l y ws rm (va_Pc av (gm_P D cl tys sz w0)) (va_Qv post (gm_B D cl tys (va_A w0 sz) wf) (va_A w0 sz)) rm.cells rm.slots (va_A w0 sz)
section GMO
variable {S : Type} {l : Launch} {y : MethodName} {ws : List Cond} {rm : Room} {D : va_G} {cl : List vw_C} {tys : List (ClassId × FieldType)} {av : List Value} {w0 : va_W} {wf : S → va_W} {cc : ByteArray} {maxL : Nat}
theorem gm_iof {post : Int32 → S → Prop} {ty : FieldType} (hy : plainName y.cls = true) (hw : ws = Cond.code y cc maxL (some ty) :: GL) (hlen : (lg_sl av).length ≤ maxL)
    (body : ∀ (p : Program) (e : Env) (s : State) (m : MethodId) (args : Array Value) (below : List Frame) (meth : Method) (c : Code) (A : Nat → Prop) (Q : State → Prop), p.tables.exec = Jvm.exec → c.code = cc → c.maxLocals = maxL → s.vm.findClass y.cls = some m.cls → (∀ w ∈ GL, w.before args s = true) → va_K D cl tys s → gN s → (∀ q, s.heap.size ≤ q → A q) →
      (∀ (H : Heap) (locs : List Loc) (pc : Nat) (ls : Array Slot) (v : Int32) (u : S), decode cc pc = .ok (.ireturn, 1) → narrow ty (.int v) = .int v → va_P D cl (wf u) H → va_D A (wf u) → va_S A s.heap H locs → post v u → W p l e rm s m args below meth c H locs rm.cells rm.slots Q (F0 m pc ls [.int v])) →
      ∀ ls : Array Slot, lv_has ls maxL (lv_args 0 av) → va_P D cl w0 s.heap → va_D A w0 → va_S A s.heap s.heap [] → W p l e rm s m args below meth c s.heap [] 0 0 Q (F0 m 0 ls [])) : gm_i l y ws rm D cl tys av w0 wf post := by
  intro sz
  refine Met.ofW (cc := cc) (maxL := maxL) (ret := some ty) hy hw ?_
  intro p e s m args below meth c s₁ B hml hv
  obtain ⟨rfl, hsz, hP, hK, hN, hD0⟩ := hv
  subst hsz
  rw [lg_entry_eq]
  exact body p e s m _ below meth c (va_A w0 s.heap.size) _ B.exec B.bytes hml (findClass_of_methodNamed B.named) (fun w h => atoms_spec (ws := ws) B.pre w (by rw [hw]; exact List.mem_cons_of_mem _ h)) hK hN (fun q h => Or.inr h) (fun H locs pc ls v u hd hn hP hD hS hp => W.zret B.exec B.bytes B.returns hn (fun t ht hW => ⟨⟨v, u, rfl, hp, by rw [ht]; exact hP, va_K.moved hW.alike hK, hD⟩, hS.F ht⟩) hS.2.2 hd B.notSynchronized) _ (lv_entry av hlen) hP hD0.self va_S.rf
theorem gm_lof {post : Int64 → S → Prop} (hy : plainName y.cls = true) (hw : ws = Cond.code y cc maxL (some .long) :: GL) (hlen : (lg_sl av).length ≤ maxL)
    (body : ∀ (p : Program) (e : Env) (s : State) (m : MethodId) (args : Array Value) (below : List Frame) (meth : Method) (c : Code) (A : Nat → Prop) (Q : State → Prop), p.tables.exec = Jvm.exec → c.code = cc → c.maxLocals = maxL → s.vm.findClass y.cls = some m.cls → (∀ w ∈ GL, w.before args s = true) → va_K D cl tys s → gN s → (∀ q, s.heap.size ≤ q → A q) →
      (∀ (H : Heap) (locs : List Loc) (pc : Nat) (ls : Array Slot) (v : Int64) (u : S), decode cc pc = .ok (.lreturn, 1) → va_P D cl (wf u) H → va_D A (wf u) → va_S A s.heap H locs → post v u → W p l e rm s m args below meth c H locs rm.cells rm.slots Q (F0 m pc ls [.long v])) →
      ∀ ls : Array Slot, lv_has ls maxL (lv_args 0 av) → va_P D cl w0 s.heap → va_D A w0 → va_S A s.heap s.heap [] → W p l e rm s m args below meth c s.heap [] 0 0 Q (F0 m 0 ls [])) : gm_l l y ws rm D cl tys av w0 wf post := by
  intro sz
  refine Met.ofW (cc := cc) (maxL := maxL) (ret := some .long) hy hw ?_
  intro p e s m args below meth c s₁ B hml hv
  obtain ⟨rfl, hsz, hP, hK, hN, hD0⟩ := hv
  subst hsz
  rw [lg_entry_eq]
  exact body p e s m _ below meth c (va_A w0 s.heap.size) _ B.exec B.bytes hml (findClass_of_methodNamed B.named) (fun w h => atoms_spec (ws := ws) B.pre w (by rw [hw]; exact List.mem_cons_of_mem _ h)) hK hN (fun q h => Or.inr h) (fun H locs pc ls v u hd hP hD hS hp => W.lret B.exec B.bytes B.returns (fun t ht hW => ⟨⟨v, u, rfl, hp, by rw [ht]; exact hP, va_K.moved hW.alike hK, hD⟩, hS.F ht⟩) hS.2.2 hd B.notSynchronized) _ (lv_entry av hlen) hP hD0.self va_S.rf
theorem gm_vof {post : S → Prop} (hy : plainName y.cls = true) (hw : ws = Cond.code y cc maxL none :: GL) (hlen : (lg_sl av).length ≤ maxL)
    (body : ∀ (p : Program) (e : Env) (s : State) (m : MethodId) (args : Array Value) (below : List Frame) (meth : Method) (c : Code) (A : Nat → Prop) (Q : State → Prop), p.tables.exec = Jvm.exec → c.code = cc → c.maxLocals = maxL → s.vm.findClass y.cls = some m.cls → (∀ w ∈ GL, w.before args s = true) → va_K D cl tys s → gN s → (∀ q, s.heap.size ≤ q → A q) → meth.name = y.name →
      (∀ (H : Heap) (locs : List Loc) (pc : Nat) (ls : Array Slot) (u : S), decode cc pc = .ok (.return_, 1) → va_P D cl (wf u) H → va_D A (wf u) → va_S A s.heap H locs → post u → W p l e rm s m args below meth c H locs rm.cells rm.slots Q (F0 m pc ls [])) →
      ∀ ls : Array Slot, lv_has ls maxL (lv_args 0 av) → va_P D cl w0 s.heap → va_D A w0 → va_S A s.heap s.heap [] → W p l e rm s m args below meth c s.heap [] 0 0 Q (F0 m 0 ls [])) : gm_v l y ws rm D cl tys av w0 wf post := by
  intro sz
  refine Met.ofW (cc := cc) (maxL := maxL) (ret := none) hy hw ?_
  intro p e s m args below meth c s₁ B hml hv
  obtain ⟨rfl, hsz, hP, hK, hN, hD0⟩ := hv
  subst hsz
  rw [lg_entry_eq]
  exact body p e s m _ below meth c (va_A w0 s.heap.size) _ B.exec B.bytes hml (findClass_of_methodNamed B.named) (fun w h => atoms_spec (ws := ws) B.pre w (by rw [hw]; exact List.mem_cons_of_mem _ h)) hK hN (fun q h => Or.inr h) (name_of_methodNamed B.named B.method).1 (fun H locs pc ls u hd hP hD hS hp => W.vret B.exec B.bytes B.returns (fun t ht hW => ⟨⟨u, rfl, hp, by rw [ht]; exact hP, va_K.moved hW.alike hK, hD⟩, hS.F ht⟩) hS.2.2 hd B.notSynchronized) _ (lv_entry av hlen) hP hD0.self va_S.rf
end GMO
section GRUN
variable {p : Program} {l : Launch} {e : Env} {R : Room} {s : State} {m : MethodId} {args : Array Value} {below : List Frame} {meth : Method} {c : Code} {H : Heap} {locs : List Loc} {cells slots : Nat} {Q : State → Prop}
variable {y : MethodName} {bytes cc : ByteArray} {maxL nL mc ms n index : Nat} {ret : Option FieldType} {wsc : List Cond} {rmc : Room} {Qc : Array Value → State → Outcome → State → Prop} {free : Addr → Prop} {Ts : List Cond} {own C host : String} {b : Addr} {As rest st0 : List Value} {pc : Nat} {ls : Array Slot}
variable {D : va_G} {cl : List vw_C} {tys : List (ClassId × FieldType)} {ws wc : va_W} {A : Nat → Prop}
theorem gr_V (F : CallFix p m c cc nL s args Ts own) (hM : Met l y wsc rmc (va_Pc (.ref b :: As) (gm_P D cl tys H.size wc)) Qc mc ms free) (cw : CallW R s args own C index y bytes maxL ret wsc rmc mc ms n) (hK : va_K D cl tys s) (hN : gN s) (hP : va_P D cl ws H) (hD : va_D A ws) (isC : List Nat) (hnC : va_nd isC = true) (hC : isC.map (fun i => ws[i]?) = wc.map some)
    (q0 ci : Nat) {fs : List Value} {qC : vw_C} (he : ws[q0]? = some (b, .inr (ci, fs))) (hcl : cl[ci]? = some qC) (hq : qC.1 = C) (hAs : As.length = n) (hsz : ls.size = nL) (hst : st0 = As.reverse ++ .ref b :: rest) (hW : (rest.map fun v => v.category).sum ≤ 8) (hdg : decode cc pc = .ok (.invokevirtual index, 3)) (hf : cells + mc ≤ R.cells ∧ slots + ms ≤ R.slots) :
    va_Run p l e R s m args below meth c H locs cells slots mc ms (F0 m pc ls st0) rest (Qc (Value.ref b :: As).toArray) free := by
  subst hst
  have hPc := gm_sub hP isC hC
  have hDc := hD.sub isC hnC hC
  subst hq
  exact va_runV F hM cw ⟨gm_blind, va_recv hK hP hcl he, gm_pre hK hN hPc hDc⟩ rfl hAs hsz rfl (lv_room hW) hdg hf
theorem gr_S (F : CallFix p m c cc nL s args Ts own) (hM : Met l y wsc rmc (va_Pc As (gm_P D cl tys H.size wc)) Qc mc ms free) (cw : CallB R s args own index y bytes maxL ret wsc rmc mc ms n ∧ (Cond.static y).before args s = true) (hK : va_K D cl tys s) (hN : gN s) (hP : va_P D cl ws H) (hD : va_D A ws) (isC : List Nat) (hnC : va_nd isC = true) (hC : isC.map (fun i => ws[i]?) = wc.map some)
    (hAs : As.length = n) (hsz : ls.size = nL) (hst : st0 = As.reverse ++ rest) (hW : (rest.map fun v => v.category).sum ≤ 8) (hdg : decode cc pc = .ok (.invokestatic index, 3)) (hf : cells + mc ≤ R.cells ∧ slots + ms ≤ R.slots) :
    va_Run p l e R s m args below meth c H locs cells slots mc ms (F0 m pc ls st0) rest (Qc As.toArray) free := by
  subst hst
  exact va_runS F hM cw ⟨gm_blind, gm_pre hK hN (gm_sub hP isC hC) (hD.sub isC hnC hC)⟩ rfl hAs hsz rfl (lv_room hW) hdg hf
theorem gr_I (F : CallFix p m c cc nL s args Ts own) (hM : Met l y wsc rmc (va_Pc (.ref b :: As) (gm_P D cl tys H.size wc)) Qc mc ms free) (cw : CallB R s args own index y bytes maxL none wsc rmc mc ms n ∧ y.name = "<init>" ∧ (Cond.instanceMethod y).before args s = true) (hK : va_K D cl tys s) (hN : gN s) (hP : va_P D cl ws H) (hD : va_D A ws) (isC : List Nat) (hnC : va_nd isC = true) (hC : isC.map (fun i => ws[i]?) = wc.map some)
    (hAs : As.length = n) (hsz : ls.size = nL) (hst : st0 = As.reverse ++ .ref b :: rest) (hW : (rest.map fun v => v.category).sum ≤ 8) (hdg : decode cc pc = .ok (.invokespecial index, 3)) (hf : cells + mc ≤ R.cells ∧ slots + ms ≤ R.slots) :
    va_Run p l e R s m args below meth c H locs cells slots mc ms (F0 m pc ls st0) rest (Qc (Value.ref b :: As).toArray) free := by
  subst hst
  exact va_runI F hM cw ⟨gm_blind, gm_pre hK hN (gm_sub hP isC hC) (hD.sub isC hnC hC)⟩ rfl hAs hsz rfl (lv_room hW) hdg hf
theorem gr_SN (F : CallFix p m c cc nL s args Ts own) (hM : Met l y wsc rmc (va_Pc As (gm_P D cl tys H.size wc)) Qc mc ms free) (cw : va_CN R s args own index y host bytes maxL ret wsc rmc mc ms n ∧ (Cond.static y).before args s = true ∧ True) (hK : va_K D cl tys s) (hN : gN s) (hP : va_P D cl ws H) (hD : va_D A ws) (isC : List Nat) (hnC : va_nd isC = true) (hC : isC.map (fun i => ws[i]?) = wc.map some)
    (hAs : As.length = n) (hsz : ls.size = nL) (hst : st0 = As.reverse ++ rest) (hW : (rest.map fun v => v.category).sum ≤ 8) (hdg : decode cc pc = .ok (.invokestatic index, 3)) (hf : cells + mc ≤ R.cells ∧ slots + ms ≤ R.slots) :
    va_Run p l e R s m args below meth c H locs cells slots mc ms (F0 m pc ls st0) rest (Qc As.toArray) free := by
  subst hst
  exact va_runSN F hM cw ⟨gm_blind, gm_pre hK hN (gm_sub hP isC hC) (hD.sub isC hnC hC)⟩ rfl hAs hsz rfl (lv_room hW) hdg hf
theorem gr_IN (F : CallFix p m c cc nL s args Ts own) (hM : Met l y wsc rmc (va_Pc (.ref b :: As) (gm_P D cl tys H.size wc)) Qc mc ms free) (cw : va_CN R s args own index y host bytes maxL none wsc rmc mc ms n ∧ y.name = "<init>" ∧ (Cond.instanceMethod y).before args s = true) (hK : va_K D cl tys s) (hN : gN s) (hP : va_P D cl ws H) (hD : va_D A ws) (isC : List Nat) (hnC : va_nd isC = true) (hC : isC.map (fun i => ws[i]?) = wc.map some)
    (hAs : As.length = n) (hsz : ls.size = nL) (hst : st0 = As.reverse ++ .ref b :: rest) (hW : (rest.map fun v => v.category).sum ≤ 8) (hdg : decode cc pc = .ok (.invokespecial index, 3)) (hf : cells + mc ≤ R.cells ∧ slots + ms ≤ R.slots) :
    va_Run p l e R s m args below meth c H locs cells slots mc ms (F0 m pc ls st0) rest (Qc (Value.ref b :: As).toArray) free := by
  subst hst
  exact va_runIN F hM cw ⟨gm_blind, gm_pre hK hN (gm_sub hP isC hC) (hD.sub isC hnC hC)⟩ rfl hAs hsz rfl (lv_room hW) hdg hf
end GRUN
section GCALL
variable {p : Program} {l : Launch} {e : Env} {R : Room} {s : State} {m : MethodId} {args : Array Value} {below : List Frame} {meth : Method} {c : Code} {H : Heap} {locs : List Loc} {cells slots cells2 slots2 : Nat} {Q : State → Prop} {mc ms : Nat} {rest st0 : List Value} {pc : Nat} {ls : Array Slot} {a : Array Value}
variable {D : va_G} {cl : List vw_C} {tys : List (ClassId × FieldType)} {ws wc wr : va_W} {A : Nat → Prop} {S : Type} {wf wn : S → va_W}
theorem gc_i {post : Int32 → S → Prop} (hr : va_Run p l e R s m args below meth c H locs cells slots mc ms (F0 m pc ls st0) rest (va_Qi post (gm_B D cl tys (va_A wc H.size) wf) (va_A wc H.size) a) (va_A wc H.size)) (hc : cells + mc = cells2) (hs : slots + ms = slots2) (hP : va_P D cl ws H) (hD : va_D A ws) (hS : va_S A s.heap H locs) (hA : ∀ q, s.heap.size ≤ q → A q)
    (isC isR pm : List Nat) (hC : isC.map (fun i => ws[i]?) = wc.map some) (hR : isR.map (fun i => ws[i]?) = wr.map some) (hn : va_nd isR = true) (hdis : ∀ i ∈ isR, i ∉ isC) (hpn : va_nd pm = true) (hpm : ∀ u, pm.map (fun i => (wr ++ wf u)[i]?) = (wn u).map some)
    (kk : ∀ (r : Int32) (u : S) (H1 : Heap) (locs1 : List Loc), post r u → va_P D cl (wn u) H1 → va_D A (wn u) → va_S A s.heap H1 locs1 → W p l e R s m args below meth c H1 locs1 cells2 slots2 Q (F0 m (pc + 3) ls (.int r :: rest))) :
    W p l e R s m args below meth c H locs cells slots Q (F0 m pc ls st0) := by
  subst hc; subst hs
  have hF := va_free hD hS hA isC hC
  refine va_calli hr hS (fun q _ h => hF q h) hF (fun r u t H1 locs1 ht hvm hp hB hz hk hS1 => ?_)
  obtain ⟨hP1, hK1, hD1⟩ := hB
  rw [ht] at hP1
  obtain ⟨hP2, hD2⟩ := va_join hP hD isC isR hC hR hn hdis hk hF hP1 hD1
  exact kk r u H1 locs1 hp (gm_sub hP2 pm (hpm u)) (hD2.sub pm hpn (hpm u)) hS1
theorem gc_l {post : Int64 → S → Prop} (hr : va_Run p l e R s m args below meth c H locs cells slots mc ms (F0 m pc ls st0) rest (va_Ql post (gm_B D cl tys (va_A wc H.size) wf) (va_A wc H.size) a) (va_A wc H.size)) (hc : cells + mc = cells2) (hs : slots + ms = slots2) (hP : va_P D cl ws H) (hD : va_D A ws) (hS : va_S A s.heap H locs) (hA : ∀ q, s.heap.size ≤ q → A q)
    (isC isR pm : List Nat) (hC : isC.map (fun i => ws[i]?) = wc.map some) (hR : isR.map (fun i => ws[i]?) = wr.map some) (hn : va_nd isR = true) (hdis : ∀ i ∈ isR, i ∉ isC) (hpn : va_nd pm = true) (hpm : ∀ u, pm.map (fun i => (wr ++ wf u)[i]?) = (wn u).map some)
    (kk : ∀ (r : Int64) (u : S) (H1 : Heap) (locs1 : List Loc), post r u → va_P D cl (wn u) H1 → va_D A (wn u) → va_S A s.heap H1 locs1 → W p l e R s m args below meth c H1 locs1 cells2 slots2 Q (F0 m (pc + 3) ls (.long r :: rest))) :
    W p l e R s m args below meth c H locs cells slots Q (F0 m pc ls st0) := by
  subst hc; subst hs
  have hF := va_free hD hS hA isC hC
  refine va_calll hr hS (fun q _ h => hF q h) hF (fun r u t H1 locs1 ht hvm hp hB hz hk hS1 => ?_)
  obtain ⟨hP1, hK1, hD1⟩ := hB
  rw [ht] at hP1
  obtain ⟨hP2, hD2⟩ := va_join hP hD isC isR hC hR hn hdis hk hF hP1 hD1
  exact kk r u H1 locs1 hp (gm_sub hP2 pm (hpm u)) (hD2.sub pm hpn (hpm u)) hS1
theorem gc_v {post : S → Prop} (hr : va_Run p l e R s m args below meth c H locs cells slots mc ms (F0 m pc ls st0) rest (va_Qv post (gm_B D cl tys (va_A wc H.size) wf) (va_A wc H.size) a) (va_A wc H.size)) (hc : cells + mc = cells2) (hs : slots + ms = slots2) (hP : va_P D cl ws H) (hD : va_D A ws) (hS : va_S A s.heap H locs) (hA : ∀ q, s.heap.size ≤ q → A q)
    (isC isR pm : List Nat) (hC : isC.map (fun i => ws[i]?) = wc.map some) (hR : isR.map (fun i => ws[i]?) = wr.map some) (hn : va_nd isR = true) (hdis : ∀ i ∈ isR, i ∉ isC) (hpn : va_nd pm = true) (hpm : ∀ u, pm.map (fun i => (wr ++ wf u)[i]?) = (wn u).map some)
    (kk : ∀ (u : S) (H1 : Heap) (locs1 : List Loc), post u → va_P D cl (wn u) H1 → va_D A (wn u) → va_S A s.heap H1 locs1 → W p l e R s m args below meth c H1 locs1 cells2 slots2 Q (F0 m (pc + 3) ls (rest))) :
    W p l e R s m args below meth c H locs cells slots Q (F0 m pc ls st0) := by
  subst hc; subst hs
  have hF := va_free hD hS hA isC hC
  refine va_callv hr hS (fun q _ h => hF q h) hF (fun u t H1 locs1 ht hvm hp hB hz hk hS1 => ?_)
  obtain ⟨hP1, hK1, hD1⟩ := hB
  rw [ht] at hP1
  obtain ⟨hP2, hD2⟩ := va_join hP hD isC isR hC hR hn hdis hk hF hP1 hD1
  exact kk u H1 locs1 hp (gm_sub hP2 pm (hpm u)) (hD2.sub pm hpn (hpm u)) hS1
end GCALL

