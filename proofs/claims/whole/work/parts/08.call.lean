/-! CONTRACTS OVER ABSTRACT HEAPS, CALLS, ENDS -/
abbrev ab_O : Type := Option Value ⊕ String
abbrev ab_Y : Type := ab_O × List ab_C
def ab_o (ad : Nat → Nat) (r : ab_O) (o : Outcome) (t : State) : Prop := match r with
  | .inl v => o = .returned (v.map (ab_v ad))
  | .inr E => ∃ (q : Addr) (ce : Cell), o = .threw q ∧ t.heap[q]? = some ce ∧ ce.vm = .none ∧ t.vm.findClass E = some ce.cls
def ab_cw (M : ab_M) : Cond := match M.2.2.2.2.2.2.2 with
  | [] => .code M.2.1 M.2.2.1 M.2.2.2.1 M.2.2.2.2.1
  | q :: hh => .codeWith M.2.1 M.2.2.1 M.2.2.2.1 M.2.2.2.2.1 (q :: hh)
def ab_ex (x : ExceptionTableEntry) : Nat × Nat × Nat × Nat := (x.startPc, x.endPc, x.handlerPc, x.catchType)
theorem ab_cw_spec {M : ab_M} {a : Array Value} {U : State} {mk : MethodId} (h : (ab_cw M).before a U = true) (hn : U.methodNamed? M.2.1 = some mk) :
    ∃ (meth : Method) (c : Code), U.vm.method? mk = some meth ∧ meth.code = some c ∧ c.code = M.2.2.1 ∧ c.maxLocals = M.2.2.2.1 ∧ meth.sig.returnType = M.2.2.2.2.1 ∧ meth.locks = false ∧ c.exceptionTable.toList.map ab_ex = M.2.2.2.2.2.2.2 ∧ parseMethodDescriptor M.2.1.desc = some meth.sig := by
  unfold ab_cw at h
  split at h
  · rename_i he
    obtain ⟨meth, c, h1, h2, h3, h4, h5, h6, h7, h8⟩ := Cond.code_spec hn h
    refine ⟨meth, c, h1, h2, h3, h4, h5, h6, ?_, h8⟩
    rw [he, show c.exceptionTable.toList = [] by simpa using h7]
    rfl
  · rename_i q hh he
    obtain ⟨m9, meth, c, hn9, h1, h2, h3, h4, h7, h5, h6, h8⟩ := Cond.codeWith_spec h
    cases hn.symm.trans hn9
    refine ⟨meth, c, h1, h2, h3, h4, h5, h6, ?_, h8⟩
    rw [he]
    exact h7
def ab_U (D : va_G) (ca : FieldType → ClassId) (B : Nat) (ad : Nat → Nat) (h : List ab_C) (U : State) : Prop :=
  va_K D ab_cl (ab_tys ca) U ∧ va_P D ab_cl (ab_w ad ca h) U.heap ∧ va_D (fun q => B ≤ q) (ab_w ad ca h) ∧ B ≤ U.heap.size ∧ ab_T B U
def ab_D (D : va_G) (ca : FieldType → ClassId) (B : Nat) (ad0 : Nat → Nat) (h : List ab_C) (Qr : ab_Y → Prop) (st : State) (o : Outcome) (t : State) : Prop :=
  (∃ (r : ab_Y) (ad : Nat → Nat), Qr r ∧ ab_o ad r.1 o t ∧ va_P D ab_cl (ab_w ad ca r.2) t.heap ∧ va_D (fun q => B ≤ q) (ab_w ad ca r.2) ∧ (∀ k, k ≤ h.length → ad k = ad0 k) ∧ h.length ≤ r.2.length) ∧ st.heap.size ≤ t.heap.size ∧ ∀ q, q < B → t.heap[q]? = st.heap[q]?
/-- what may be made: by a return, by a throw -/
def ab_cs (rm : Room) (rt : Nat × Nat) (o : Outcome) : Nat × Nat := match o with
  | .returned _ => rt
  | .threw _ => (rm.cells, rm.slots)
def ab_E (D : va_G) (ca : FieldType → ClassId) (B : Nat) (ad0 : Nat → Nat) (h : List ab_C) (Qr : ab_Y → Prop) (rm : Room) (rt : Nat × Nat) (st : State) (o : Outcome) (t : State) : Prop :=
  ab_D D ca B ad0 h Qr st o t ∧ ∃ L : List Loc, st.WarmedH t.vm ∧ st.sameButNew ({ t with vm := st.vm } : State) L (ab_cs rm rt o).1 (ab_cs rm rt o).2 ∧ ∀ q ∈ L, B ≤ q.base
/-- THE CONTRACT of a method at these arguments and this heap -/
def ab_K (l : Launch) (M : ab_M) (rm : Room) (rt : Nat × Nat) (as : List Value) (h : List ab_C) (Qr : ab_Y → Prop) : Prop :=
  ∀ (D : va_G) (ca : FieldType → ClassId) (B : Nat) (ad0 : Nat → Nat),
    MetFree l M.2.1 (headSpec (ab_cw M :: ab_G) rm) (fun a U => a = (as.map (ab_v ad0)).toArray ∧ ab_U D ca B ad0 h U) (fun _ _ _ _ _ => True) (fun _ st o t => ab_E D ca B ad0 h Qr rm rt st o t)
def ab_Q (below : List Frame) (D : va_G) (ca : FieldType → ClassId) (B : Nat) (ad0 : Nat → Nat) (h : List ab_C) (Qr : ab_Y → Prop) (rm : Room) (rt : Nat × Nat) (s : State) : State → Prop := fun t =>
  ∃ o, t.status = .running ∧ Ended t below o ∧ ab_E D ca B ad0 h Qr rm rt s o t
/-- the run is a contract's, from the heap h0, to Qr -/
def ab_con (X : ab_X) (M : ab_M) (rt : Nat × Nat) (h0 : List ab_C) (Qr : ab_Y → Prop) : Prop := match X with
  | (_, l, _, R, s, _, _, below, meth, c, D, ca, B, n0, ad0, sc, Q) => (∀ t, ab_Q below D ca B ad0 h0 Qr R rt s t → Q t) ∧ n0 = h0.length ∧ ab_T B s ∧ l.stackTraces = false ∧ meth.sig.returnType = M.2.2.2.2.1 ∧ c.exceptionTable.toList.map ab_ex = M.2.2.2.2.2.2.2 ∧ sc = none
theorem ab_args (ad : Nat → Nat) : ∀ (i : Nat) (as : List Value), lv_args i (as.map (ab_v ad)) = ab_l ad (lv_args i as)
  | _, [] => rfl
  | i, v :: vs => by
    show (i, ab_v ad v) :: lv_args (if (ab_v ad v).category = 2 then i + 2 else i + 1) (vs.map (ab_v ad)) = (i, ab_v ad v) :: ab_l ad (lv_args (if v.category = 2 then i + 2 else i + 1) vs)
    rw [ab_v_cat, ab_args ad _ vs]
theorem ab_sl (ad : Nat → Nat) : ∀ as : List Value, (lg_sl (as.map (ab_v ad))).length = (lg_sl as).length
  | [] => rfl
  | v :: vs => by
    have ih := ab_sl ad vs
    unfold lg_sl at ih ⊢
    rw [List.map_cons, List.flatMap_cons, List.flatMap_cons, List.length_append, List.length_append, ih, ab_v_cat]
    by_cases hv : v.category = 2
    · rw [if_pos hv, if_pos hv]; rfl
    · rw [if_neg hv, if_neg hv]; rfl
theorem ab_K_of {l : Launch} {M : ab_M} {rm : Room} {rt : Nat × Nat} {as : List Value} {h : List ab_C} {Qr : ab_Y → Prop} (hl : l.stackTraces = false) (hy : plainName M.2.1.cls = true) (hM1 : M.1 = M.2.1.cls) (hin : M.2.2.2.2.2.1 = true → M.2.1.name = "<init>") (hr : 1 ≤ rm.frames ∧ 21 ≤ rm.locals) (hlen : (lg_sl as).length ≤ M.2.2.2.1)
    (body : ∀ X : ab_X, X.2.1 = l → X.2.2.2.1 = rm → ab_is X M → ab_con X M rt h Qr → ab_W X M (0, lv_args 0 as, [], h, 0, 0)) : ab_K l M rm rt as h Qr := by
  intro D ca B ad0
  refine MetFree.of_bodyS (code := M.2.2.1) (maxLocals := M.2.2.2.1) (ret := M.2.2.2.2.1) hy ?_ ?_
  · intro args s m hp hn
    obtain ⟨meth, c, h1, h2, h3, h4, h5, h6, -, -⟩ := ab_cw_spec (atoms_spec (ws := ab_cw M :: ab_G) hp _ List.mem_cons_self) hn
    exact ⟨meth, c, h1, h2, h3, h4, h5, h6⟩
  · intro p e s m args below meth c s₁ B9 hml hP _
    obtain ⟨rfl, hK, hPw, hDw, hBs, hTT⟩ := hP
    have hts : ∀ w ∈ ab_cw M :: ab_G, w.before ((as.map (ab_v ad0)).toArray) s = true := atoms_spec (ws := ab_cw M :: ab_G) B9.pre
    have hown : s.vm.findClass M.1 = some m.cls := by rw [hM1]; exact findClass_of_methodNamed B9.named
    have hh0 : s₁.heap = s.heap := by rw [B9.state]; rfl
    have X9 : Stand p l e rm s m ((as.map (ab_v ad0)).toArray) below meth c s₁ [] 0 0 := Stand.of_body B9
    obtain ⟨meth', c', h1, h2, -, -, -, -, h7, -⟩ := ab_cw_spec (hts _ List.mem_cons_self) B9.named
    cases B9.method.symm.trans h1
    cases X9.code.symm.trans h2
    have hisX : ab_is (p, l, e, rm, s, m, (as.map (ab_v ad0)).toArray, below, meth, c, D, ca, B, h.length, ad0, none, ab_Q below D ca B ad0 h Qr rm rt s) M :=
      ⟨B9.exec, B9.bytes, hml, hown, fun w hw => hts w (List.mem_cons_of_mem _ hw), B9.notSynchronized, fun hi => ((name_of_methodNamed B9.named B9.method).1).trans (hin hi), hr.1, hr.2⟩
    have hcon : ab_con (p, l, e, rm, s, m, (as.map (ab_v ad0)).toArray, below, meth, c, D, ca, B, h.length, ad0, none, ab_Q below D ca B ad0 h Qr rm rt s) M rt h Qr :=
      ⟨fun t ht => ht, rfl, hTT, hl, B9.returns, h7, rfl⟩
    have hw := body _ rfl rfl hisX hcon
    have hls := lv_entry (as.map (ab_v ad0)) (n := M.2.2.2.1) (by rw [ab_sl]; exact hlen)
    rw [ab_args] at hls
    obtain ⟨t, a1, o, b1, b2, b3⟩ := hw ad0 s.heap [] _ ⟨hK, hPw, hDw, va_S.rf, hBs, fun _ _ => rfl, Nat.le_refl _, fun n f z => by cases z⟩ hls s₁ hh0 X9
    refine ⟨t, o, ?_, b1, b2, b3⟩
    rw [lg_entry_eq]
    exact a1
section ABC
variable {p : Program} {l : Launch} {e : Env} {R : Room} {s : State} {m : MethodId} {args : Array Value} {below : List Frame} {meth : Method} {c : Code} {H : Heap} {locs : List Loc} {cells slots : Nat} {Q Q2 : State → Prop}
theorem ab_mono {g : JFrame} (h : ∀ t, Q t → Q2 t) (k : W p l e R s m args below meth c H locs cells slots Q g) : W p l e R s m args below meth c H locs cells slots Q2 g := fun T hT X => by
  obtain ⟨t, a1, b1⟩ := k T hT X
  exact ⟨t, a1, h t b1⟩
theorem ab_call0 {T : State} (X : Stand p l e R s m args below meth c T locs cells slots) {g : JFrame} (hg : g.method = m) (hsize : g.locals.size = c.maxLocals) {ig : Instr} {len : Nat} (hdg : decode c.code g.pc = .ok (ig, len)) {y : MethodName} {mk : MethodId} {a : Array Value} {S : Spec} {P : Array Value → State → Prop} {Q' : Array Value → State → Outcome → State → Prop}
    (hM : MetFree l y S P (fun _ _ _ _ _ => True) Q') (hn : T.methodNamed? y = some mk) {methY : Method} {cY : Code} (hmY : T.vm.method? mk = some methY) (hcY : methY.code = some cY) {kY : Class} (hkY : T.vm.classes[mk.cls]? = some kY) (hiY : kY.init = .initialized) (hpre : S.pre.before a T = true)
    (hfr : S.room.frames + 1 ≤ R.frames) (hlo : 2 * g.monitorRoom + (g.stack.map fun v => v.category).sum + (cY.maxLocals + 11) + S.room.locals ≤ R.locals) (hc : cells + S.room.cells ≤ R.cells) (hs : slots + S.room.slots ≤ R.slots) (hP : P a (T.calling g mk a)) :
    ∃ o t, Steps p.tables e below (doInvoke e (T.setTop g) [] mk a).1 t ∧ Ended t (.java g :: below) o ∧ Q' a (T.calling g mk a) o t := by
  subst hg
  have h : At T g.method c below := X.here
  have happ : S.appliesLoose y e.platform (T.calling g mk a) = true := Spec.appliesLoose_calling (g := g) h hdg hn hkY hiY (X.room_calling (g := g) (R' := S.room) hsize hmY hcY hfr hlo hc hs) hpre
  obtain ⟨mid, hmid⟩ := h.above
  have hfr' : (T.setTop g).frames = (.java g :: mid) ++ below := by rw [State.frames_setTop' g h.top, hmid]; rfl
  obtain ⟨o, s₂, h1, -, h2, h3⟩ := Steps.callFree hM p X.admits X.cas X.clock (acts := []) hfr' happ hP trivial
  rw [State.frames_setTop' g h.top, X.tail] at h2
  exact ⟨o, s₂, h1, h2, h3⟩
/-- in the throwing of q, over the frame g -/
def ab_TW (p : Program) (l : Launch) (e : Env) (R : Room) (s : State) (m : MethodId) (args : Array Value) (below : List Frame) (meth : Method) (c : Code) (H : Heap) (locs : List Loc) (cells slots : Nat) (Q : State → Prop) (g : JFrame) (q : Addr) : Prop :=
  ∀ T : State, T.heap = H → Stand p l e R s m args below meth c T locs cells slots → ∃ t, Steps p.tables e below ((T.setTop g).pushFrame (.throwing q)) t ∧ Q t
theorem ab_ran {M' : ab_M} {rm : Room} {rt : Nat × Nat} {P : Array Value → State → Prop} {G : State → Outcome → State → Prop} {B : Nat} {pc : Nat} {ls : Array Slot} {rest : List Value} {a : Array Value} {g0 : JFrame} {ig : Instr} (hts : ∀ w ∈ ab_G, w.before args s = true) (hcw : ab_cw M' ∈ ab_G) (hini : Cond.initialized M'.2.1.cls ∈ ab_G)
    (hM : MetFree l M'.2.1 (headSpec (ab_cw M' :: ab_G) rm) P (fun _ _ _ _ _ => True) (fun _ st o t => G st o t ∧ ∃ L : List Loc, st.WarmedH t.vm ∧ st.sameButNew ({ t with vm := st.vm } : State) L (ab_cs rm rt o).1 (ab_cs rm rt o).2 ∧ ∀ q ∈ L, B ≤ q.base))
    (hsize : ls.size = c.maxLocals) (hdg : decode c.code pc = .ok (ig, 3)) (hfr : rm.frames + 1 ≤ R.frames) (hlo : (rest.map fun v => v.category).sum + (M'.2.2.2.1 + 11) + rm.locals ≤ R.locals) (hc : cells + rm.cells ≤ R.cells) (hs : slots + rm.slots ≤ R.slots)
    (hbl : FrameBlind P) (hP : ∀ U : State, U.heap = H → s.WarmedH U.vm → P a U)
    (step : ∀ T : State, T.heap = H → Stand p l e R s m args below meth c T locs cells slots → ∃ (vm₁ : Vm) (mk : MethodId), Stand p l e R s m args below meth c (T.setVm vm₁) locs cells slots ∧ s.methodNamed? M'.2.1 = some mk ∧
      ∀ target, (∀ acts, Steps p.tables e below (doInvoke e ((T.setVm vm₁).setTop (F0 m pc ls rest)) acts mk a).1 target) → Steps p.tables e below (T.setTop g0) target)
    (kr : ∀ (v : Option Value) (st t : State) (L : List Loc), st.heap = H → G st (.returned v) t → s.WarmedH t.vm → (∀ q ∈ L, B ≤ q.base) → W p l e R s m args below meth c t.heap (locs ++ L) (cells + rt.1) (slots + rt.2) Q (F0 m (pc + 3) ls (v.toList ++ rest)))
    (kt : ∀ (q : Addr) (st t : State) (L : List Loc), st.heap = H → G st (.threw q) t → s.WarmedH t.vm → (∀ q ∈ L, B ≤ q.base) → ab_TW p l e R s m args below meth c t.heap (locs ++ L) (cells + rm.cells) (slots + rm.slots) Q (F0 m pc ls rest) q) :
    W p l e R s m args below meth c H locs cells slots Q g0 := by
  intro T hT X
  obtain ⟨vm₁, mk, X₁, hnamed, hstep⟩ := step T hT X
  have hgood : ∀ w ∈ ab_G, w.before a (T.setVm vm₁) = true := fun w hw => word_at X₁.warmed (good_of_word (List.mem_filter.mp hw).2) (hts w hw)
  obtain ⟨methY, cY, h1, h2, -, h4, -⟩ := ab_cw_spec (hgood _ hcw) (X₁.named hnamed)
  obtain ⟨kP, hkP, -⟩ := className_of_methodNamed (X₁.named hnamed)
  have hinitP : kP.init = .initialized := Cond.initialized_spec (findClass_of_methodNamed (X₁.named hnamed)) hkP (hgood _ hini)
  obtain ⟨o, t, a1, a2, a3, L, a4, a5, a6⟩ := ab_call0 X₁ (g := F0 m pc ls rest) rfl hsize hdg hM (X₁.named hnamed) h1 h2 hkP hinitP
    (atoms_intro fun w hw => by
      rcases List.mem_cons.mp hw with rfl | hw
      · exact hgood _ hcw
      · exact hgood w hw) hfr (by show 2 * 0 + (rest.map fun v => v.category).sum + (cY.maxLocals + 11) + rm.locals ≤ R.locals; rw [h4]; omega) hc hs (hbl _ _ _ _ (hP (T.setVm vm₁) hT X₁.warmed))
  cases o with
  | returned v =>
    obtain ⟨T', X', b1, b2, rfl⟩ := X₁.outOf (g := F0 m pc ls rest) rfl hdg a2 a4 a5
    obtain ⟨t2, c1, c2⟩ := kr v ((T.setVm vm₁).calling (F0 m pc ls rest) mk a) _ L hT a3 X'.warmed a6 T' rfl X'
    exact ⟨t2, (hstep _ fun acts => by rw [doInvoke_state]; exact a1).trans c1, c2⟩
  | threw q =>
    obtain ⟨T', X', b1, b2, rfl⟩ := X₁.outOfThrown (g := F0 m pc ls rest) rfl a2 a4 a5
    have hh : ((T'.setTop (F0 m pc ls rest)).pushFrame (.throwing q)).heap = T'.heap := Stand.throwing_heap T' _ q
    have hv : ((T'.setTop (F0 m pc ls rest)).pushFrame (.throwing q)).vm = T'.vm := Stand.throwing_vm T' _ q
    obtain ⟨t2, c1, c2⟩ := kt q ((T.setVm vm₁).calling (F0 m pc ls rest) mk a) _ L hT a3 (by rw [hv]; exact X'.warmed) a6 T' hh.symm X'
    exact ⟨t2, (hstep _ fun acts => by rw [doInvoke_state]; exact a1).trans c1, c2⟩
end ABC
