/-! RULES: calls, ends, throws, catches, over abstract heaps -/
/-- in the throwing of an E, over this frame -/
def ab_V (X : ab_X) (M : ab_M) (F : ab_F) (E : String) : Prop := match X with
  | (p, l, e, R, s, m, args, below, meth, c, D, ca, B, n0, ad0, sc, Q) => ∀ (ad : Nat → Nat) (H : Heap) (locs : List Loc) (ls : Array Slot) (q : Addr) (ce : Cell), ab_R D ca B n0 ad0 sc s ad F.2.2.2.1 H locs → lv_has ls M.2.2.2.1 (ab_l ad F.2.1) → H[q]? = some ce → ce.vm = .none → s.vm.findClass E = some ce.cls →
      ab_TW p l e R s m args below meth c H locs F.2.2.2.2.1 F.2.2.2.2.2 Q (F0 m F.1 ls (F.2.2.1.map (ab_v ad))) q
abbrev ab_B (X : ab_X) : Nat := X.2.2.2.2.2.2.2.2.2.2.2.2.1
abbrev ab_s (X : ab_X) : State := X.2.2.2.2.1
abbrev ab_rm (X : ab_X) : Room := X.2.2.2.1
theorem ab_blind {D : va_G} {ca : FieldType → ClassId} {B : Nat} {ad : Nat → Nat} {h : List ab_C} {as : List Value} : FrameBlind (fun a U => a = (as.map (ab_v ad)).toArray ∧ ab_U D ca B ad h U) := by
  intro a U g mk hq
  obtain ⟨h0, h1, h2, h3, h4, h5⟩ := hq
  exact ⟨h0, va_K.moved (u := U) (U := U.calling g mk a) (Vm.Alike.refl U.vm) h1, h2, h3, h4, ab_T_same h5 rfl rfl⟩
/-- what a callee leaves, seen from the caller -/
theorem ab_R_back {D : va_G} {ca : FieldType → ClassId} {B n0 : Nat} {ad0 ad ad' : Nat → Nat} {sc : ab_S} {s : State} {h h' : List ab_C} {H H' : Heap} {locs L : List Loc} (hR : ab_R D ca B n0 ad0 sc s ad h H locs)
    (h1 : va_P D ab_cl (ab_w ad' ca h') H') (h2 : va_D (fun q => B ≤ q) (ab_w ad' ca h')) (h3 : ∀ k, k ≤ h.length → ad' k = ad k) (h4 : h.length ≤ h'.length) (h5 : H.size ≤ H'.size) (h6 : ∀ q, q < B → H'[q]? = H[q]?) (h7 : ∀ q ∈ L, B ≤ q.base) : ab_R D ca B n0 ad0 sc s ad' h' H' (locs ++ L) := by
  obtain ⟨r1, r2, r3, r4, r5, r6, r7, r8⟩ := hR
  refine ⟨r1, h1, h2, ⟨Nat.le_trans r4.1 h5, fun q hq hn => ?_, fun z hz => ?_⟩, r5, fun k hk => by rw [h3 k (by omega)]; exact r6 k hk, by omega, fun n f hsc => ?_⟩
  · rw [h6 q (Nat.not_le.mp hn)]
    exact r4.2.1 q hq hn
  · rcases List.mem_append.mp hz with hz | hz
    · exact r4.2.2 z hz
    · exact h7 z hz
  · rw [h3 0 (Nat.zero_le _)]
    exact r8 n f hsc
/-- the call of M' from this place: its link, and how it is called -/
def ab_ci (M M' : ab_M) (ins : Instr) (as : List Value) (h : List ab_C) : Prop := match ins with
  | .invokestatic n => Cond.methodLink M.1 n M'.2.1 ∈ ab_G ∧ Cond.static M'.2.1 ∈ ab_G
  | .invokevirtual n => Cond.methodLink M.1 n M'.2.1 ∈ ab_G ∧ Cond.instanceMethod M'.2.1 ∈ ab_G ∧ Cond.selects M'.2.1.cls M'.2.1 M'.2.1 ∈ ab_G ∧ ∃ (a ci : Nat) (fs as' : List Value) (T : u_T) (N : Nat), as = .ref (a + 1) :: as' ∧ h[a]? = some (.inr (ci, fs)) ∧ ab_cl[ci]? = some (M'.2.1.cls, T, N)
  | .invokespecial n => (Cond.methodLink M.1 n M'.2.1 ∈ ab_G ∨ ∃ host : String, (M.1, n, M'.2.1, host) ∈ ab_nst) ∧ Cond.instanceMethod M'.2.1 ∈ ab_G ∧ M'.2.1.name = "<init>" ∧ M'.2.2.2.2.2.2.2 = [] ∧ M'.2.2.2.2.1 = none ∧ ∃ (a : Nat) (as' : List Value), as = .ref a :: as'
  | _ => False
/-- what is known of a callee: its words, its descriptor -/
def ab_cal (M' : ab_M) (n : Nat) : Prop := ab_cw M' ∈ ab_G ∧ Cond.initialized M'.2.1.cls ∈ ab_G ∧ (M'.2.1.cls ≠ "java/lang/invoke/MethodHandle" ∧ M'.2.1.cls ≠ "java/lang/invoke/VarHandle") ∧ (parseMethodDescriptor M'.2.1.desc).map (fun d => d.parameters.length) = some n
set_option maxHeartbeats 2000000 in
theorem ab_call {X : ab_X} {M M' : ab_M} (hX : ab_is X M) (hM : ab_Mok M) {pc : Nat} {L : ab_L} {st : List Value} {h : List ab_C} {kc ks : Nat} {rm : Room} {rt : Nat × Nat} {as rest : List Value} {Qr : ab_Y → Prop} {i : ab_I} {n : Nat} (hk : ab_K X.2.1 M' rm rt as h Qr) (hc : ab_cal M' n) (hi : ab_lk M.2.2.2.2.2.2.1 pc = some i) (hci : ab_ci M M' i.1 as h) (hst : st = as.reverse ++ rest)
    (hn : (match i.1 with | .invokestatic _ => as.length | _ => as.length - 1) = n) {n1 : Nat} (hn1 : n1 ≤ h.length) (hwf : (L.all (fun q => ab_wv n1 q.2) && rest.all (ab_wv n1)) = true) (hrm : rm.frames + 1 ≤ (ab_rm X).frames ∧ ab_wt rest + (M'.2.2.2.1 + 11) + rm.locals ≤ (ab_rm X).locals ∧ kc + rm.cells ≤ (ab_rm X).cells ∧ ks + rm.slots ≤ (ab_rm X).slots) (hT : ab_T (ab_B X) (ab_s X))
    (kr : ∀ (v : Option Value) (h' : List ab_C), Qr (.inl v, h') → ab_W X M (pc + 3, L, v.toList ++ rest, h', kc + rt.1, ks + rt.2)) (kt : ∀ (E : String) (h' : List ab_C), Qr (.inr E, h') → ab_V X M (pc, L, rest, h', kc + rm.cells, ks + rm.slots) E) : ab_W X M (pc, L, st, h, kc, ks) := by
  obtain ⟨p, l, e, R, s, m, args, below, meth, c, D, ca, B, n0, ad0, sc, Q⟩ := X
  obtain ⟨ins, len, x, y, pos, v9⟩ := i
  obtain ⟨hx, hb, hml, hown, hts, hlk, hini, hfr, hlo⟩ := hX
  have hchk := List.all_eq_true.mp hM _ (ab_lk_mem _ _ _ hi)
  unfold ab_chk at hchk
  have hd := of_decide_eq_true (ab_and hchk).1
  dsimp only [ab_rm, ab_B, ab_s] at hk hci hn hrm hT hd hb hml hown
  unfold ab_W
  dsimp only
  intro ad H locs ls hR hl
  obtain ⟨hK, hP, hD, hS, hBs, had, hn0, hsc⟩ := id hR
  obtain ⟨w1, w2⟩ := ab_and hwf
  obtain ⟨hcw, hcin, hnot, hdesc⟩ := hc
  subst hst
  have hBH : B ≤ H.size := Nat.le_trans hBs hS.1
  have hlow : ∀ q, q < B → H[q]? = s.heap[q]? := fun q hq => hS.2.1 q (Nat.lt_of_lt_of_le hq hBs) (Nat.not_le.mpr hq)
  have hPre : ∀ U : State, U.heap = H → s.WarmedH U.vm → (as.map (ab_v ad)).toArray = (as.map (ab_v ad)).toArray ∧ ab_U D ca B ad h U := fun U hU hW => ⟨rfl, va_K.moved hW.alike hK, by rw [hU]; exact hP, hD, by rw [hU]; exact hBH, ab_T_moved hT hW (fun q hq => by rw [hU]; exact hlow q hq)⟩
  have hrest : (((rest.map (ab_v ad)).map fun v => v.category).sum) + (M'.2.2.2.1 + 11) + rm.locals ≤ R.locals := by
    rw [ab_v_sum]
    exact hrm.2.1
  have hsz : ls.size = c.maxLocals := hl.1.trans hml.symm
  have hlenS : ∀ sig, parseMethodDescriptor M'.2.1.desc = some sig → n = sig.parameters.length := fun sig h9 => by
    rw [h9] at hdesc
    exact (Option.some.inj hdesc).symm
  have hd3 : decode c.code pc = .ok (ins, 3) ∧ ∀ T : State, T.heap = H → Stand p l e R s m args below meth c T locs kc ks → ∃ (vm₁ : Vm) (mk : MethodId), Stand p l e R s m args below meth c (T.setVm vm₁) locs kc ks ∧ s.methodNamed? M'.2.1 = some mk ∧
      ∀ target, (∀ acts, Steps p.tables e below (doInvoke e ((T.setVm vm₁).setTop (F0 m pc ls (rest.map (ab_v ad)))) acts mk (as.map (ab_v ad)).toArray).1 target) → Steps p.tables e below (T.setTop (F0 m pc ls ((as.reverse ++ rest).map (ab_v ad)))) target := by
    have hstk : (as.reverse ++ rest).map (ab_v ad) = (as.map (ab_v ad)).reverse ++ rest.map (ab_v ad) := by rw [List.map_append, List.map_reverse]
    rw [hstk]
    cases ins <;> try (exact absurd hci id)
    case invokestatic k =>
      obtain ⟨c1, c2⟩ := hci
      have hd' : decode c.code pc = .ok (.invokestatic k, 3) := by rw [hb]; exact hd
      refine ⟨hd', fun T hT0 Y => ?_⟩
      obtain ⟨mk, hnamed⟩ : ∃ mk, s.methodNamed? M'.2.1 = some mk := by
        have h9 := hts _ hcw
        unfold ab_cw at h9
        split at h9
        · exact Cond.code_named h9
        · obtain ⟨m9, -, -, hn9, -⟩ := Cond.codeWith_spec h9
          exact ⟨m9, hn9⟩
      obtain ⟨methM, cM, hmethM, -, -, -, -, -, -, hsigM⟩ := ab_cw_spec (hts _ hcw) hnamed
      have hstatic : methM.isStatic = true := Cond.static_spec hnamed hmethM (hts _ c2)
      obtain ⟨kP, hkP, -⟩ := className_of_methodNamed hnamed
      have hinitP : kP.init = .initialized := Cond.initialized_spec (findClass_of_methodNamed hnamed) hkP (hts _ hcin)
      obtain ⟨vm₁, X₁, hstep₁⟩ := Y.invokestatic hx hown (hts _ c1) hnamed hmethM hstatic hkP hinitP hnot (g := F0 m pc ls ((as.map (ab_v ad)).reverse ++ rest.map (ab_v ad))) rfl (argsL := as.map (ab_v ad)) (rest := rest.map (ab_v ad)) (by rw [List.length_map]; exact hn.trans (hlenS _ hsigM)) rfl hd'
      exact ⟨vm₁, mk, X₁, hnamed, hstep₁⟩
    case invokevirtual k =>
      obtain ⟨c1, c2, c3, a, ci, fs, as', T9, N9, e1, e2, e3⟩ := hci
      have hd' : decode c.code pc = .ok (.invokevirtual k, 3) := by rw [hb]; exact hd
      refine ⟨hd', fun T hT0 Y => ?_⟩
      subst e1
      obtain ⟨cellB, hcellB, hobj, hcls⟩ := va_recv (ci := ci) (q0 := a) hK hP e3 (ab_w_at e2)
      obtain ⟨mk, methM, hnamed, hmethM, hstM, habM⟩ := Cond.instanceMethod_spec (hts _ c2)
      obtain ⟨methM', cM, hmethM', -, -, -, -, -, -, hsigM⟩ := ab_cw_spec (hts _ hcw) hnamed
      cases hmethM.symm.trans hmethM'
      obtain ⟨c5, r2, m2, q1, q2, q3, q4, kP, hkP, hkPi⟩ := Cond.selects_spec (hts _ c3)
      cases hcls.symm.trans q1
      cases (State.methodFound?_of_named hnamed hnot).symm.trans q2
      cases hnamed.symm.trans q3
      have hselP : selectMethod e.platform s.vm cellB.cls mk = .method mk := by rw [Launch.admits_selectMethod Y.admits]; exact q4
      obtain ⟨vm₁, X₁, hstep₁⟩ := Y.invokevirtual hx hown (hts _ c1) hnamed hmethM hstM hkP hkPi hnot (a := ad (a + 1)) (cell := cellB) (by rw [hT0]; exact hcellB)
        (fun z h9 => by rw [h9] at hobj; cases hobj) hselP hmethM habM hkP hkPi (g := F0 m pc ls (((Value.ref (a + 1) :: as').map (ab_v ad)).reverse ++ rest.map (ab_v ad))) rfl (argsL := as'.map (ab_v ad)) (rest := rest.map (ab_v ad)) (by rw [List.length_map]; exact hn.trans (hlenS _ hsigM))
        (by show ((Value.ref (a + 1) :: as').map (ab_v ad)).reverse ++ rest.map (ab_v ad) = (as'.map (ab_v ad)).reverse ++ Value.ref (ad (a + 1)) :: rest.map (ab_v ad); rw [List.map_cons, List.reverse_cons, List.append_assoc]; rfl) hd'
      exact ⟨vm₁, mk, X₁, hnamed, hstep₁⟩
    case invokespecial k =>
      obtain ⟨c1, c2, c3, c4, c5, a, as', e1⟩ := hci
      have hd' : decode c.code pc = .ok (.invokespecial k, 3) := by rw [hb]; exact hd
      refine ⟨hd', fun T hT0 Y => ?_⟩
      subst e1
      have hpl : e.platform.magicAccessors = ({} : Platform).magicAccessors := by rw [Y.admits.platform]
      have hcode : (Cond.code M'.2.1 M'.2.2.1 M'.2.2.2.1 none).before args s = true := by
        have h9 := hts _ hcw
        unfold ab_cw at h9
        rw [c4, c5] at h9
        exact h9
      rcases c1 with c1 | ⟨host, c1⟩
      · obtain ⟨mk, methM, cM, kP, vm₁, hnamed, hmethM, hcodeM, -, hlocalsM, -, hkP, -, hW₁, hstep₁⟩ := Steps.initColdArgs (e := e) Y.here hx Y.warmed hpl hown c3 hnot (hts _ c1) (hts _ c2) hcode (f := F0 m pc ls (((Value.ref a :: as').map (ab_v ad)).reverse ++ rest.map (ab_v ad))) rfl (argsL := as'.map (ab_v ad)) (rest := rest.map (ab_v ad)) (a := ad a)
          (fun sig h9 => by rw [List.length_map]; exact hn.trans (hlenS _ h9))
          (by show ((Value.ref a :: as').map (ab_v ad)).reverse ++ rest.map (ab_v ad) = (as'.map (ab_v ad)).reverse ++ Value.ref (ad a) :: rest.map (ab_v ad); rw [List.map_cons, List.reverse_cons, List.append_assoc]; rfl) hd'
        exact ⟨vm₁, mk, Y.noted hW₁, hnamed, hstep₁⟩
      · obtain ⟨mk, methM, cM, kP, vm₁, hnamed, hmethM, hcodeM, -, hlocalsM, -, hkP, -, hW₁, hstep₁⟩ := Steps.initColdArgsNest (e := e) Y.here hx Y.warmed hpl hown c3 hnot (va_Nw.use rfl (hT.2.2.2.2.2.2 _ c1)) (hts _ c2) hcode (f := F0 m pc ls (((Value.ref a :: as').map (ab_v ad)).reverse ++ rest.map (ab_v ad))) rfl (argsL := as'.map (ab_v ad)) (rest := rest.map (ab_v ad)) (a := ad a)
          (fun sig h9 => by rw [List.length_map]; exact hn.trans (hlenS _ h9))
          (by show ((Value.ref a :: as').map (ab_v ad)).reverse ++ rest.map (ab_v ad) = (as'.map (ab_v ad)).reverse ++ Value.ref (ad a) :: rest.map (ab_v ad); rw [List.map_cons, List.reverse_cons, List.append_assoc]; rfl) hd'
        exact ⟨vm₁, mk, Y.noted hW₁, hnamed, hstep₁⟩
  refine ab_ran (M' := M') (rm := rm) (rt := rt) (B := B) (pc := pc) (ls := ls) (rest := rest.map (ab_v ad)) (a := (as.map (ab_v ad)).toArray) hts hcw hcin (hk D ca B ad) hsz hd3.1 hrm.1 hrest hrm.2.2.1 hrm.2.2.2 ab_blind hPre hd3.2 ?_ ?_
  · intro v st t L9 hst hG hW hL
    obtain ⟨⟨r, ad', g1, g2, g3, g4, g5, g6⟩, g7, g8⟩ := hG
    obtain ⟨o9, h'⟩ := r
    cases o9 with
    | inr E =>
      obtain ⟨q, ce, z, -⟩ := g2
      cases z
    | inl v' =>
      have hv : v = v'.map (ab_v ad') := by injection g2
      have k1 := kr v' h' g1 ad' t.heap (locs ++ L9) ls (ab_R_back hR g3 g4 g5 g6 (by rw [← hst]; exact g7) (fun q hq => by rw [g8 q hq, hst]) hL) (by rw [ab_l_eq w1 (fun k hk => g5 k (Nat.le_trans hk hn1))]; exact hl)
      dsimp only at k1
      rw [List.map_append, ab_s_eq w2 (fun k hk => g5 k (Nat.le_trans hk hn1))] at k1
      rw [hv]
      cases v' with
      | none => exact k1
      | some v1 => exact k1
  · intro q st t L9 hst hG hW hL
    obtain ⟨⟨r, ad', g1, g2, g3, g4, g5, g6⟩, g7, g8⟩ := hG
    obtain ⟨o9, h'⟩ := r
    cases o9 with
    | inl v' => exact absurd g2 (fun z => by injection z)
    | inr E =>
      obtain ⟨q', ce, z, g9, g10, g11⟩ := g2
      cases z
      have k1 := kt E h' g1 ad' t.heap (locs ++ L9) ls q ce (ab_R_back hR g3 g4 g5 g6 (by rw [← hst]; exact g7) (fun q hq => by rw [g8 q hq, hst]) hL) (by rw [ab_l_eq w1 (fun k hk => g5 k (Nat.le_trans hk hn1))]; exact hl) g9 g10 (by rw [← hW.alike.findClass]; exact g11)
      dsimp only at k1
      rw [ab_s_eq w2 (fun k hk => g5 k (Nat.le_trans hk hn1))] at k1
      exact k1
/-- the end of a contract's run -/
theorem ab_end {D : va_G} {ca : FieldType → ClassId} {B n0 : Nat} {ad0 ad : Nat → Nat} {sc : ab_S} {s t : State} {h0 h : List ab_C} {H : Heap} {locs : List Loc} {Qr : ab_Y → Prop} {r : ab_O} {o : Outcome} (hR : ab_R D ca B n0 ad0 sc s ad h H locs) (hn : n0 = h0.length) (hq : Qr (r, h)) (ho : ab_o ad r o t) (ht : t.heap = H) : ab_D D ca B ad0 h0 Qr s o t := by
  obtain ⟨hK, hP, hD, hS, hBs, had, hn0, hsc⟩ := hR
  subst hn
  refine ⟨⟨(r, h), ad, hq, ho, by rw [ht]; exact hP, hD, had, hn0⟩, by rw [ht]; exact hS.1, fun q hq => ?_⟩
  rw [ht]
  exact hS.2.1 q (Nat.lt_of_lt_of_le hq hBs) (Nat.not_le.mpr hq)
theorem ab_iret {X : ab_X} {M : ab_M} {rt : Nat × Nat} {h0 : List ab_C} {Qr : ab_Y → Prop} (hX : ab_is X M) (hM : ab_Mok M) (hC : ab_con X M rt h0 Qr) {pc : Nat} {L : ab_L} {v : Int32} {h : List ab_C} {kc ks : Nat} {i : ab_I} (hi : ab_lk M.2.2.2.2.2.2.1 pc = some i) (hii : i.1 = .ireturn) (hr : M.2.2.2.2.1 = some .int ∨ (M.2.2.2.2.1 = some .boolean ∧ (v = 0 ∨ v = 1)))
    (hk : kc ≤ rt.1 ∧ ks ≤ rt.2) (hq : Qr (.inl (some (.int v)), h)) : ab_W X M (pc, L, [.int v], h, kc, ks) := by
  obtain ⟨p, l, e, R, s, m, args, below, meth, c, D, ca, B, n0, ad0, sc, Q⟩ := X
  obtain ⟨ins, len, x, y, pos, v9⟩ := i
  obtain ⟨hx, hb, hml, hown, hts, hlk, hini, hfr, hlo⟩ := hX
  obtain ⟨c1, c2, c3, c4, c5, c6, c7⟩ := hC
  have hchk := List.all_eq_true.mp hM _ (ab_lk_mem _ _ _ hi)
  unfold ab_chk at hchk
  have hd := of_decide_eq_true (ab_and hchk).1
  dsimp only [ab_rm] at hii hd hb c5
  subst hii
  unfold ab_W
  dsimp only
  intro ad H locs ls hR hl
  refine W.widen hk.1 hk.2 (ab_mono (Q := MQ below (fun _ st o t => ab_D D ca B ad0 h0 Qr st o t) args s rt.1 rt.2 (fun q => B ≤ q)) (fun t ht => c1 t ?_) ?_)
  · obtain ⟨o, t1, t2, t3, L9, t4, t5⟩ := ht
    obtain ⟨v8, rfl⟩ := t4.1
    exact ⟨.returned v8, t1, t2, t3, L9, t4.2.1, t4.2.2, t5⟩
  · rcases hr with hr | ⟨hr, hv⟩
    · exact W.iret hx hb (c5.trans hr) (fun t ht hW => ab_end hR c2 hq rfl ht) hR.2.2.2.1.2.2 hd hlk
    · exact W.zret hx hb (c5.trans hr) (by rcases hv with rfl | rfl <;> rfl) (fun t ht hW => ab_end hR c2 hq rfl ht) hR.2.2.2.1.2.2 hd hlk
theorem ab_lret {X : ab_X} {M : ab_M} {rt : Nat × Nat} {h0 : List ab_C} {Qr : ab_Y → Prop} (hX : ab_is X M) (hM : ab_Mok M) (hC : ab_con X M rt h0 Qr) {pc : Nat} {L : ab_L} {v : Int64} {h : List ab_C} {kc ks : Nat} {i : ab_I} (hi : ab_lk M.2.2.2.2.2.2.1 pc = some i) (hii : i.1 = .lreturn) (hr : M.2.2.2.2.1 = some .long)
    (hk : kc ≤ rt.1 ∧ ks ≤ rt.2) (hq : Qr (.inl (some (.long v)), h)) : ab_W X M (pc, L, [.long v], h, kc, ks) := by
  obtain ⟨p, l, e, R, s, m, args, below, meth, c, D, ca, B, n0, ad0, sc, Q⟩ := X
  obtain ⟨ins, len, x, y, pos, v9⟩ := i
  obtain ⟨hx, hb, hml, hown, hts, hlk, hini, hfr, hlo⟩ := hX
  obtain ⟨c1, c2, c3, c4, c5, c6, c7⟩ := hC
  have hchk := List.all_eq_true.mp hM _ (ab_lk_mem _ _ _ hi)
  unfold ab_chk at hchk
  have hd := of_decide_eq_true (ab_and hchk).1
  dsimp only [ab_rm] at hii hd hb c5
  subst hii
  unfold ab_W
  dsimp only
  intro ad H locs ls hR hl
  refine W.widen hk.1 hk.2 (ab_mono (Q := MQ below (fun _ st o t => ab_D D ca B ad0 h0 Qr st o t) args s rt.1 rt.2 (fun q => B ≤ q)) (fun t ht => c1 t ?_) ?_)
  · obtain ⟨o, t1, t2, t3, L9, t4, t5⟩ := ht
    obtain ⟨v8, rfl⟩ := t4.1
    exact ⟨.returned v8, t1, t2, t3, L9, t4.2.1, t4.2.2, t5⟩
  · exact W.lret hx hb (c5.trans hr) (fun t ht hW => ab_end hR c2 hq rfl ht) hR.2.2.2.1.2.2 hd hlk
theorem ab_vret {X : ab_X} {M : ab_M} {rt : Nat × Nat} {h0 : List ab_C} {Qr : ab_Y → Prop} (hX : ab_is X M) (hM : ab_Mok M) (hC : ab_con X M rt h0 Qr) {pc : Nat} {L : ab_L} {h : List ab_C} {kc ks : Nat} {i : ab_I} (hi : ab_lk M.2.2.2.2.2.2.1 pc = some i) (hii : i.1 = .return_) (hr : M.2.2.2.2.1 = none)
    (hk : kc ≤ rt.1 ∧ ks ≤ rt.2) (hq : Qr (.inl none, h)) : ab_W X M (pc, L, [], h, kc, ks) := by
  obtain ⟨p, l, e, R, s, m, args, below, meth, c, D, ca, B, n0, ad0, sc, Q⟩ := X
  obtain ⟨ins, len, x, y, pos, v9⟩ := i
  obtain ⟨hx, hb, hml, hown, hts, hlk, hini, hfr, hlo⟩ := hX
  obtain ⟨c1, c2, c3, c4, c5, c6, c7⟩ := hC
  have hchk := List.all_eq_true.mp hM _ (ab_lk_mem _ _ _ hi)
  unfold ab_chk at hchk
  have hd := of_decide_eq_true (ab_and hchk).1
  dsimp only [ab_rm] at hii hd hb c5
  subst hii
  unfold ab_W
  dsimp only
  intro ad H locs ls hR hl
  refine W.widen hk.1 hk.2 (ab_mono (Q := MQ below (fun _ st o t => ab_D D ca B ad0 h0 Qr st o t) args s rt.1 rt.2 (fun q => B ≤ q)) (fun t ht => c1 t ?_) ?_)
  · obtain ⟨o, t1, t2, t3, L9, t4, t5⟩ := ht
    obtain ⟨v8, rfl⟩ := t4.1
    exact ⟨.returned v8, t1, t2, t3, L9, t4.2.1, t4.2.2, t5⟩
  · exact W.vret hx hb (c5.trans hr) (fun t ht hW => ab_end hR c2 hq rfl ht) hR.2.2.2.1.2.2 hd hlk
/-- not caught here: it goes out -/
theorem ab_out {X : ab_X} {M : ab_M} {rt : Nat × Nat} {h0 : List ab_C} {Qr : ab_Y → Prop} (hX : ab_is X M) (hC : ab_con X M rt h0 Qr) {pc : Nat} {L : ab_L} {st : List Value} {h : List ab_C} {kc ks : Nat} {E : String} (hh : M.2.2.2.2.2.2.2 = []) (hk : kc ≤ (ab_rm X).cells ∧ ks ≤ (ab_rm X).slots) (hq : Qr (.inr E, h)) : ab_V X M (pc, L, st, h, kc, ks) E := by
  obtain ⟨p, l, e, R, s, m, args, below, meth, c, D, ca, B, n0, ad0, sc, Q⟩ := X
  obtain ⟨hx, hb, hml, hown, hts, hlk, hini, hfr, hlo⟩ := hX
  obtain ⟨c1, c2, c3, c4, c5, c6, c7⟩ := hC
  unfold ab_V
  dsimp only [ab_rm] at hk ⊢
  intro ad H locs ls q ce hR hl hce hvm hE T hT Y
  have hnone : c.exceptionTable.toList = [] := by
    rw [hh] at c6
    exact List.map_eq_nil_iff.mp c6
  obtain ⟨st1, hrun, hend, hW, hsm⟩ := Y.leaveThrown q (g := F0 m pc ls (st.map (ab_v ad))) rfl rfl rfl (fun z hz => by rw [hnone] at hz; cases hz) hlk
  refine ⟨_, st1, c1 _ ⟨.threw q, hrun, hend, ab_end hR c2 hq ⟨q, ce, rfl, ?_, hvm, ?_⟩ hT, locs, hW, hsm.mono hk.1 hk.2, hR.2.2.2.1.2.2⟩⟩
  · show T.heap[q]? = some ce
    rw [hT]; exact hce
  · rw [hW.alike.findClass]; exact hE
