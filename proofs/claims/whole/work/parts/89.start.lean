/-! THE CLAIM OUT OF ONE WALK OF THE LAW'S BODY. Your part is whole_start (and what it stands on); all else here is the same for every law, but numbers. -/
def R_law : String := "FacetSearchLaw"
def lw_P (b : Addr) (xs : List Int32) (args : Array Value) (s : State) : Prop := args = #[.ref b] ∧ s.IntsAt b xs ∧ xs.length ≤ 3072 ∧ (Jvm.Cond.and given_1 narrow_1).before args s = true
def lw_Q (_ : Array Value) (s : State) (o : Outcome) (t : State) : Prop := o = .returned (some (.int 1)) ∧ Framed s o t [] 1094 15387
def lw_Z (below : List Frame) (a : Array Value) (s : State) : State → Prop := fun t => ∃ o, t.status = .running ∧ Ended t below o ∧ lw_Q a s o t
/-- the law's own end, with 1 on the stack, nothing written that was there before, its room as the claim has it -/
theorem lw_ret {p : Program} {l : Launch} {e : Env} {s : State} {m : MethodId} {below : List Frame} {meth : Method} {c : Code} {b : Nat} (hx : p.tables.exec = Jvm.exec) (hb : c.code = code) (hr : meth.sig.returnType = ret) (hlocks : meth.locks = false) {pc : Nat} {H : Heap} {ls : Array Slot} (hdg : decode code pc = .ok (.ireturn, 1)) : W p l e room_1 s m #[Value.ref b] below meth c H [] 1094 15387 (lw_Z below #[Value.ref b] s) (F0 m pc ls [.int 1]) := by
  intro T hT X
  obtain ⟨fs, hret, hrun, hended, hW, hframe⟩ := X.leave (v := some (.int 1)) (hlocks := hlocks) (fun h => by rw [hr] at h; cases h)
  have hmeth' : T.vm.method? m = some meth := X.method'
  refine ⟨T.setFrames fs, ?_, .returned (some (.int 1)), hrun, hended, rfl, ⟨_, rfl⟩, hW, hframe⟩
  jvm_step X.here [X.here.top, hx, hb, hdg, hmeth', hr, ret, narrow_b1]
  (try refine ⟨rfl, ?_⟩); (try refine ⟨rfl, ?_⟩)
  first | (intro acts; rw [hret _ acts rfl rfl rfl]) | rw [hret _ _ rfl rfl rfl]
  exact Steps.refl _
/-- what holds at the law's entry: the machine, the code, the tables' words (any of lw_tbl by 'hts w (by decide +kernel)'), the script of L ints xs at the cell b, what the Statement gives of the start (any of its parts by flat_of_before) -/
def lw_At (p : Program) (s : State) (m : MethodId) (meth : Method) (c : Code) (b L : Nat) (xs : Nat → Int32) : Prop :=
  p.tables.exec = Jvm.exec ∧ c.code = code ∧ meth.sig.returnType = ret ∧ c.maxLocals = 7 ∧ s.vm.findClass R_law = some m.cls ∧ (∀ w ∈ lw_tbl, w.before #[Value.ref b] s = true) ∧ va_X b L xs s s.heap ∧ b < s.heap.size ∧ meth.locks = false ∧ (Jvm.Cond.and given_1 narrow_1).before #[Value.ref b] s = true
/-! the start (gen/mks.py) -/
theorem st_ref {own tx : String} {k : Nat} {args : Array Value} {s : State} (h1 : (Cond.stringRef own k tx).before args s = true) (h2 : (Cond.exactly (.string own k) "java/lang/String").before args s = true) : ∃ a, vk_R own k tx a s := by
  obtain ⟨a, c, cell, kk, e1, -⟩ := Cond.exactly_spec (o := none) (idx := []) (first := s) h2
  exact ⟨a, vk_R.of h1 e1⟩
theorem st_G {args : Array Value} {s : State} (hts : ∀ w ∈ lw_tbl, w.before args s = true) : ∀ w ∈ ab_G, w.before args s = true := fun w hw => hts w (List.mem_filter.mp hw).1
theorem st_inst : ∀ (ci : Nat) (C : String) (T : u_T) (N : Nat), ab_cl[ci]? = some (C, T, N) → Cond.instantiable C N ∈ lw_tbl := fun ci C T N h => match ci, h with
  | 0, h => by
    have h9 : (R_Fs, F_Fs, 7) = (C, T, N) := Option.some.inj h
    cases h9
    exact List.mem_of_getElem? (i := 56) (by decide +kernel)
  | 1, h => by
    have h9 : (R_Pa, F_Pa, 2) = (C, T, N) := Option.some.inj h
    cases h9
    exact List.mem_of_getElem? (i := 64) (by decide +kernel)
  | 2, h => by
    have h9 : (R_Qu, F_Qu, 7) = (C, T, N) := Option.some.inj h
    cases h9
    exact List.mem_of_getElem? (i := 154) (by decide +kernel)
  | 3, h => by
    have h9 : (R_Ra, F_Ra, 3) = (C, T, N) := Option.some.inj h
    cases h9
    exact List.mem_of_getElem? (i := 193) (by decide +kernel)
  | 4, h => by
    have h9 : (R_Ru, F_Ru, 3) = (C, T, N) := Option.some.inj h
    cases h9
    exact List.mem_of_getElem? (i := 138) (by decide +kernel)
  | 5, h => by
    have h9 : (R_Sh, F_Sh, 9) = (C, T, N) := Option.some.inj h
    cases h9
    exact List.mem_of_getElem? (i := 80) (by decide +kernel)
  | 6, h => by
    have h9 : (R_To, F_To, 4) = (C, T, N) := Option.some.inj h
    cases h9
    exact List.mem_of_getElem? (i := 187) (by decide +kernel)
  | 7, h => by
    have h9 : (R_Tr, F_Tr, 1) = (C, T, N) := Option.some.inj h
    cases h9
    exact List.mem_of_getElem? (i := 126) (by decide +kernel)
  | 8, h => by
    have h9 : (R_Mo, F_Mo, 28) = (C, T, N) := Option.some.inj h
    cases h9
    exact List.mem_of_getElem? (i := 664) (by decide +kernel)
  | k + 9, h => absurd h (by simp [ab_cl])
theorem st_K {args : Array Value} {s : State} (hts : ∀ w ∈ lw_tbl, w.before args s = true) : ∃ (D : va_G) (ca : FieldType → ClassId), va_K D ab_cl (ab_tys ca) s := by
  have hc : ∀ ci : Nat, ∃ x : ClassId × (Nat → Nat), ∀ q, ab_cl[ci]? = some q → u_Kn s q.1 q.2.1 q.2.2 x.1 x.2 := by
    intro ci
    cases h : ab_cl[ci]? with
    | none => exact ⟨(0, fun _ => 0), fun q hq => by cases hq⟩
    | some q =>
      obtain ⟨C, T, N⟩ := q
      obtain ⟨cC, iS, hk⟩ := u_known (ws := lw_tbl) (T := T) (N := N) hts (fun w hw => (List.mem_filter.mp ((ab_cl_ok ci C T N h).1 w hw)).1) (hts _ (st_inst ci C T N h))
      exact ⟨(cC, iS), fun q hq => by cases hq; exact hk⟩
  obtain ⟨c1, k1, m1, f1, f2, f3⟩ := Cond.arrayClass_spec (o := none) (idx := []) (first := s) (hts (.arrayClass .int) (List.mem_of_getElem? (i := 78) (by decide +kernel)))
  obtain ⟨c2, k2, m2, g1, g2, g3⟩ := Cond.arrayClass_spec (o := none) (idx := []) (first := s) (hts (.arrayClass .long) (List.mem_of_getElem? (i := 124) (by decide +kernel)))
  obtain ⟨c3, k3, m3, i1, i2, i3⟩ := Cond.arrayClass_spec (o := none) (idx := []) (first := s) (hts (.arrayClass .boolean) (List.mem_of_getElem? (i := 754) (by decide +kernel)))
  refine ⟨(fun ci => (hc ci).choose.1, fun ci => (hc ci).choose.2), fun t => match t with | .int => c1 | .long => c2 | _ => c3, fun ci q hq => (hc ci).choose_spec q hq, fun k q hk => ?_⟩
  match k, hk with
  | 0, hk => cases hk; exact ⟨fun n z => ⟨fun k h => (by cases h), k1, f2, m1, f3⟩, f1⟩
  | 1, hk => cases hk; exact ⟨fun n z => ⟨fun k h => (by cases h), k2, g2, m2, g3⟩, g1⟩
  | 2, hk => cases hk; exact ⟨fun n z => ⟨fun k h => (by cases h), k3, i2, m3, i3⟩, i1⟩
  | k + 3, hk => cases hk
theorem st_T {args : Array Value} {s : State} (hts : ∀ w ∈ lw_tbl, w.before args s = true) (hg : (Jvm.Cond.and given_1 narrow_1).before args s = true) : ab_T s.heap.size s := by
  have hn := flat_of_before _ hg
  have z_UNASSIGNED_STACK := vx_Zqof (A := fun q => s.heap.size ≤ q) (hts (.laysStatic "java/lang/Throwable" "UNASSIGNED_STACK" "[Ljava/lang/StackTraceElement;") (List.mem_of_getElem? (i := 297) (by decide +kernel))) (hts (.initialized "java/lang/Throwable") (List.mem_of_getElem? (i := 47) (by decide +kernel))) (hn (.isRef (.static "java/lang/Throwable" "UNASSIGNED_STACK" "[Ljava/lang/StackTraceElement;")) (by decide +kernel)) (fun a ha => Nat.not_le.mpr ha)
  have z_SUPPRESSED_SENTINEL := vx_Zqof (A := fun q => s.heap.size ≤ q) (hts (.laysStatic "java/lang/Throwable" "SUPPRESSED_SENTINEL" "Ljava/util/List;") (List.mem_of_getElem? (i := 299) (by decide +kernel))) (hts (.initialized "java/lang/Throwable") (List.mem_of_getElem? (i := 47) (by decide +kernel))) (hn (.isRef (.static "java/lang/Throwable" "SUPPRESSED_SENTINEL" "Ljava/util/List;")) (by decide +kernel)) (fun a ha => Nat.not_le.mpr ha)
  refine ⟨z_UNASSIGNED_STACK, z_SUPPRESSED_SENTINEL, fun E hE => ?_, fun q hq => ?_, fun r hr => ?_, fun x hx => ?_, fun q hq => ?_⟩
  · simp only [ab_exn, List.mem_cons, List.not_mem_nil, or_false] at hE
    rcases hE with rfl | rfl | rfl
    · exact va_tabs rfl rfl (hts (.castable "java/lang/IllegalArgumentException" "java/lang/IllegalArgumentException") (List.mem_of_getElem? (i := 272) (by decide +kernel)))
    · exact va_tabs rfl rfl (hts (.castable "java/lang/IllegalStateException" "java/lang/IllegalStateException") (List.mem_of_getElem? (i := 343) (by decide +kernel)))
    · exact va_tabs rfl rfl (hts (.castable "java/util/NoSuchElementException" "java/util/NoSuchElementException") (List.mem_of_getElem? (i := 383) (by decide +kernel)))
  · simp only [ab_nc, List.mem_cons, List.not_mem_nil, or_false] at hq
    rcases hq with rfl | rfl | rfl | rfl | rfl | rfl
    · exact va_Nc.of (hn (.not (.castable "java/lang/IllegalArgumentException" "java/lang/IllegalStateException")) (by decide +kernel))
    · exact va_Nc.of (hn (.not (.castable "java/lang/IllegalArgumentException" "java/util/NoSuchElementException")) (by decide +kernel))
    · exact va_Nc.of (hn (.not (.castable "java/lang/IllegalStateException" "java/lang/IllegalArgumentException")) (by decide +kernel))
    · exact va_Nc.of (hn (.not (.castable "java/lang/IllegalStateException" "java/util/NoSuchElementException")) (by decide +kernel))
    · exact va_Nc.of (hn (.not (.castable "java/util/NoSuchElementException" "java/lang/IllegalArgumentException")) (by decide +kernel))
    · exact va_Nc.of (hn (.not (.castable "java/util/NoSuchElementException" "java/lang/IllegalStateException")) (by decide +kernel))
  · simp only [ab_str, List.mem_cons, List.not_mem_nil, or_false] at hr
    rcases hr with rfl | rfl | rfl | rfl | rfl | rfl | rfl | rfl | rfl | rfl | rfl | rfl | rfl | rfl | rfl | rfl | rfl
    · exact st_ref (hts (.stringRef "FacetSearch" 66 "a sign is above 127") (List.mem_of_getElem? (i := 311) (by decide +kernel))) (hn (.exactly (.string "FacetSearch" 66) "java/lang/String") (by decide +kernel))
    · exact st_ref (hts (.stringRef "FacetSearch" 81 "the pad would have more than 60 signs") (List.mem_of_getElem? (i := 350) (by decide +kernel))) (hn (.exactly (.string "FacetSearch" 81) "java/lang/String") (by decide +kernel))
    · exact st_ref (hts (.stringRef "FacetSearch" 91 "there are 32 records") (List.mem_of_getElem? (i := 368) (by decide +kernel))) (hn (.exactly (.string "FacetSearch" 91) "java/lang/String") (by decide +kernel))
    · exact st_ref (hts (.stringRef "FacetSearch" 106 "the pad is no word") (List.mem_of_getElem? (i := 414) (by decide +kernel))) (hn (.exactly (.string "FacetSearch" 106) "java/lang/String") (by decide +kernel))
    · exact st_ref (hts (.stringRef "FacetSearch" 116 "the record has twelve other words") (List.mem_of_getElem? (i := 423) (by decide +kernel))) (hn (.exactly (.string "FacetSearch" 116) "java/lang/String") (by decide +kernel))
    · exact st_ref (hts (.stringRef "FacetSearch" 145 "no span of years within 0 .. 9999") (List.mem_of_getElem? (i := 477) (by decide +kernel))) (hn (.exactly (.string "FacetSearch" 145) "java/lang/String") (by decide +kernel))
    · exact st_ref (hts (.stringRef "FacetSearch" 189 "a hit tells 0, its record, and 1, its score") (List.mem_of_getElem? (i := 607) (by decide +kernel))) (hn (.exactly (.string "FacetSearch" 189) "java/lang/String") (by decide +kernel))
    · exact st_ref (hts (.stringRef "FacetSearch" 195 "no such term") (List.mem_of_getElem? (i := 615) (by decide +kernel))) (hn (.exactly (.string "FacetSearch" 195) "java/lang/String") (by decide +kernel))
    · exact st_ref (hts (.stringRef "FacetSearch" 211 "k is below 0") (List.mem_of_getElem? (i := 637) (by decide +kernel))) (hn (.exactly (.string "FacetSearch" 211) "java/lang/String") (by decide +kernel))
    · exact st_ref (hts (.stringRef "FacetSearch" 220 "no such word") (List.mem_of_getElem? (i := 650) (by decide +kernel))) (hn (.exactly (.string "FacetSearch" 220) "java/lang/String") (by decide +kernel))
    · exact st_ref (hts (.stringRef "FacetSearch" 222 "no such sign") (List.mem_of_getElem? (i := 651) (by decide +kernel))) (hn (.exactly (.string "FacetSearch" 222) "java/lang/String") (by decide +kernel))
    · exact st_ref (hts (.stringRef "FacetSearch" 234 "nothing that is counted") (List.mem_of_getElem? (i := 662) (by decide +kernel))) (hn (.exactly (.string "FacetSearch" 234) "java/lang/String") (by decide +kernel))
    · exact st_ref (hts (.stringRef "FacetSearch" 236 "no such record") (List.mem_of_getElem? (i := 390) (by decide +kernel))) (hn (.exactly (.string "FacetSearch" 236) "java/lang/String") (by decide +kernel))
    · exact st_ref (hts (.stringRef "FacetSearch" 238 "no such hit") (List.mem_of_getElem? (i := 606) (by decide +kernel))) (hn (.exactly (.string "FacetSearch" 238) "java/lang/String") (by decide +kernel))
    · exact st_ref (hts (.stringRef "FacetSearch" 240 "no such facet") (List.mem_of_getElem? (i := 443) (by decide +kernel))) (hn (.exactly (.string "FacetSearch" 240) "java/lang/String") (by decide +kernel))
    · exact st_ref (hts (.stringRef "FacetSearch" 242 "no such value") (List.mem_of_getElem? (i := 450) (by decide +kernel))) (hn (.exactly (.string "FacetSearch" 242) "java/lang/String") (by decide +kernel))
    · exact st_ref (hts (.stringRef "FacetSearch" 244 "no such role") (List.mem_of_getElem? (i := 488) (by decide +kernel))) (hn (.exactly (.string "FacetSearch" 244) "java/lang/String") (by decide +kernel))
  · simp only [ab_dcl, List.mem_cons, List.not_mem_nil, or_false] at hx
    rcases hx with rfl | rfl | rfl
    · exact va_tabs rfl rfl (hts (.declares ⟨"java/lang/RuntimeException", "<init>", "(Ljava/lang/String;)V"⟩) (List.mem_of_getElem? (i := 274) (by decide +kernel)))
    · exact va_tabs rfl rfl (hts (.declares ⟨"java/lang/Exception", "<init>", "(Ljava/lang/String;)V"⟩) (List.mem_of_getElem? (i := 276) (by decide +kernel)))
    · exact va_tabs rfl rfl (hts (.declares ⟨"java/lang/Throwable", "<init>", "(Ljava/lang/String;)V"⟩) (List.mem_of_getElem? (i := 278) (by decide +kernel)))
  · simp only [ab_nst, List.mem_cons, List.not_mem_nil, or_false] at hq
    rcases hq with rfl | rfl | rfl | rfl | rfl
    · exact va_tabs rfl rfl (hts (.methodLinkNest "FacetSearch" 9 ⟨"FacetSearch$Pad", "<init>", "()V"⟩ "FacetSearch") (List.mem_of_getElem? (i := 65) (by decide +kernel)))
    · exact va_tabs rfl rfl (hts (.methodLinkNest "FacetSearch" 32 ⟨"FacetSearch$Ruler", "<init>", "()V"⟩ "FacetSearch") (List.mem_of_getElem? (i := 139) (by decide +kernel)))
    · exact va_tabs rfl rfl (hts (.methodLinkNest "FacetSearch" 48 ⟨"FacetSearch$Told", "<init>", "()V"⟩ "FacetSearch") (List.mem_of_getElem? (i := 188) (by decide +kernel)))
    · exact va_tabs rfl rfl (hts (.methodLinkNest "FacetSearch$Told" 11 ⟨"FacetSearch$Ranking", "<init>", "()V"⟩ "FacetSearch") (List.mem_of_getElem? (i := 194) (by decide +kernel)))
    · exact va_tabs rfl rfl (hts (.methodLinkNest "FacetSearch" 55 ⟨"FacetSearch$Ranking", "<init>", "()V"⟩ "FacetSearch") (List.mem_of_getElem? (i := 230) (by decide +kernel)))
theorem t_La_law_s1 {X : ab_X} (hX : ab_is X M_La_law) (hc : 1 ≤ ab_Rc X) (hs : 7 ≤ ab_Rs X) (k : ab_W X M_La_law (4, [(0, .ref 0)], [.ref 1, .ref 1], [.inr (0, [.null, .null, .null, .null, .null, .null, .null])], 1, 7)) : ab_W X M_La_law (0, [(0, .ref 0)], [], [], 0, 0) := ab_go hX ok_La_law 2 [] _ _ rfl (ab_a1 (⟨rfl, Nat.le_trans (by decide) hc, Nat.le_trans (by decide) hs⟩)) k
theorem t_La_law_s2 {X : ab_X} (hX : ab_is X M_La_law) {pd : gt_pd} {sh : gt_sh} {tr : gt_tr} {ru : gt_ru} {qu : gt_qu} {to : gt_to} {al : gt_al} (hc : 31 ≤ ab_Rc X) (hs : 1342 ≤ ab_Rs X) (k : ab_W X M_La_law (12, [(0, .ref 0), (1, .ref 1)], [.ref 31, .ref 31], hf pd sh tr ru qu to al [.inr (8, [.int 0, .int 0, .null, .int 0, .null, .null, .null, .null, .null, .null, .null, .null, .int 0, .null, .null, .null, .null, .int 0, .int 0, .int 0, .null, .null, .null, .null, .null, .null, .null, .null])], 31, 1342)) : ab_W X M_La_law (7, [(0, .ref 0)], [.ref 1], hf pd sh tr ru qu to al [], 30, 1314) := ab_go hX ok_La_law 3 [] _ _ rfl (ab_a1 (⟨rfl, Nat.le_trans (by decide) hc, Nat.le_trans (by decide) hs⟩)) k
theorem t_La_law_s3 {X : ab_X} (hX : ab_is X M_La_law) {pd : gt_pd} {sh : gt_sh} {tr : gt_tr} {ru : gt_ru} {qu : gt_qu} {to : gt_to} {al : gt_al} {mt : gt_mt} {mp : gt_mp} {mr : gt_mr} {mq : gt_mq} {mo : gt_mo} {mx : gt_mx} (hc : 53 ≤ ab_Rc X) (hs : 7093 ≤ ab_Rs X) (k : ab_W X M_La_law (23, [(0, .ref 0), (1, .ref 1), (2, .ref 31), (3, .ref 53), (4, .int 0)], [], hf pd sh tr ru qu to al (hm mt mp mr mq mo mx (ho (fun _ => 0))), 53, 7093)) : ab_W X M_La_law (15, [(0, .ref 0), (1, .ref 1)], [.ref 31], hf pd sh tr ru qu to al (hm mt mp mr mq mo mx []), 52, 7092) := ab_go hX ok_La_law 6 [] _ _ rfl (ab_a1 (⟨rfl, by decide, by decide, Nat.le_trans (by decide) hc, Nat.le_trans (by decide) hs⟩)) k
def jInit (Jn : stF → stM → Prop) : Prop := ∀ sv fy ro tp nv np nf : Nat → Int32, (∀ j, j < 128 → sv j = -1) → (∀ j, j < 32 → fy j = -1) → (∀ j, j < 32 → ro j = 255) → (∀ j, j < 64 → tp j = -1) → (∀ j, j < 128 → nv j = -1) → (∀ j, j < 64 → np j = -1) → (∀ j, j < 32 → nf j = -1) → Jn ((((fun _ => 0), 0), ((fun _ => 0), (fun _ => 0), sv, fy, (fun _ => 0), ro, 0, 0, 0), tp, ((fun _ => 0), (fun _ => 0), (fun _ => 0)), ((fun _ => 0), (fun _ => 0), (fun _ => 0), (fun _ => 0), 0, 0), ((fun _ => 0), (fun _ => 0), 0, (fun _ => 0), (fun _ => 0), 0), ((fun _ => 0), (fun _ => 0), 0)) : stF) ((0, ((fun _ => 0), 0), (0, (fun _ => 0), (fun _ => 0), (fun _ => 0), nv, np, nf, (fun _ => 0), (fun _ => 0)), (0, (fun _ => 0), (fun _ => 0), (fun _ => 0), (fun _ => 0), 0), (0, 0, (fun _ => 0), (fun _ => 0), (fun _ => 0), (fun _ => 0), (fun _ => 0), (fun _ => 0)), ((fun _ => 0), (fun _ => 0))) : stM)
set_option maxHeartbeats 4000000 in
theorem ws_open {p : Program} {e : Env} {s : State} {m : MethodId} {below : List Frame} {meth : Method} {c : Code} (l : Launch) (hl : l.stackTraces = false) {b L : Nat} {xs : Nat → Int32} (hL : L ≤ 3072) (C0 : lw_At p s m meth c b L xs) {Jn : stF → stM → Prop} (hJ0 : jInit Jn)
    (j_feed : ∀ (a1 a2 a3 a4 a5 : Int32) c d, Jn c d → jL (l) Jn 0 M_Fs_feed M_Mo_feed [.int a1, .int a2, .int a3, .int a4, .int a5] [x_ia, x_is] c d)
    (j_clear : ∀ c d, Jn c d → jL (l) Jn 0 M_Fs_clear M_Mo_clear [] [] c d)
    (j_record : ∀ c d, Jn c d → jL (l) Jn 0 M_Fs_record M_Mo_record [] [x_is] c d)
    (j_word : ∀ (a1 : Int32) c d, Jn c d → jL (l) Jn 0 M_Fs_word M_Mo_word [.int a1] [x_ns, x_ia, x_is] c d)
    (j_facet : ∀ (a1 a2 a3 : Int32) c d, Jn c d → jL (l) Jn 0 M_Fs_facet M_Mo_facet [.int a1, .int a2, .int a3] [x_ns] c d)
    (j_parent : ∀ (a1 a2 a3 : Int32) c d, Jn c d → jL (l) Jn 1 M_Fs_parent M_Mo_parent [.int a1, .int a2, .int a3] [x_ns] c d)
    (j_span : ∀ (a1 a2 a3 : Int32) c d, Jn c d → jL (l) Jn 2 M_Fs_span M_Mo_span [.int a1, .int a2, .int a3] [x_ns, x_ia] c d)
    (j_right : ∀ (a1 a2 w : Int32) c d, Jn c d → w = 0 ∨ w = 1 → jL (l) Jn 1 M_Fs_right M_Mo_right [.int a1, .int a2, .int w] [x_ns] c d)
    (j_ask : ∀ (a1 : Int32) c d, Jn c d → jL (l) Jn 0 M_Fs_ask M_Mo_ask [.int a1] [x_ns] c d)
    (j_hit : ∀ (a1 a2 : Int32) c d, Jn c d → jL (l) Jn 0 M_Fs_hit M_Mo_hit [.int a1, .int a2] [x_ns] c d)
    (j_score : ∀ (a1 a2 : Int32) c d, Jn c d → jL (l) Jn 0 M_Fs_score M_Mo_score [.int a1, .int a2] [x_ns] c d)
    (j_counted : ∀ (a1 a2 : Int32) c d, Jn c d → jL (l) Jn 0 M_Fs_counted M_Mo_counted [.int a1, .int a2] [x_ns] c d)
    (j_far : ∀ (a1 a2 : Int32) c d, Jn c d → jL (l) Jn 0 M_Fs_far M_Mo_far [.int a1, .int a2] [x_ns] c d)
    (j_like : ∀ (a1 a2 : Int32) c d, Jn c d → jL (l) Jn 0 M_Fs_like M_Mo_like [.int a1, .int a2] [x_ns] c d)
    (j_letter : ∀ (a1 a2 a3 : Int32) c d, Jn c d → jL (l) Jn 0 M_Fs_letter M_Mo_letter [.int a1, .int a2, .int a3] [x_ns] c d)
    (j_count : ∀ (a1 : Int32) c d, Jn c d → jL (l) Jn 0 M_Fs_count M_Mo_count [.int a1] [x_ia] c d) :
    W p l e room_1 s m #[Value.ref b] below meth c s.heap [] 0 0 (lw_Z below #[Value.ref b] s) (entryFrame m ([Value.ref b] : List Value).toArray 7) := by
  obtain ⟨hx, hb, hr, hml, hown, hts, hXs, hbl, hlk, hg⟩ := C0
  obtain ⟨D, ca, hK⟩ := st_K hts
  have hTT := st_T hts hg
  rw [lg_entry_eq]
  have key : ∀ X : ab_X, X = (p, l, e, room_1, s, m, #[Value.ref b], below, meth, c, D, ca, s.heap.size, 0, fun _ => b, some (L, xs), lw_Z below #[Value.ref b] s) → ab_W X M_La_law (0, [(0, .ref 0)], [], [], 0, 0) := by
    intro X hX0
    have hX : ab_is X M_La_law := by
      subst hX0
      exact ⟨hx, hb, hml, hown, st_G hts, hlk, (fun h => nomatch h), by decide, by decide⟩
    have hT : ab_T (ab_B X) (ab_s X) := by subst hX0; exact hTT
    have hl2 : (X.2.1).stackTraces = false := by subst hX0; exact hl
    have hlX : X.2.1 = l := by subst hX0; rfl
    have hR : ab_rm X = room_1 := by subst hX0; rfl
    have hs : ab_sc X = some (L, xs) := by subst hX0; rfl
    have hRc : ab_Rc X = 1094 := congrArg Room.cells hR
    have hRs : ab_Rs X = 15387 := congrArg Room.slots hR
    have hend : ∀ (h : List ab_C) (L : ab_L) (kc ks : Nat), kc ≤ 1094 → ks ≤ 15387 → ab_W X M_La_law (1206, L, [.int 1], h, kc, ks) := by
      intro h L9 kc ks h1 h2
      subst hX0
      intro ad H locs ls hR9 hl9
      refine va_forget (fun q hq => hR9.2.2.2.1.2.2 q hq) (W.widen h1 h2 ?_)
      exact lw_ret hx hb hr hlk (ab_dec ok_La_law (pc := 1206) rfl)
    clear hX0
    refine t_La_law_s1 hX (by rw [hRc]; decide) (by rw [hRs]; decide) ?_
    refine ab_call (rest := [.ref 1]) (n1 := 1) hX ok_La_law (k_Fs_init hl2) ca_Fs_init rfl ⟨Or.inl (ab_Gp 57 (by decide +kernel) rfl), ab_Gp 58 (by decide +kernel) rfl, rfl, rfl, rfl, _, _, rfl⟩ rfl rfl (Nat.le_refl _) rfl (by rw [hR]; decide) hT (fun v h' e9 => ?_) (fun E h' e9 => by obtain ⟨sv, fy, ro, tp, e9, -⟩ := e9; cases e9)
    obtain ⟨sv, fy, ro, tp, e9, p1, p2, p3, p4⟩ := e9
    cases e9
    refine t_La_law_s2 (pd := ((fun _ => 0), 0)) (sh := ((fun _ => 0), (fun _ => 0), sv, fy, (fun _ => 0), ro, 0, 0, 0)) (tr := tp) (ru := ((fun _ => 0), (fun _ => 0), (fun _ => 0))) (qu := ((fun _ => 0), (fun _ => 0), (fun _ => 0), (fun _ => 0), 0, 0)) (to := ((fun _ => 0), (fun _ => 0), 0, (fun _ => 0), (fun _ => 0), 0)) (al := ((fun _ => 0), (fun _ => 0), 0)) hX (by rw [hRc]; decide) (by rw [hRs]; decide) ?_
    refine ab_call (rest := [.ref 31]) (n1 := 31) hX ok_La_law (k_Mo_init hl2) ca_Mo_init rfl ⟨Or.inl (ab_Gp 665 (by decide +kernel) rfl), ab_Gp 666 (by decide +kernel) rfl, rfl, rfl, rfl, _, _, rfl⟩ rfl rfl (Nat.le_refl _) rfl (by rw [hR]; decide) hT (fun v h' e9 => ?_) (fun E h' e9 => by obtain ⟨nv, np, nf, e9, -⟩ := e9; cases e9)
    obtain ⟨nv, np, nf, e9, p5, p6, p7⟩ := e9
    cases e9
    refine t_La_law_s3 hX (by rw [hRc]; decide) (by rw [hRs]; decide) ?_
    subst hlX
    exact lw_loop hX hT hl2 hR hs hL j_feed j_clear j_record j_word j_facet j_parent j_span j_right j_ask j_hit j_score j_counted j_far j_like j_letter j_count hend (L / 6) 0 53 7093 ((((fun _ => 0), 0), ((fun _ => 0), (fun _ => 0), sv, fy, (fun _ => 0), ro, 0, 0, 0), tp, ((fun _ => 0), (fun _ => 0), (fun _ => 0)), ((fun _ => 0), (fun _ => 0), (fun _ => 0), (fun _ => 0), 0, 0), ((fun _ => 0), (fun _ => 0), 0, (fun _ => 0), (fun _ => 0), 0), ((fun _ => 0), (fun _ => 0), 0)) : stF) ((0, ((fun _ => 0), 0), (0, (fun _ => 0), (fun _ => 0), (fun _ => 0), nv, np, nf, (fun _ => 0), (fun _ => 0)), (0, (fun _ => 0), (fun _ => 0), (fun _ => 0), (fun _ => 0), 0), (0, 0, (fun _ => 0), (fun _ => 0), (fun _ => 0), (fun _ => 0), (fun _ => 0), (fun _ => 0)), ((fun _ => 0), (fun _ => 0))) : stM) _ (by omega) (by omega) (by omega) (hJ0 sv fy ro tp nv np nf p1 p2 p3 p4 p5 p6 p7)
  have hw := key _ rfl
  have hls := lv_entry ([Value.ref b]) (n := 7) (Nat.le_of_ble_eq_true rfl)
  exact hw (fun _ => b) s.heap [] _ ⟨hK, (fun k q hk => by cases hk), ⟨(fun i j a q hi => by cases hi), (fun k q hk => by cases hk)⟩, va_S.rf, Nat.le_refl _, (fun _ _ => rfl), Nat.le_refl _, (fun n f z => by cases z; exact ⟨hXs, hbl⟩)⟩ hls
