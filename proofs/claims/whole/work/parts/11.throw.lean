/-! 'throw new E("text")' in a method without handlers; a catch -/
def ab_up : List String := ["java/lang/RuntimeException", "java/lang/Exception"]
def ab_thr (own : String) (ic : Nat) (cls : String) : Prop := cls ∈ ab_exn ∧ Bundle.fit cls = true ∧ (∀ w ∈ vx_atS own ic cls ab_up, w ∈ ab_G ∨ w = .castable cls cls ∨ w ∈ ab_dcl.map Cond.declares) ∧ ∀ w ∈ vx_atS own ic cls ab_up, vx_ot w = true
theorem ab_dec {M : ab_M} (hM : ab_Mok M) {pc : Nat} {i : ab_I} (hi : ab_lk M.2.2.2.2.2.2.1 pc = some i) : decode M.2.2.1 pc = .ok (i.1, ab_len i.2.1 i.1) := by
  have h := List.all_eq_true.mp hM _ (ab_lk_mem _ _ _ hi)
  obtain ⟨ins, len, x, y, pos, v⟩ := i
  unfold ab_chk at h
  exact of_decide_eq_true (ab_and h).1
set_option maxHeartbeats 2000000 in
theorem ab_throw {X : ab_X} {M : ab_M} {rt : Nat × Nat} {h0 : List ab_C} {Qr : ab_Y → Prop} (hX : ab_is X M) (hM : ab_Mok M) (hC : ab_con X M rt h0 Qr) {pc : Nat} {L : ab_L} {st : List Value} {h : List ab_C} {kc ks : Nat} {cls text : String} {ik is ic : Nat} {i0 i3 i4 i6 i9 : ab_I}
    (e0 : ab_lk M.2.2.2.2.2.2.1 pc = some i0) (e3 : ab_lk M.2.2.2.2.2.2.1 (pc + 3) = some i3) (e4 : ab_lk M.2.2.2.2.2.2.1 (pc + 4) = some i4) (e6 : ab_lk M.2.2.2.2.2.2.1 (pc + 6) = some i6) (e9 : ab_lk M.2.2.2.2.2.2.1 (pc + 9) = some i9)
    (f0 : i0.1 = .new ik) (f3 : i3.1 = .dup) (f4 : i4.1 = .ldc is) (f6 : i6.1 = .invokespecial ic) (f9 : i9.1 = .athrow) (hth : ab_thr M.1 ic cls) (hck : Cond.classLink M.1 ik cls ∈ ab_G) (hcin : Cond.initialized cls ∈ ab_G) (hstr : (M.1, is, text) ∈ ab_str) (hh : M.2.2.2.2.2.2.2 = [])
    (hr : 5 < (ab_rm X).frames ∧ ab_wt st + 82 ≤ (ab_rm X).locals ∧ kc + 1 ≤ (ab_rm X).cells ∧ ks + 6 ≤ (ab_rm X).slots) (hq : Qr (.inr cls, h)) : ab_W X M (pc, L, st, h, kc, ks) := by
  have d0 := ab_dec hM e0
  have d3 := ab_dec hM e3
  have d4 := ab_dec hM e4
  have d6 := ab_dec hM e6
  have d9 := ab_dec hM e9
  rw [f0] at d0
  rw [f3] at d3
  rw [f4] at d4
  rw [f6] at d6
  rw [f9] at d9
  obtain ⟨p, l, e, R, s, m, args, below, meth, c, D, ca, B, n0, ad0, sc, Q⟩ := X
  obtain ⟨hx, hb, hml, hown, hts, hlk, hini, hfr, hlo⟩ := hX
  obtain ⟨c1, c2, c3, c4, c5, c6, c7⟩ := hC
  obtain ⟨t1, t2, t3, t4⟩ := hth
  unfold ab_W
  dsimp only [ab_rm] at hr ⊢
  intro ad H locs ls hR hl
  obtain ⟨hK, hP, hD, hS, hBs, had, hn0, hsc⟩ := hR
  have hnone : c.exceptionTable.toList = [] := by
    rw [hh] at c6
    exact List.map_eq_nil_iff.mp c6
  obtain ⟨sa, hsa⟩ := c3.2.2.2.2.1 _ hstr
  have hcast : (Cond.castable cls cls).before args s = true := va_tabs rfl rfl (c3.2.2.1 cls t1)
  have hat : ∀ w ∈ vx_atS M.1 ic cls ab_up, w.before args s = true := fun w hw => by
    rcases t3 w hw with h9 | h9 | h9
    · exact hts w h9
    · rw [h9]; exact hcast
    · obtain ⟨x9, hx9, rfl⟩ := List.mem_map.mp h9
      exact va_tabs rfl rfl (c3.2.2.2.2.2.1 x9 hx9)
  have hgood : ∀ w ∈ Cond.classLink M.1 ik cls :: Cond.initialized cls :: vx_atS M.1 ic cls ab_up, vx_ot w = true := fun w hw => by
    rcases List.mem_cons.mp hw with rfl | hw
    · rfl
    · rcases List.mem_cons.mp hw with rfl | hw
      · rfl
      · exact t4 w hw
  subst c2
  refine ab_mono (Q := vx_MQ below (fun _ _ _ _ => False) (fun E _ t => E = cls ∧ H.size ≤ t.heap.size ∧ ∀ q : Nat, q < H.size → t.heap[q]? = H[q]?) args s R.cells R.slots (fun q => B ≤ q)) (fun t ht => c1 t ?_)
    (vx_throwS (names := ab_up) (A := fun q => B ≤ q) hx hb c4 hown t2 (by decide +kernel) (hts _ hck) (hts _ hcin) hsa hat hgood c3.1 c3.2.1 hS (hl.1.trans hml.symm) d0 d3 d4 d6 d9 (fun z hz => by rw [hnone] at hz; cases hz) hr.1 (by rw [ab_v_sum]; exact hr.2.1) hr.2.2.1 hr.2.2.2 hlk
      (fun t h1 h2 h3 => ⟨rfl, h2, h3⟩) hS.2.2 hr.2.2.1 hr.2.2.2)
  obtain ⟨o, hrun, hend, hor⟩ := ht
  rcases hor with ⟨hF, -⟩ | ⟨q, rfl, E, ce, L9, ⟨rfl, g1, g2⟩, g3, g4, g5, g6, g7, g8⟩
  · exact hF.elim
  · refine ⟨.threw q, hrun, hend, ⟨⟨(.inr E, h), ad, hq, ⟨q, ce, rfl, g3, g4, by rw [g6.alike.findClass]; exact g5⟩, hP.kept (fun k z hk => g2 z.1 (hP k z hk).lt), hD, had, hn0⟩, Nat.le_trans hS.1 g1, fun z hz => ?_⟩, L9, g6, g7, g8⟩
    rw [g2 z (Nat.lt_of_lt_of_le (Nat.lt_of_lt_of_le hz hBs) hS.1)]
    exact hS.2.1 z (Nat.lt_of_lt_of_le hz hBs) (Nat.not_le.mpr hz)
/-- the first row of the table that covers the place and takes an E: rows ahead of it name classes that E is none of -/
theorem ab_catch {X : ab_X} {M : ab_M} (hX : ab_is X M) {pc : Nat} {L : ab_L} {st : List Value} {h : List ab_C} {kc ks : Nat} {E : String} (hT : ab_T (ab_B X) (ab_s X)) (hE : E ∈ ab_exn) (pre suf : List (Nat × Nat × Nat × Nat)) (a b t ct : Nat) (hex : match X with | (_, _, _, _, _, _, _, _, _, c, _) => c.exceptionTable.toList.map ab_ex = M.2.2.2.2.2.2.2) (hh : M.2.2.2.2.2.2.2 = pre ++ (a, b, t, ct) :: suf) (hin : a ≤ pc ∧ pc < b)
    (hpre : ∀ z ∈ pre, z.2.2.2 ≠ 0 ∧ ∃ nm : String, Cond.classLink M.1 z.2.2.2 nm ∈ ab_G ∧ (E, nm) ∈ ab_nc) (hct : ct ≠ 0) (hlink : Cond.classLink M.1 ct E ∈ ab_G) (k : ab_W X M (t, L, [.ref (h.length + 1)], h, kc, ks)) (hwf : L.all (fun q => ab_wv h.length q.2) = true) (hwh : h.all (ab_wc h.length) = true) : ab_V X M (pc, L, st, h, kc, ks) E := by
  obtain ⟨p, l, e, R, s, m, args, below, meth, c, D, ca, B, n0, ad0, sc, Q⟩ := X
  obtain ⟨hx, hb, hml, hown, hts, hlk, hini, hfr, hlo⟩ := hX
  unfold ab_V ab_W at *
  dsimp only [ab_B, ab_s] at k hex hT ⊢
  intro ad H locs ls q ce hR hl hce hvm hcE
  rw [hh] at hex
  obtain ⟨p1, p2, e1, e2, e3⟩ := List.map_eq_append_iff.mp hex
  obtain ⟨x, p3, e4, e5, e6⟩ := List.map_eq_cons_iff.mp e3
  have hlow : ∀ k, k ≤ h.length → va_up ad (h.length + 1) q k = ad k := fun k hk => if_neg (by omega)
  obtain ⟨r1, r2, r3, r4, r5, r6, r7, r8⟩ := id hR
  have hR2 : ab_R D ca B n0 ad0 sc s (va_up ad (h.length + 1) q) h H locs := by
    refine ⟨r1, by rw [ab_w_eq hwh hlow]; exact r2, by rw [ab_w_eq hwh hlow]; exact r3, r4, r5, fun k hk => by rw [hlow k (by omega)]; exact r6 k hk, r7, fun n f hsc => ?_⟩
    rw [hlow 0 (Nat.zero_le _)]
    exact r8 n f hsc
  have k1 := k (va_up ad (h.length + 1) q) H locs ls hR2 (by rw [ab_l_eq hwf hlow]; exact hl)
  rw [List.map_cons, List.map_nil, show ab_v (va_up ad (h.length + 1) q) (.ref (h.length + 1)) = .ref q from congrArg Value.ref (if_pos rfl)] at k1
  have hx4 : x.startPc = a ∧ x.endPc = b ∧ x.handlerPc = t ∧ x.catchType = ct := by
    unfold ab_ex at e5
    injection e5 with j1 j2
    injection j2 with j2 j3
    injection j3 with j3 j4
    exact ⟨j1, j2, j3, j4⟩
  refine vx_catch (own := M.1) (name := E) (E := E) (ce := ce) hown p1 x p3 (by rw [e1, e4]) (fun z hz => Or.inr ?_) ?_ (by rw [hx4.2.2.2]; exact hct) (by rw [hx4.2.2.2]; exact hts _ hlink) (va_tabs rfl rfl (hT.2.2.1 E hE)) hce hvm hcE (by rw [hx4.2.2.1]; exact k1)
  · have hz2 : ab_ex z ∈ pre := by rw [← e2]; exact List.mem_map.mpr ⟨z, hz, rfl⟩
    obtain ⟨g1, nm, g2, g3⟩ := hpre _ hz2
    exact ⟨g1, nm, hts _ g2, hT.2.2.2.1 (E, nm) g3⟩
  · show covers x pc = true
    simp [covers, hx4.1, hx4.2.1, hin.1, hin.2]
