theorem ab_a0 : ab_all [] := trivial
theorem ab_a1 {P0 : Prop} (h0 : P0) : ab_all [P0] := h0
theorem ab_a2 {P0 : Prop} {P1 : Prop} (h0 : P0) (h1 : P1) : ab_all [P0, P1] := ⟨h0, h1⟩
theorem ab_a3 {P0 : Prop} {P1 : Prop} {P2 : Prop} (h0 : P0) (h1 : P1) (h2 : P2) : ab_all [P0, P1, P2] := ⟨h0, h1, h2⟩
theorem ab_a4 {P0 : Prop} {P1 : Prop} {P2 : Prop} {P3 : Prop} (h0 : P0) (h1 : P1) (h2 : P2) (h3 : P3) : ab_all [P0, P1, P2, P3] := ⟨h0, h1, h2, h3⟩
theorem ab_a5 {P0 : Prop} {P1 : Prop} {P2 : Prop} {P3 : Prop} {P4 : Prop} (h0 : P0) (h1 : P1) (h2 : P2) (h3 : P3) (h4 : P4) : ab_all [P0, P1, P2, P3, P4] := ⟨h0, h1, h2, h3, h4⟩
theorem ab_a6 {P0 : Prop} {P1 : Prop} {P2 : Prop} {P3 : Prop} {P4 : Prop} {P5 : Prop} (h0 : P0) (h1 : P1) (h2 : P2) (h3 : P3) (h4 : P4) (h5 : P5) : ab_all [P0, P1, P2, P3, P4, P5] := ⟨h0, h1, h2, h3, h4, h5⟩
theorem ab_a7 {P0 : Prop} {P1 : Prop} {P2 : Prop} {P3 : Prop} {P4 : Prop} {P5 : Prop} {P6 : Prop} (h0 : P0) (h1 : P1) (h2 : P2) (h3 : P3) (h4 : P4) (h5 : P5) (h6 : P6) : ab_all [P0, P1, P2, P3, P4, P5, P6] := ⟨h0, h1, h2, h3, h4, h5, h6⟩
theorem ab_a8 {P0 : Prop} {P1 : Prop} {P2 : Prop} {P3 : Prop} {P4 : Prop} {P5 : Prop} {P6 : Prop} {P7 : Prop} (h0 : P0) (h1 : P1) (h2 : P2) (h3 : P3) (h4 : P4) (h5 : P5) (h6 : P6) (h7 : P7) : ab_all [P0, P1, P2, P3, P4, P5, P6, P7] := ⟨h0, h1, h2, h3, h4, h5, h6, h7⟩
theorem ab_a9 {P0 : Prop} {P1 : Prop} {P2 : Prop} {P3 : Prop} {P4 : Prop} {P5 : Prop} {P6 : Prop} {P7 : Prop} {P8 : Prop} (h0 : P0) (h1 : P1) (h2 : P2) (h3 : P3) (h4 : P4) (h5 : P5) (h6 : P6) (h7 : P7) (h8 : P8) : ab_all [P0, P1, P2, P3, P4, P5, P6, P7, P8] := ⟨h0, h1, h2, h3, h4, h5, h6, h7, h8⟩
theorem ab_a10 {P0 : Prop} {P1 : Prop} {P2 : Prop} {P3 : Prop} {P4 : Prop} {P5 : Prop} {P6 : Prop} {P7 : Prop} {P8 : Prop} {P9 : Prop} (h0 : P0) (h1 : P1) (h2 : P2) (h3 : P3) (h4 : P4) (h5 : P5) (h6 : P6) (h7 : P7) (h8 : P8) (h9 : P9) : ab_all [P0, P1, P2, P3, P4, P5, P6, P7, P8, P9] := ⟨h0, h1, h2, h3, h4, h5, h6, h7, h8, h9⟩
theorem ab_a11 {P0 : Prop} {P1 : Prop} {P2 : Prop} {P3 : Prop} {P4 : Prop} {P5 : Prop} {P6 : Prop} {P7 : Prop} {P8 : Prop} {P9 : Prop} {P10 : Prop} (h0 : P0) (h1 : P1) (h2 : P2) (h3 : P3) (h4 : P4) (h5 : P5) (h6 : P6) (h7 : P7) (h8 : P8) (h9 : P9) (h10 : P10) : ab_all [P0, P1, P2, P3, P4, P5, P6, P7, P8, P9, P10] := ⟨h0, h1, h2, h3, h4, h5, h6, h7, h8, h9, h10⟩
theorem ab_a12 {P0 : Prop} {P1 : Prop} {P2 : Prop} {P3 : Prop} {P4 : Prop} {P5 : Prop} {P6 : Prop} {P7 : Prop} {P8 : Prop} {P9 : Prop} {P10 : Prop} {P11 : Prop} (h0 : P0) (h1 : P1) (h2 : P2) (h3 : P3) (h4 : P4) (h5 : P5) (h6 : P6) (h7 : P7) (h8 : P8) (h9 : P9) (h10 : P10) (h11 : P11) : ab_all [P0, P1, P2, P3, P4, P5, P6, P7, P8, P9, P10, P11] := ⟨h0, h1, h2, h3, h4, h5, h6, h7, h8, h9, h10, h11⟩
theorem ab_a13 {P0 : Prop} {P1 : Prop} {P2 : Prop} {P3 : Prop} {P4 : Prop} {P5 : Prop} {P6 : Prop} {P7 : Prop} {P8 : Prop} {P9 : Prop} {P10 : Prop} {P11 : Prop} {P12 : Prop} (h0 : P0) (h1 : P1) (h2 : P2) (h3 : P3) (h4 : P4) (h5 : P5) (h6 : P6) (h7 : P7) (h8 : P8) (h9 : P9) (h10 : P10) (h11 : P11) (h12 : P12) : ab_all [P0, P1, P2, P3, P4, P5, P6, P7, P8, P9, P10, P11, P12] := ⟨h0, h1, h2, h3, h4, h5, h6, h7, h8, h9, h10, h11, h12⟩
theorem ab_a14 {P0 : Prop} {P1 : Prop} {P2 : Prop} {P3 : Prop} {P4 : Prop} {P5 : Prop} {P6 : Prop} {P7 : Prop} {P8 : Prop} {P9 : Prop} {P10 : Prop} {P11 : Prop} {P12 : Prop} {P13 : Prop} (h0 : P0) (h1 : P1) (h2 : P2) (h3 : P3) (h4 : P4) (h5 : P5) (h6 : P6) (h7 : P7) (h8 : P8) (h9 : P9) (h10 : P10) (h11 : P11) (h12 : P12) (h13 : P13) : ab_all [P0, P1, P2, P3, P4, P5, P6, P7, P8, P9, P10, P11, P12, P13] := ⟨h0, h1, h2, h3, h4, h5, h6, h7, h8, h9, h10, h11, h12, h13⟩
theorem ab_a15 {P0 : Prop} {P1 : Prop} {P2 : Prop} {P3 : Prop} {P4 : Prop} {P5 : Prop} {P6 : Prop} {P7 : Prop} {P8 : Prop} {P9 : Prop} {P10 : Prop} {P11 : Prop} {P12 : Prop} {P13 : Prop} {P14 : Prop} (h0 : P0) (h1 : P1) (h2 : P2) (h3 : P3) (h4 : P4) (h5 : P5) (h6 : P6) (h7 : P7) (h8 : P8) (h9 : P9) (h10 : P10) (h11 : P11) (h12 : P12) (h13 : P13) (h14 : P14) : ab_all [P0, P1, P2, P3, P4, P5, P6, P7, P8, P9, P10, P11, P12, P13, P14] := ⟨h0, h1, h2, h3, h4, h5, h6, h7, h8, h9, h10, h11, h12, h13, h14⟩
theorem ab_a16 {P0 : Prop} {P1 : Prop} {P2 : Prop} {P3 : Prop} {P4 : Prop} {P5 : Prop} {P6 : Prop} {P7 : Prop} {P8 : Prop} {P9 : Prop} {P10 : Prop} {P11 : Prop} {P12 : Prop} {P13 : Prop} {P14 : Prop} {P15 : Prop} (h0 : P0) (h1 : P1) (h2 : P2) (h3 : P3) (h4 : P4) (h5 : P5) (h6 : P6) (h7 : P7) (h8 : P8) (h9 : P9) (h10 : P10) (h11 : P11) (h12 : P12) (h13 : P13) (h14 : P14) (h15 : P15) : ab_all [P0, P1, P2, P3, P4, P5, P6, P7, P8, P9, P10, P11, P12, P13, P14, P15] := ⟨h0, h1, h2, h3, h4, h5, h6, h7, h8, h9, h10, h11, h12, h13, h14, h15⟩
theorem ab_a17 {P0 : Prop} {P1 : Prop} {P2 : Prop} {P3 : Prop} {P4 : Prop} {P5 : Prop} {P6 : Prop} {P7 : Prop} {P8 : Prop} {P9 : Prop} {P10 : Prop} {P11 : Prop} {P12 : Prop} {P13 : Prop} {P14 : Prop} {P15 : Prop} {P16 : Prop} (h0 : P0) (h1 : P1) (h2 : P2) (h3 : P3) (h4 : P4) (h5 : P5) (h6 : P6) (h7 : P7) (h8 : P8) (h9 : P9) (h10 : P10) (h11 : P11) (h12 : P12) (h13 : P13) (h14 : P14) (h15 : P15) (h16 : P16) : ab_all [P0, P1, P2, P3, P4, P5, P6, P7, P8, P9, P10, P11, P12, P13, P14, P15, P16] := ⟨h0, h1, h2, h3, h4, h5, h6, h7, h8, h9, h10, h11, h12, h13, h14, h15, h16⟩
theorem ab_a18 {P0 : Prop} {P1 : Prop} {P2 : Prop} {P3 : Prop} {P4 : Prop} {P5 : Prop} {P6 : Prop} {P7 : Prop} {P8 : Prop} {P9 : Prop} {P10 : Prop} {P11 : Prop} {P12 : Prop} {P13 : Prop} {P14 : Prop} {P15 : Prop} {P16 : Prop} {P17 : Prop} (h0 : P0) (h1 : P1) (h2 : P2) (h3 : P3) (h4 : P4) (h5 : P5) (h6 : P6) (h7 : P7) (h8 : P8) (h9 : P9) (h10 : P10) (h11 : P11) (h12 : P12) (h13 : P13) (h14 : P14) (h15 : P15) (h16 : P16) (h17 : P17) : ab_all [P0, P1, P2, P3, P4, P5, P6, P7, P8, P9, P10, P11, P12, P13, P14, P15, P16, P17] := ⟨h0, h1, h2, h3, h4, h5, h6, h7, h8, h9, h10, h11, h12, h13, h14, h15, h16, h17⟩
theorem ab_wk {X : ab_X} {M : ab_M} {pc : Nat} {L L2 : ab_L} {st : List Value} {h : List ab_C} {kc ks : Nat} (is : List Nat) (hL : lv_pick L is = L2) (k : ab_W X M (pc, L2, st, h, kc, ks)) : ab_W X M (pc, L, st, h, kc, ks) := by
  obtain ⟨p, l, e, R, s, m, args, below, meth, c, D, ca, B, n0, ad0, sc, Q⟩ := X
  unfold ab_W at k ⊢
  dsimp only at k ⊢
  intro ad H locs ls hR hl
  refine k ad H locs ls hR ⟨hl.1, hl.2.1, fun q hq => hl.2.2 q ?_⟩
  obtain ⟨q0, h0, rfl⟩ := List.mem_map.mp hq
  rw [← hL] at h0
  obtain ⟨j, -, hj⟩ := List.mem_filterMap.mp h0
  exact List.mem_map.mpr ⟨q0, List.mem_of_getElem? hj, rfl⟩
/-- cells at the end are forgotten -/
theorem ab_drop {X : ab_X} {M : ab_M} {pc : Nat} {L : ab_L} {st : List Value} {h h2 : List ab_C} {kc ks : Nat} (hn : X.2.2.2.2.2.2.2.2.2.2.2.2.2.1 ≤ h.length) (k : ab_W X M (pc, L, st, h, kc, ks)) : ab_W X M (pc, L, st, h ++ h2, kc, ks) := by
  obtain ⟨p, l, e, R, s, m, args, below, meth, c, D, ca, B, n0, ad0, sc, Q⟩ := X
  unfold ab_W at k ⊢
  dsimp only at k hn ⊢
  intro ad H locs ls hR hl
  obtain ⟨hK, hP, hD, hS, hBs, had, hn0, hsc⟩ := hR
  have hw : ∀ (j : Nat) (q : Nat × va_E), (ab_w ad ca h)[j]? = some q → (ab_w ad ca (h ++ h2))[j]? = some q := by
    intro j q hj
    unfold ab_w at hj ⊢
    rw [List.getElem?_mapIdx] at hj ⊢
    cases hx : h[j]? with
    | none => rw [hx] at hj; cases hj
    | some x =>
      rw [hx] at hj
      rw [List.getElem?_append_left (List.getElem?_eq_some_iff.mp hx).1, hx]
      exact hj
  exact k ad H locs ls ⟨hK, fun j q hj => hP j q (hw j q hj), ⟨fun i j a b hi hj => hD.1 i j a b (hw i a hi) (hw j b hj), fun j q hj => hD.2 j q (hw j q hj)⟩, hS, hBs, had, hn, hsc⟩ hl
