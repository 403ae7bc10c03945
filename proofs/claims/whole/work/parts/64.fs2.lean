/-! CONTRACTS: Arrays.fill; the calls of the class, the second half -/
section K11
variable {l : Launch} {z : List ab_C}
theorem k_Ar_fill_sv (hl : l.stackTraces = false) {v : Int32} {c0 c1 c2 c3 c4 c5 : ab_C} {ff : Nat → Int32} : ab_K l M_Ar_fill (ab_r 0) (0, 0) [.ref 7, .int v] (c0 :: c1 :: c2 :: c3 :: c4 :: c5 :: .inl (.int, 128, .inl ff) :: z) (fun q => ∃ g : Nat → Int32, q = (.inl none, c0 :: c1 :: c2 :: c3 :: c4 :: c5 :: .inl (.int, 128, .inl g) :: z) ∧ ∀ j, j < 128 → g j = v) := by
  refine e_Ar_fill_sv hl (by decide) (fun X hl1 hR hX hC => ?_)
  refine t_Ar_fill_sv_0_1 hX ?_
  have hloop : ∀ (k i : Nat) (g : Nat → Int32), i + k = 128 → (∀ j, j < i → g j = v) → ab_W X M_Ar_fill (5, [(0, .ref 7), (1, .int v), (2, .int (nI i)), (3, .int (Int32.ofNat 128))], [], c0 :: c1 :: c2 :: c3 :: c4 :: c5 :: .inl (.int, 128, .inl g) :: z, 0, 0) := by
    intro k
    induction k with
    | zero =>
      intro i g hi hg
      exact t_Ar_fill_sv_5_2 hX (nI_le (a := 128) (by omega) (by omega)) (r_Ar_fill_sv_20 hX hC (by decide) ⟨g, rfl, fun j hj => hg j (by omega)⟩)
    | succ k ih =>
      intro i g hi hg
      refine t_Ar_fill_sv_5_1 hX (nI_ge (b := 128) (by omega) (by omega)) (vp_in_nI (by omega) (by omega)) ?_
      rw [nI_1, nI_clamp (by omega)]
      refine ih (i + 1) _ (by omega) (fun j hj => ?_)
      by_cases e : j = i
      · rw [e, pk_us]
      · rw [pk_un e]; exact hg j (by omega)
  exact hloop 128 0 ff (by omega) (fun j hj => absurd hj (Nat.not_lt_zero j))

theorem k_Ar_fill_fy (hl : l.stackTraces = false) {v : Int32} {c0 c1 c2 c3 c4 c5 c6 : ab_C} {ff : Nat → Int32} : ab_K l M_Ar_fill (ab_r 0) (0, 0) [.ref 8, .int v] (c0 :: c1 :: c2 :: c3 :: c4 :: c5 :: c6 :: .inl (.int, 32, .inl ff) :: z) (fun q => ∃ g : Nat → Int32, q = (.inl none, c0 :: c1 :: c2 :: c3 :: c4 :: c5 :: c6 :: .inl (.int, 32, .inl g) :: z) ∧ ∀ j, j < 32 → g j = v) := by
  refine e_Ar_fill_fy hl (by decide) (fun X hl1 hR hX hC => ?_)
  refine t_Ar_fill_fy_0_1 hX ?_
  have hloop : ∀ (k i : Nat) (g : Nat → Int32), i + k = 32 → (∀ j, j < i → g j = v) → ab_W X M_Ar_fill (5, [(0, .ref 8), (1, .int v), (2, .int (nI i)), (3, .int (Int32.ofNat 32))], [], c0 :: c1 :: c2 :: c3 :: c4 :: c5 :: c6 :: .inl (.int, 32, .inl g) :: z, 0, 0) := by
    intro k
    induction k with
    | zero =>
      intro i g hi hg
      exact t_Ar_fill_fy_5_2 hX (nI_le (a := 32) (by omega) (by omega)) (r_Ar_fill_fy_20 hX hC (by decide) ⟨g, rfl, fun j hj => hg j (by omega)⟩)
    | succ k ih =>
      intro i g hi hg
      refine t_Ar_fill_fy_5_1 hX (nI_ge (b := 32) (by omega) (by omega)) (vp_in_nI (by omega) (by omega)) ?_
      rw [nI_1, nI_clamp (by omega)]
      refine ih (i + 1) _ (by omega) (fun j hj => ?_)
      by_cases e : j = i
      · rw [e, pk_us]
      · rw [pk_un e]; exact hg j (by omega)
  exact hloop 32 0 ff (by omega) (fun j hj => absurd hj (Nat.not_lt_zero j))

theorem k_Ar_fill_ro (hl : l.stackTraces = false) {v : Int32} {c0 c1 c2 c3 c4 c5 c6 c7 c8 : ab_C} {ff : Nat → Int32} : ab_K l M_Ar_fill (ab_r 0) (0, 0) [.ref 10, .int v] (c0 :: c1 :: c2 :: c3 :: c4 :: c5 :: c6 :: c7 :: c8 :: .inl (.int, 32, .inl ff) :: z) (fun q => ∃ g : Nat → Int32, q = (.inl none, c0 :: c1 :: c2 :: c3 :: c4 :: c5 :: c6 :: c7 :: c8 :: .inl (.int, 32, .inl g) :: z) ∧ ∀ j, j < 32 → g j = v) := by
  refine e_Ar_fill_ro hl (by decide) (fun X hl1 hR hX hC => ?_)
  refine t_Ar_fill_ro_0_1 hX ?_
  have hloop : ∀ (k i : Nat) (g : Nat → Int32), i + k = 32 → (∀ j, j < i → g j = v) → ab_W X M_Ar_fill (5, [(0, .ref 10), (1, .int v), (2, .int (nI i)), (3, .int (Int32.ofNat 32))], [], c0 :: c1 :: c2 :: c3 :: c4 :: c5 :: c6 :: c7 :: c8 :: .inl (.int, 32, .inl g) :: z, 0, 0) := by
    intro k
    induction k with
    | zero =>
      intro i g hi hg
      exact t_Ar_fill_ro_5_2 hX (nI_le (a := 32) (by omega) (by omega)) (r_Ar_fill_ro_20 hX hC (by decide) ⟨g, rfl, fun j hj => hg j (by omega)⟩)
    | succ k ih =>
      intro i g hi hg
      refine t_Ar_fill_ro_5_1 hX (nI_ge (b := 32) (by omega) (by omega)) (vp_in_nI (by omega) (by omega)) ?_
      rw [nI_1, nI_clamp (by omega)]
      refine ih (i + 1) _ (by omega) (fun j hj => ?_)
      by_cases e : j = i
      · rw [e, pk_us]
      · rw [pk_un e]; exact hg j (by omega)
  exact hloop 32 0 ff (by omega) (fun j hj => absurd hj (Nat.not_lt_zero j))

theorem k_Ar_fill_tp (hl : l.stackTraces = false) {v : Int32} {c0 c1 c2 c3 c4 c5 c6 c7 c8 c9 c10 : ab_C} {ff : Nat → Int32} : ab_K l M_Ar_fill (ab_r 0) (0, 0) [.ref 12, .int v] (c0 :: c1 :: c2 :: c3 :: c4 :: c5 :: c6 :: c7 :: c8 :: c9 :: c10 :: .inl (.int, 64, .inl ff) :: z) (fun q => ∃ g : Nat → Int32, q = (.inl none, c0 :: c1 :: c2 :: c3 :: c4 :: c5 :: c6 :: c7 :: c8 :: c9 :: c10 :: .inl (.int, 64, .inl g) :: z) ∧ ∀ j, j < 64 → g j = v) := by
  refine e_Ar_fill_tp hl (by decide) (fun X hl1 hR hX hC => ?_)
  refine t_Ar_fill_tp_0_1 hX ?_
  have hloop : ∀ (k i : Nat) (g : Nat → Int32), i + k = 64 → (∀ j, j < i → g j = v) → ab_W X M_Ar_fill (5, [(0, .ref 12), (1, .int v), (2, .int (nI i)), (3, .int (Int32.ofNat 64))], [], c0 :: c1 :: c2 :: c3 :: c4 :: c5 :: c6 :: c7 :: c8 :: c9 :: c10 :: .inl (.int, 64, .inl g) :: z, 0, 0) := by
    intro k
    induction k with
    | zero =>
      intro i g hi hg
      exact t_Ar_fill_tp_5_2 hX (nI_le (a := 64) (by omega) (by omega)) (r_Ar_fill_tp_20 hX hC (by decide) ⟨g, rfl, fun j hj => hg j (by omega)⟩)
    | succ k ih =>
      intro i g hi hg
      refine t_Ar_fill_tp_5_1 hX (nI_ge (b := 64) (by omega) (by omega)) (vp_in_nI (by omega) (by omega)) ?_
      rw [nI_1, nI_clamp (by omega)]
      refine ih (i + 1) _ (by omega) (fun j hj => ?_)
      by_cases e : j = i
      · rw [e, pk_us]
      · rw [pk_un e]; exact hg j (by omega)
  exact hloop 64 0 ff (by omega) (fun j hj => absurd hj (Nat.not_lt_zero j))

theorem k_Ar_fill_vc (hl : l.stackTraces = false) {v : Int32} {c0 c1 c2 c3 c4 c5 c6 c7 c8 c9 c10 c11 c12 c13 c14 c15 c16 c17 c18 c19 c20 c21 c22 c23 c24 c25 : ab_C} {ff : Nat → Int32} : ab_K l M_Ar_fill (ab_r 0) (0, 0) [.ref 27, .int v] (c0 :: c1 :: c2 :: c3 :: c4 :: c5 :: c6 :: c7 :: c8 :: c9 :: c10 :: c11 :: c12 :: c13 :: c14 :: c15 :: c16 :: c17 :: c18 :: c19 :: c20 :: c21 :: c22 :: c23 :: c24 :: c25 :: .inl (.int, 64, .inl ff) :: z) (fun q => ∃ g : Nat → Int32, q = (.inl none, c0 :: c1 :: c2 :: c3 :: c4 :: c5 :: c6 :: c7 :: c8 :: c9 :: c10 :: c11 :: c12 :: c13 :: c14 :: c15 :: c16 :: c17 :: c18 :: c19 :: c20 :: c21 :: c22 :: c23 :: c24 :: c25 :: .inl (.int, 64, .inl g) :: z) ∧ ∀ j, j < 64 → g j = v) := by
  refine e_Ar_fill_vc hl (by decide) (fun X hl1 hR hX hC => ?_)
  refine t_Ar_fill_vc_0_1 hX ?_
  have hloop : ∀ (k i : Nat) (g : Nat → Int32), i + k = 64 → (∀ j, j < i → g j = v) → ab_W X M_Ar_fill (5, [(0, .ref 27), (1, .int v), (2, .int (nI i)), (3, .int (Int32.ofNat 64))], [], c0 :: c1 :: c2 :: c3 :: c4 :: c5 :: c6 :: c7 :: c8 :: c9 :: c10 :: c11 :: c12 :: c13 :: c14 :: c15 :: c16 :: c17 :: c18 :: c19 :: c20 :: c21 :: c22 :: c23 :: c24 :: c25 :: .inl (.int, 64, .inl g) :: z, 0, 0) := by
    intro k
    induction k with
    | zero =>
      intro i g hi hg
      exact t_Ar_fill_vc_5_2 hX (nI_le (a := 64) (by omega) (by omega)) (r_Ar_fill_vc_20 hX hC (by decide) ⟨g, rfl, fun j hj => hg j (by omega)⟩)
    | succ k ih =>
      intro i g hi hg
      refine t_Ar_fill_vc_5_1 hX (nI_ge (b := 64) (by omega) (by omega)) (vp_in_nI (by omega) (by omega)) ?_
      rw [nI_1, nI_clamp (by omega)]
      refine ih (i + 1) _ (by omega) (fun j hj => ?_)
      by_cases e : j = i
      · rw [e, pk_us]
      · rw [pk_un e]; exact hg j (by omega)
  exact hloop 64 0 ff (by omega) (fun j hj => absurd hj (Nat.not_lt_zero j))

end K11
section K12
variable {l : Launch} {pd : gt_pd} {sh : gt_sh} {tr : gt_tr} {ru : gt_ru} {qu : gt_qu} {to : gt_to} {z : List ab_C} {ar ap : Nat → Int32} {az : Int32}
theorem k_Ra_put_a (hl : l.stackTraces = false) {k : Nat} (hk : k < 32) (az0 : az = nI k) {x y : Int32} : ab_K l M_Ra_put (ab_r 0) (0, 0) [.ref 28, .int x, .int y] (hf pd sh tr ru qu to (ar, ap, az) z) (fun q => q = (.inl none, hf pd sh tr ru qu to ((insP x y k ar ap).1, (insP x y k ar ap).2, nI (k + 1)) z)) := by
  refine e_Ra_put_a hl (by decide) (fun X hl1 hR hX hC => ?_)
  refine t_Ra_put_a_0_2 hX (by rw [az0]; exact nI_lt (b := 32) hk (by omega)) ?_
  obtain ⟨R9, hR9⟩ : ∃ R9, R9 = insP x y k ar ap := ⟨_, rfl⟩
  rw [← hR9] at hC
  have hloop : ∀ (j : Nat) (a b : Nat → Int32), j ≤ k → insP x y j a b = R9 → ab_W X M_Ra_put (15, [(0, .ref 28), (1, .int x), (2, .int y), (3, .int (nI j))], [], hf pd sh tr ru qu to (a, b, az) z, 0, 0) := by
    intro j
    induction j with
    | zero =>
      intro a b hj hN
      have hin : vp_in (nI 0) 32 := vp_in_nI (by omega) (by omega)
      refine t_Ra_put_a_15_3 hX (nI_le (b := 0) (by omega) (by omega)) (t_Ra_put_a_65_1 hX hin hin (r_Ra_put_a_89 hX hC (by decide) ?_))
      rw [← hN, az0, nI_1]
      rfl
    | succ j ih =>
      intro a b hj hN
      have e1 : nI (j + 1) - 1 = nI j := nI_pred j
      have e2 : nI (j + 1) + (-1) = nI j := pk_m1 j
      have hin : vp_in (nI (j + 1) - 1) 32 := by rw [e1]; exact vp_in_nI (by omega) (by omega)
      have hin2 : vp_in (nI (j + 1)) 32 := vp_in_nI (by omega) (by omega)
      have hcl1 : (nI (j + 1) - 1).toNatClampNeg = j := by rw [e1]; exact nI_clamp (by omega)
      have hcl2 : (nI (j + 1)).toNatClampNeg = j + 1 := nI_clamp (by omega)
      have hgt : ¬ nI (j + 1) ≤ 0 := nI_nle (by omega) (by omega)
      unfold insP at hN
      by_cases h1 : b j < y
      · rw [if_pos h1] at hN
        refine t_Ra_put_a_15_1 hX hgt hin (by rw [hcl1]; exact i32_nle.mpr h1) hin hin2 hin hin2 ?_
        rw [e2, hcl1, hcl2]
        exact ih _ _ (by omega) hN
      · rw [if_neg h1] at hN
        refine t_Ra_put_a_15_2 hX hgt hin (by rw [hcl1]; exact Decidable.byContradiction (fun q => h1 (i32_nle.mp q))) (t_Ra_put_a_65_1 hX hin2 hin2 (r_Ra_put_a_89 hX hC (by decide) ?_))
        rw [← hN, az0, hcl2, nI_1]
  rw [az0]
  have := hloop k ar ap (Nat.le_refl _) hR9.symm
  rw [az0] at this
  exact this
end K12
