/-! CONTRACTS: the Ruler -/
theorem nI_min {a b : Nat} (ha : a < 2 ^ 31) (hb : b < 2 ^ 31) : (if nI b < nI a then nI b else nI a) = nI (min a b) := by
  by_cases h : b < a
  · rw [if_pos (nI_lt h ha), Nat.min_eq_right (by omega)]
  · rw [if_neg (nI_nlt (by omega) hb), Nat.min_eq_left (by omega)]
def cst (f g : Nat → Int32) (a b : Nat) : Nat := if f a = g b then 0 else 1
theorem cst_le (f g : Nat → Int32) (a b : Nat) : cst f g a b ≤ 1 := by unfold cst; split <;> omega
def spA (w : Int64) (r : Nat → Int32) : Nat → (Nat → Int32)
  | 0 => r
  | k + 1 => upd (spA w r k) k (cA w (nI k))
def spN (w : Int64) : Nat → Nat
  | 0 => 0
  | k + 1 => spN w k + (if cA w (nI k) = 0 then 0 else 1)
theorem spA_at (w : Int64) (r : Nat → Int32) : ∀ k j, j < k → spA w r k j = cA w (nI j)
  | 0, j, h => absurd h (Nat.not_lt_zero j)
  | k + 1, j, h => by
    unfold spA
    by_cases e : j = k
    · rw [e, pk_us]
    · rw [pk_un e]; exact spA_at w r k j (by omega)
theorem spN_le (w : Int64) : ∀ k, spN w k ≤ k
  | 0 => Nat.le_refl _
  | k + 1 => by
    have := spN_le w k
    unfold spN
    split <;> omega
/-- how far two words are, by their letters -/
def apart (a b : Int64) : Nat := gD (fun i j => if cA a (nI i) = cA b (nI j) then 0 else 1) (spN a 10) (spN b 10)
section K7
variable {l : Launch} {pd : gt_pd} {sh : gt_sh} {tr : gt_tr} {ru : gt_ru} {qu : gt_qu} {to : gt_to} {al : gt_al} {z : List ab_C} {r1 r2 r3 : Nat → Int32}
theorem k_Ru_spell_1 (hl : l.stackTraces = false) {w : Int64} : ab_K l M_Ru_spell (ab_r 1) (0, 0) [.long w, .ref 14] (hf pd sh tr (r1, r2, r3) qu to al z) (fun q => q = (.inl (some (.int (nI (spN w 10)))), hf pd sh tr (spA w r1 10, r2, r3) qu to al z)) := by
  refine e_Ru_spell_1 hl (by decide) (fun X hl1 hR hX hC => ?_)
  have hl2 : (X.2.1).stackTraces = false := by rw [hl1]; exact hl
  refine t_Ru_spell_1_0_1 hX ?_
  have hloop : ∀ k i : Nat, i + k = 10 → ab_W X M_Ru_spell (5, [(0, .long w), (2, .ref 14), (3, .int (nI (spN w i))), (4, .int (nI i))], [], hf pd sh tr (spA w r1 i, r2, r3) qu to al z, 0, 0) := by
    intro k
    induction k with
    | zero =>
      intro i hi
      have h10 : i = 10 := by omega
      subst h10
      exact t_Ru_spell_1_5_2 hX (nI_le (a := 10) (by omega) (by omega)) (r_Ru_spell_1_39 hX hC (by decide) rfl)
    | succ k ih =>
      intro i hi
      have h9 := ih (i + 1) (by omega)
      have hin : vp_in (nI i) 10 := vp_in_nI (by omega) (by omega)
      have hcl : (nI i).toNatClampNeg = i := nI_clamp (by omega)
      refine t_Ru_spell_1_5_1 hX (nI_ge (b := 10) (by omega) (by omega)) (q_Ru_spell_1_18 hX (ab_conT hC) (k_Wo_codeAt hl2) (by rw [hR]; decide) (fun v h' e => ?_) (fun E h' e => by cases e))
      cases e
      by_cases h : cA w (nI i) = 0
      · refine t_Ru_spell_1_21_2 hX hin hin (by rw [hcl, pk_us]; exact h) (t_Ru_spell_1_32_1 hX ?_)
        rw [nI_1, hcl]
        rw [spN, if_pos h] at h9
        exact h9
      · refine t_Ru_spell_1_21_1 hX hin hin (by rw [hcl, pk_us]; exact h) (t_Ru_spell_1_32_1 hX ?_)
        rw [nI_1, nI_1, hcl]
        rw [spN, if_neg h] at h9
        exact h9
  exact hloop 10 0 rfl
theorem k_Ru_spell_2 (hl : l.stackTraces = false) {w : Int64} : ab_K l M_Ru_spell (ab_r 1) (0, 0) [.long w, .ref 15] (hf pd sh tr (r1, r2, r3) qu to al z) (fun q => q = (.inl (some (.int (nI (spN w 10)))), hf pd sh tr (r1, spA w r2 10, r3) qu to al z)) := by
  refine e_Ru_spell_2 hl (by decide) (fun X hl1 hR hX hC => ?_)
  have hl2 : (X.2.1).stackTraces = false := by rw [hl1]; exact hl
  refine t_Ru_spell_2_0_1 hX ?_
  have hloop : ∀ k i : Nat, i + k = 10 → ab_W X M_Ru_spell (5, [(0, .long w), (2, .ref 15), (3, .int (nI (spN w i))), (4, .int (nI i))], [], hf pd sh tr (r1, spA w r2 i, r3) qu to al z, 0, 0) := by
    intro k
    induction k with
    | zero =>
      intro i hi
      have h10 : i = 10 := by omega
      subst h10
      exact t_Ru_spell_2_5_2 hX (nI_le (a := 10) (by omega) (by omega)) (r_Ru_spell_2_39 hX hC (by decide) rfl)
    | succ k ih =>
      intro i hi
      have h9 := ih (i + 1) (by omega)
      have hin : vp_in (nI i) 10 := vp_in_nI (by omega) (by omega)
      have hcl : (nI i).toNatClampNeg = i := nI_clamp (by omega)
      refine t_Ru_spell_2_5_1 hX (nI_ge (b := 10) (by omega) (by omega)) (q_Ru_spell_2_18 hX (ab_conT hC) (k_Wo_codeAt hl2) (by rw [hR]; decide) (fun v h' e => ?_) (fun E h' e => by cases e))
      cases e
      by_cases h : cA w (nI i) = 0
      · refine t_Ru_spell_2_21_2 hX hin hin (by rw [hcl, pk_us]; exact h) (t_Ru_spell_2_32_1 hX ?_)
        rw [nI_1, hcl]
        rw [spN, if_pos h] at h9
        exact h9
      · refine t_Ru_spell_2_21_1 hX hin hin (by rw [hcl, pk_us]; exact h) (t_Ru_spell_2_32_1 hX ?_)
        rw [nI_1, nI_1, hcl]
        rw [spN, if_neg h] at h9
        exact h9
  exact hloop 10 0 rfl
theorem k_Ru_nextRow (hl : l.stackTraces = false) {i m : Nat} (hi : i < 10) (hm : m ≤ 10) (hr : ∀ j, j ≤ m → r3 j = nI (gD (cst r1 r2) i j)) : ab_K l M_Ru_nextRow (ab_r 0) (0, 0) [.ref 13, .int (nI i), .int (nI m)] (hf pd sh tr (r1, r2, r3) qu to al z) (fun q => ∃ r4 : Nat → Int32, q = (.inl (some (.int (nI (rowMin (gD (cst r1 r2) (i + 1)) m)))), hf pd sh tr (r1, r2, r4) qu to al z) ∧ ∀ j, j ≤ m → r4 j = nI (gD (cst r1 r2) (i + 1) j)) := by
  refine e_Ru_nextRow hl (by decide) (fun X hl1 hR hX hC => ?_)
  have hz : 0 ≤ ab_Rc X ∧ 0 ≤ ab_Rs X := ⟨Nat.zero_le _, Nat.zero_le _⟩
  have h0 : vp_in 0 11 := vp_in_nI (n := 0) (by omega) (by omega)
  have c0 : (0 : Int32).toNatClampNeg = 0 := rfl
  have hB : ∀ a j, a ≤ 10 → j ≤ m → gD (cst r1 r2) a j ≤ 10 := fun a j ha hj => by
    have := (gD_bounds (cst_le r1 r2) a j).2.2
    omega
  have hloop : ∀ (k j : Nat) (r4 : Nat → Int32), j + k = m → (∀ a, a ≤ j → r4 a = nI (gD (cst r1 r2) (i + 1) a)) → (∀ a, j < a → a ≤ m → r4 a = nI (gD (cst r1 r2) i a)) →
      ab_W X M_Ru_nextRow (27, [(0, .ref 13), (1, .int (nI i)), (2, .int (nI m)), (3, .int (nI (gD (cst r1 r2) i j))), (4, .int (nI (rowMin (gD (cst r1 r2) (i + 1)) j))), (5, .int (nI j))], [], hf pd sh tr (r1, r2, r4) qu to al z, 0, 0) := by
    intro k
    induction k with
    | zero =>
      intro j r4 hj ha hb
      have hjm : j = m := by omega
      subst hjm
      exact t_Ru_nextRow_27_3 hX (nI_le (Nat.le_refl _) (by omega)) (r_Ru_nextRow_131 hX hC (by decide) ⟨r4, rfl, ha⟩)
    | succ k ih =>
      intro j r4 hj ha hb
      have hgt : ¬ nI m ≤ nI j := nI_ge (by omega) (by omega)
      have hi1 : vp_in (nI i) 10 := vp_in_nI hi (by omega)
      have hj1 : vp_in (nI j) 10 := vp_in_nI (by omega) (by omega)
      have hj2 : vp_in (nI j) 11 := vp_in_nI (by omega) (by omega)
      have hj3 : vp_in (nI j + 1) 11 := by rw [nI_1]; exact vp_in_nI (by omega) (by omega)
      have ci : (nI i).toNatClampNeg = i := nI_clamp (by omega)
      have cj : (nI j).toNatClampNeg = j := nI_clamp (by omega)
      have cj1 : (nI j + 1).toNatClampNeg = j + 1 := by rw [nI_1]; exact nI_clamp (by omega)
      have f1 := ha j (Nat.le_refl _)
      have f2 := hb (j + 1) (by omega) (by omega)
      have b1 := hB i j (by omega) (by omega)
      have b2 := hB i (j + 1) (by omega) (by omega)
      have b3 := hB (i + 1) j (by omega) (by omega)
      have b4 := hB (i + 1) (j + 1) (by omega) (by omega)
      have b5 := rowMin_le (gD (cst r1 r2) (i + 1)) j j (Nat.le_refl _)
      have bc := cst_le r1 r2 i j
      have hgo : ab_W X M_Ru_nextRow (56, [(0, .ref 13), (1, .int (nI i)), (2, .int (nI m)), (4, .int (nI (rowMin (gD (cst r1 r2) (i + 1)) j))), (5, .int (nI j))], [.int (nI (gD (cst r1 r2) i j + cst r1 r2 i j))], hf pd sh tr (r1, r2, r4) qu to al z, 0, 0) := by
        refine t_Ru_nextRow_56_1 hX hj2 hj3 hz hj3 hz hj3 hj3 hz ?_
        rw [cj1, cj, f1, f2]
        rw [nI_min (a := gD (cst r1 r2) (i + 1) j) (b := gD (cst r1 r2) i (j + 1)) (by omega) (by omega), nI_1 (min (gD (cst r1 r2) (i + 1) j) (gD (cst r1 r2) i (j + 1))), nI_min (by omega) (by omega), pk_us]
        have hnew : min (gD (cst r1 r2) i j + cst r1 r2 i j) (min (gD (cst r1 r2) (i + 1) j) (gD (cst r1 r2) i (j + 1)) + 1) = gD (cst r1 r2) (i + 1) (j + 1) := by rw [gD_ss]; omega
        rw [hnew, nI_min (by omega) (by omega), nI_1 j]
        have h9 := ih (j + 1) (upd r4 (j + 1) (nI (gD (cst r1 r2) (i + 1) (j + 1)))) (by omega) (fun a ha' => by
          by_cases e : a = j + 1
          · rw [e, pk_us]
          · rw [pk_un e]; exact ha a (by omega)) (fun a h1 h2 => by rw [pk_un (by omega)]; exact hb a (by omega) h2)
        exact h9
      unfold cst at hgo
      by_cases h : r1 i = r2 j
      · rw [if_pos h] at hgo
        exact t_Ru_nextRow_27_1 hX hgt hi1 hj1 (by rw [ci, cj]; exact h) hgo
      · rw [if_neg h] at hgo
        refine t_Ru_nextRow_27_2 hX hgt hi1 hj1 (by rw [ci, cj]; exact h) ?_
        rw [nI_1]
        exact hgo
  refine t_Ru_nextRow_0_1 hX h0 h0 h0 ?_
  rw [c0, pk_us, hr 0 (Nat.zero_le _), nI_1]
  have h9 := hloop m 0 (upd r3 0 (nI (i + 1))) (by omega) (fun a ha => by rw [show a = 0 by omega, pk_us, gD_i0]) (fun a h1 h2 => by rw [pk_un (by omega)]; exact hr a h2)
  rw [show rowMin (gD (cst r1 r2) (i + 1)) 0 = i + 1 from gD_i0 _ _] at h9
  exact h9
theorem k_Ru_apartBelow (hl : l.stackTraces = false) {a b : Int64} {L : Nat} (hL : L < 2 ^ 31) : ab_K l M_Ru_apartBelow (ab_r 2) (0, 0) [.ref 13, .long a, .long b, .int (nI L)] (hf pd sh tr ru qu to al z) (fun q => ∃ ru' : gt_ru, q = (.inl (some (.int (nI (min (apart a b) L)))), hf pd sh tr ru' qu to al z)) := by
  obtain ⟨r1, r2, r3⟩ := ru
  refine e_Ru_apartBelow hl (by decide) (fun X hl1 hR hX hC => ?_)
  have hl2 : (X.2.1).stackTraces = false := by rw [hl1]; exact hl
  have hz : 0 ≤ ab_Rc X ∧ 0 ≤ ab_Rs X := ⟨Nat.zero_le _, Nat.zero_le _⟩
  have hla := spN_le a 10
  have hlb := spN_le b 10
  refine t_Ru_apartBelow_0_1 hX (q_Ru_apartBelow_5 hX (ab_conT hC) (k_Ru_spell_1 hl2) (by rw [hR]; decide) (fun v h' e => ?_) (fun E h' e => by cases e))
  cases e
  refine t_Ru_apartBelow_8_1 hX (q_Ru_apartBelow_15 hX (ab_conT hC) (k_Ru_spell_2 hl2) (by rw [hR]; decide) (fun v h' e => ?_) (fun E h' e => by cases e))
  cases e
  have hcst : apart a b = gD (cst (spA a r1 10) (spA b r2 10)) (spN a 10) (spN b 10) := gD_congr _ _ (fun i j hi hj => by
    unfold cst
    rw [spA_at a r1 10 i (by omega), spA_at b r2 10 j (by omega)])
  generalize spA a r1 10 = s1 at hcst ⊢
  generalize spA b r2 10 = s2 at hcst ⊢
  generalize spN a 10 = la at hcst hla ⊢
  generalize spN b 10 = lb at hcst hlb ⊢
  have hbd := gD_bounds (cst_le s1 s2) la lb
  have habs : (if (0 : Int32) ≤ nI la - nI lb then nI la - nI lb else 0 - (nI la - nI lb)) = nI (max la lb - min la lb) := by
    by_cases h : lb ≤ la
    · rw [pk_sub h, if_pos (nI_pos' (by omega)), Nat.max_eq_left h, Nat.min_eq_right h]
    · have h1 : nI la - nI lb < 0 := pk_sneg (by omega) (by omega)
      rw [if_neg (i32_nle.mpr h1), Nat.max_eq_right (by omega), Nat.min_eq_left (by omega), Int32.zero_sub, Int32.neg_sub, pk_sub (by omega)]
  by_cases hd : max la lb - min la lb < L
  · refine t_Ru_apartBelow_18_2 hX hz (by rw [habs]; exact nI_lt hd hL) ?_
    have hrows : ∀ (k i : Nat) (r4 : Nat → Int32), i + k = la → (∀ j, j ≤ lb → r4 j = nI (gD (cst s1 s2) i j)) → ab_W X M_Ru_apartBelow (64, [(0, .ref 13), (5, .int (nI L)), (6, .int (nI la)), (7, .int (nI lb)), (8, .int (nI i))], [], hf pd sh tr (s1, s2, r4) qu to al z, 0, 0) := by
      intro k
      induction k with
      | zero =>
        intro i r4 hi hr
        have e : i = la := by omega
        subst e
        refine t_Ru_apartBelow_64_2 hX (nI_le (Nat.le_refl _) (by omega)) (vp_in_nI (by omega) (by omega)) hz (r_Ru_apartBelow_105 hX hC (by decide) ⟨(s1, s2, r4), ?_⟩)
        rw [nI_clamp (by omega), hr lb (Nat.le_refl _), nI_min (by omega) hL, hcst]
      | succ k ih =>
        intro i r4 hi hr
        refine t_Ru_apartBelow_64_1 hX (nI_ge (by omega) (by omega)) (q_Ru_apartBelow_76 hX (ab_conT hC) (k_Ru_nextRow hl2 (by omega) hlb hr) (by rw [hR]; decide) (fun v h' e => ?_) (fun E h' e => by obtain ⟨r5, e, -⟩ := e; cases e))
        obtain ⟨r5, e, hr5⟩ := e
        cases e
        have hb9 := (gD_bounds (cst_le s1 s2) (i + 1) lb).2.2
        have hm9 := rowMin_le (gD (cst s1 s2) (i + 1)) lb lb (Nat.le_refl _)
        by_cases h : rowMin (gD (cst s1 s2) (i + 1)) lb < L
        · refine t_Ru_apartBelow_79_2 hX (nI_lt h hL) ?_
          rw [nI_1]
          exact ih (i + 1) r5 (by omega) hr5
        · refine t_Ru_apartBelow_79_1 hX (nI_nlt (by omega) (by omega)) (r_Ru_apartBelow_86 hX hC (by decide) ⟨(s1, s2, r5), ?_⟩)
          have h5 := gD_rows (c := cst s1 s2) (t := L) (n := lb) (i := i + 1) (fun j hj => by have := rowMin_le (gD (cst s1 s2) (i + 1)) lb j hj; omega) k lb (Nat.le_refl _)
          rw [show i + 1 + k = la by omega] at h5
          rw [hcst, Nat.min_eq_right h5]
    have hlay : ∀ (k j : Nat) (r4 : Nat → Int32), j + k = lb + 1 → (∀ x, x < j → r4 x = nI x) → ab_W X M_Ru_apartBelow (39, [(0, .ref 13), (5, .int (nI L)), (6, .int (nI la)), (7, .int (nI lb)), (8, .int (nI j))], [], hf pd sh tr (s1, s2, r4) qu to al z, 0, 0) := by
      intro k
      induction k with
      | zero =>
        intro j r4 hj hr
        exact t_Ru_apartBelow_39_2 hX (nI_lt (by omega) (by omega)) (hrows la 0 r4 (by omega) (fun x hx => by rw [gD_0]; exact hr x (by omega)))
      | succ k ih =>
        intro j r4 hj hr
        refine t_Ru_apartBelow_39_1 hX (nI_nlt (by omega) (by omega)) (vp_in_nI (by omega) (by omega)) ?_
        rw [nI_1, nI_clamp (by omega)]
        refine ih (j + 1) _ (by omega) (fun x hx => ?_)
        by_cases e : x = j
        · rw [e, pk_us]
        · rw [pk_un e]; exact hr x (by omega)
    exact hlay (lb + 1) 0 r3 (by omega) (fun x hx => absurd hx (Nat.not_lt_zero x))
  · refine t_Ru_apartBelow_18_1 hX hz (by rw [habs]; exact nI_nlt (by omega) (by omega)) (r_Ru_apartBelow_35 hX hC (by decide) ⟨(s1, s2, r3), ?_⟩)
    rw [hcst, Nat.min_eq_right (by omega)]
end K7
