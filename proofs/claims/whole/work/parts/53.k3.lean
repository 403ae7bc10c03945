/-! CONTRACTS: the Shelf's counts and its insertion, the Ranking's -/
def knW (sw : Nat → Int64) (cnt : Nat → Nat) (n : Nat) (w : Int64) : Bool := (List.range n).any fun r => hasW sw r (cnt r) w
/-- w put into the sorted stretch of k numbers that begins at st -/
def insL (st : Nat) (w : Int64) : Nat → (Nat → Int64) → (Nat → Int64)
  | 0, sw => vp_updL sw st w
  | k + 1, sw => if w < sw (st + k) then insL st w k (vp_updL sw (st + (k + 1)) (sw (st + k))) else vp_updL sw (st + (k + 1)) w
def insP (x y : Int32) : Nat → (Nat → Int32) → (Nat → Int32) → (Nat → Int32) × (Nat → Int32)
  | 0, hr, hp => (upd hr 0 x, upd hp 0 y)
  | k + 1, hr, hp => if hp k < y then insP x y k (upd hr (k + 1) (hr k)) (upd hp (k + 1) (hp k)) else (upd hr (k + 1) x, upd hp (k + 1) y)
theorem i32_nle {a b : Int32} : ¬ a ≤ b ↔ b < a := by rw [Int32.le_iff_toInt_le, Int32.lt_iff_toInt_lt]; omega
theorem i64_nle {a b : Int64} : ¬ a ≤ b ↔ b < a := by rw [Int64.le_iff_toInt_le, Int64.lt_iff_toInt_lt]; omega
section K5
variable {l : Launch} {pd : gt_pd} {sh : gt_sh} {tr : gt_tr} {ru : gt_ru} {qu : gt_qu} {to : gt_to} {al : gt_al} {z : List ab_C} {sw : Nat → Int64} {wc sv fy ly ro pf tp hr hp ts vc ar ap : Nat → Int32} {ss aw dw pn hz tt az : Int32}
theorem k_Sh_isKnown (hl : l.stackTraces = false) {n : Nat} {cnt : Nat → Nat} (hn : n ≤ 32) (hs : ss = nI n) (hc : ∀ r, r < n → cnt r ≤ 12 ∧ wc r = nI (cnt r)) {w : Int64} : ab_K l M_Sh_isKnown (ab_r 2) (0, 0) [.ref 4, .long w] (hf pd (sw, wc, sv, fy, ly, ro, ss, aw, dw) tr ru qu to al z) (fun q => q = (.inl (some (.int (bI (knW sw cnt n w)))), hf pd (sw, wc, sv, fy, ly, ro, ss, aw, dw) tr ru qu to al z)) := by
  refine e_Sh_isKnown hl (by decide) (fun X hl1 hR hX hC => ?_)
  have hl2 : (X.2.1).stackTraces = false := by rw [hl1]; exact hl
  refine t_Sh_isKnown_0_1 hX ?_
  have hloop : ∀ k i : Nat, i + k = n → (∀ j, j < i → hasW sw j (cnt j) w = false) → ab_W X M_Sh_isKnown (2, [(0, .ref 4), (1, .long w), (3, .int (nI i))], [], hf pd (sw, wc, sv, fy, ly, ro, ss, aw, dw) tr ru qu to al z, 0, 0) := by
    intro k
    induction k with
    | zero =>
      intro i hi hN
      refine t_Sh_isKnown_2_2 hX (by rw [hs]; exact nI_le (by omega) (by omega)) (r_Sh_isKnown_28 hX hC (Or.inl rfl) (by decide) ?_)
      have hf : knW sw cnt n w = false := by
        cases hb : knW sw cnt n w with
        | false => rfl
        | true =>
          obtain ⟨j, hj, h2⟩ := List.any_eq_true.mp hb
          rw [hN j (by have := List.mem_range.mp hj; omega)] at h2
          cases h2
      rw [hf]; rfl
    | succ k ih =>
      intro i hi hN
      obtain ⟨c1, c2⟩ := hc i (by omega)
      refine t_Sh_isKnown_2_1 hX (by rw [hs]; exact nI_ge (by omega) (by omega)) (q_Sh_isKnown_13 hX (ab_conT hC) (k_Sh_hasWord hl2 (by omega) c1 c2) (by rw [hR]; decide) (fun v h' e => ?_) (fun E h' e => by cases e))
      cases e
      cases hb : hasW sw i (cnt i) w with
      | true =>
        refine t_Sh_isKnown_16_1 hX (by decide) (r_Sh_isKnown_20 hX hC (Or.inr rfl) (by decide) ?_)
        have ht : knW sw cnt n w = true := List.any_eq_true.mpr ⟨i, List.mem_range.mpr (by omega), hb⟩
        rw [ht]; rfl
      | false =>
        refine t_Sh_isKnown_16_2 hX rfl ?_
        rw [nI_1]
        refine ih (i + 1) (by omega) (fun j hj => ?_)
        by_cases hji : j = i
        · rw [hji]; exact hb
        · exact hN j (by omega)
  exact hloop n 0 (by omega) (fun j hj => absurd hj (Nat.not_lt_zero j))
theorem k_Sh_factsShared (hl : l.stackTraces = false) {r o c co : Nat} (hr : r < 32) (ho : o < 32) (hc : c ≤ 12) (hco : co ≤ 12) (hw : wc r = nI c) (hwo : wc o = nI co) : ab_K l M_Sh_factsShared (ab_r 2) (0, 0) [.ref 4, .int (nI r), .int (nI o)] (hf pd (sw, wc, sv, fy, ly, ro, ss, aw, dw) tr ru qu to al z) (fun q => q = (.inl (some (.int (nI (fwS sw r o co c + ffS sv r o 4)))), hf pd (sw, wc, sv, fy, ly, ro, ss, aw, dw) tr ru qu to al z)) := by
  refine e_Sh_factsShared hl (by decide) (fun X hl1 hR hX hC => ?_)
  have hl2 : (X.2.1).stackTraces = false := by rw [hl1]; exact hl
  have hb : vp_in (nI r) 32 := vp_in_nI hr (by omega)
  have hcl : (nI r).toNatClampNeg = r := nI_clamp (by omega)
  refine t_Sh_factsShared_0_1 hX ?_
  have hloop2 : ∀ k i : Nat, i + k = 4 → ∀ a : Nat, a = fwS sw r o co c + ffS sv r o i → ab_W X M_Sh_factsShared (43, [(0, .ref 4), (1, .int (nI r)), (2, .int (nI o)), (3, .int (nI a)), (4, .int (nI i))], [], hf pd (sw, wc, sv, fy, ly, ro, ss, aw, dw) tr ru qu to al z, 0, 0) := by
    intro k
    induction k with
    | zero =>
      intro i hi a ha
      have hi4 : i = 4 := by omega
      subst hi4
      subst ha
      exact t_Sh_factsShared_43_2 hX (nI_le (a := 4) (by omega) (by omega)) (r_Sh_factsShared_86 hX hC (by decide) rfl)
    | succ k ih =>
      intro i hi a ha
      obtain ⟨-, e2, e3⟩ := ab_j4 hr (show i < 4 by omega)
      obtain ⟨-, f2, f3⟩ := ab_j4 ho (show i < 4 by omega)
      refine t_Sh_factsShared_43_1 hX (nI_ge (b := 4) (by omega) (by omega)) (q_Sh_factsShared_53 hX (ab_conT hC) (k_Sh_valueOf hl2 e2) (by rw [hR]; decide) (fun v h' e => ?_) (fun E h' e => by cases e))
      cases e
      rw [e3]
      by_cases h1 : sv (r * 4 + i) = -1
      · refine t_Sh_factsShared_56_2 hX h1 (t_Sh_factsShared_79_1 hX ?_)
        rw [nI_1]
        exact ih (i + 1) (by omega) a (by rw [ha, ffS, if_neg (fun q => q.1 h1)]; rfl)
      · refine t_Sh_factsShared_56_1 hX h1 (q_Sh_factsShared_70 hX (ab_conT hC) (k_Sh_valueOf hl2 f2) (by rw [hR]; decide) (fun v h' e => ?_) (fun E h' e => by cases e))
        cases e
        rw [f3]
        by_cases h2 : sv (r * 4 + i) = sv (o * 4 + i)
        · refine t_Sh_factsShared_73_1 hX h2 (t_Sh_factsShared_79_1 hX ?_)
          rw [nI_1, nI_1]
          exact ih (i + 1) (by omega) (a + 1) (by rw [ha, ffS, if_pos ⟨h1, h2⟩]; rfl)
        · refine t_Sh_factsShared_73_2 hX h2 (t_Sh_factsShared_79_1 hX ?_)
          rw [nI_1]
          exact ih (i + 1) (by omega) a (by rw [ha, ffS, if_neg (fun q => h2 q.2)]; rfl)
  have hloop : ∀ k i : Nat, i + k = c → ∀ a : Nat, a = fwS sw r o co i → ab_W X M_Sh_factsShared (5, [(0, .ref 4), (1, .int (nI r)), (2, .int (nI o)), (3, .int (nI a)), (4, .int (nI i))], [], hf pd (sw, wc, sv, fy, ly, ro, ss, aw, dw) tr ru qu to al z, 0, 0) := by
    intro k
    induction k with
    | zero =>
      intro i hi a ha
      have hic : i = c := by omega
      subst hic
      subst ha
      exact t_Sh_factsShared_5_2 hX hb (by rw [hcl, hw]; exact nI_le (by omega) (by omega)) (hloop2 4 0 rfl _ rfl)
    | succ k ih =>
      intro i hi a ha
      obtain ⟨-, e2, e3⟩ := ab_i12 hr (show i < 12 by omega)
      refine t_Sh_factsShared_5_1 hX hb (by rw [hcl, hw]; exact nI_ge (by omega) (by omega)) (q_Sh_factsShared_22 hX (ab_conT hC) (k_Sh_wordOf hl2 e2) (by rw [hR]; decide) (fun v h' e => ?_) (fun E h' e => by cases e))
      cases e
      rw [e3]
      refine q_Sh_factsShared_25 hX (ab_conT hC) (k_Sh_hasWord hl2 ho hco hwo) (by rw [hR]; decide) (fun v h' e => ?_) (fun E h' e => by cases e)
      cases e
      cases hbw : hasW sw o co (sw (r * 12 + i)) with
      | true =>
        refine t_Sh_factsShared_28_1 hX (by decide) (t_Sh_factsShared_34_1 hX ?_)
        rw [nI_1, nI_1]
        exact ih (i + 1) (by omega) (a + 1) (by rw [ha, fwS, if_pos hbw])
      | false =>
        refine t_Sh_factsShared_28_2 hX rfl (t_Sh_factsShared_34_1 hX ?_)
        rw [nI_1]
        exact ih (i + 1) (by omega) a (by rw [ha, fwS, if_neg (by rw [hbw]; decide)]; rfl)
  exact hloop c 0 (by omega) 0 rfl
theorem k_Sh_addWord (hl : l.stackTraces = false) {n r : Nat} {cnt : Nat → Nat} (hn : n ≤ 32) (hs : ss = nI n) (hc : ∀ r, r < n → cnt r ≤ 12 ∧ wc r = nI (cnt r)) (hr : r < n) (hr12 : cnt r < 12) {w : Int64} : ab_K l M_Sh_addWord (ab_r 3) (0, 0) [.ref 4, .int (nI r), .long w] (hf pd (sw, wc, sv, fy, ly, ro, ss, aw, dw) tr ru qu to al z)
    (fun q => q = (.inl none, hf pd (insL (r * 12) w (cnt r) sw, upd wc r (nI (cnt r + 1)), sv, fy, ly, ro, ss, aw + 1, if knW sw cnt n w = true then dw else dw + 1) tr ru qu to al z)) := by
  refine e_Sh_addWord hl (by decide) (fun X hl1 hR hX hC => ?_)
  have hl2 : (X.2.1).stackTraces = false := by rw [hl1]; exact hl
  have hb : vp_in (nI r) 32 := vp_in_nI (by omega) (by omega)
  have hcl : (nI r).toNatClampNeg = r := nI_clamp (by omega)
  have hwr : wc r = nI (cnt r) := (hc r hr).2
  have e12 : nI r * 12 = nI (r * 12) := pk_mul r 12
  refine t_Sh_addWord_0_2 hX hb (by rw [hcl, hwr]; exact nI_lt (b := 12) hr12 (by omega)) (q_Sh_addWord_14 hX (ab_conT hC) (k_Sh_isKnown hl2 hn hs hc) (by rw [hR]; decide) (fun v h' e => ?_) (fun E h' e => by cases e))
  cases e
  obtain ⟨R9, hR9⟩ : ∃ R9, R9 = insL (r * 12) w (cnt r) sw := ⟨_, rfl⟩
  rw [← hR9] at hC
  have hloop : ∀ (D9 : Int32) (k : Nat) (s9 : Nat → Int64), k ≤ cnt r → insL (r * 12) w k s9 = R9 → D9 = (if knW sw cnt n w = true then dw else dw + 1) → ab_W X M_Sh_addWord (47, [(0, .ref 4), (1, .int (nI r)), (2, .long w), (4, .int (nI (r * 12))), (5, .int (nI (r * 12 + k)))], [], hf pd (s9, wc, sv, fy, ly, ro, ss, aw, D9) tr ru qu to al z, 0, 0) := by
    intro D9 k
    induction k with
    | zero =>
      intro s9 hk hN hD
      refine t_Sh_addWord_47_3 hX (nI_le (by omega) (by omega)) (t_Sh_addWord_90_1 hX (vp_in_nI (by omega) (by omega)) hb hb (r_Sh_addWord_118 hX hC (by decide) ?_))
      rw [← hN, ← hD, hcl, hwr, nI_1, nI_clamp (by omega)]
      rfl
    | succ k ih =>
      intro s9 hk hN hD
      have e1 : nI (r * 12 + (k + 1)) - 1 = nI (r * 12 + k) := nI_pred (r * 12 + k)
      have e2 : nI (r * 12 + (k + 1)) + (-1) = nI (r * 12 + k) := pk_m1 (r * 12 + k)
      have hin : vp_in (nI (r * 12 + (k + 1)) - 1) 384 := by rw [e1]; exact vp_in_nI (by omega) (by omega)
      have hin2 : vp_in (nI (r * 12 + (k + 1))) 384 := vp_in_nI (by omega) (by omega)
      have hcl1 : (nI (r * 12 + (k + 1)) - 1).toNatClampNeg = r * 12 + k := by rw [e1]; exact nI_clamp (by omega)
      have hcl2 : (nI (r * 12 + (k + 1))).toNatClampNeg = r * 12 + (k + 1) := nI_clamp (by omega)
      have hgt : ¬ nI (r * 12 + (k + 1)) ≤ nI (r * 12) := nI_ge (by omega) (by omega)
      unfold insL at hN
      by_cases h1 : w < s9 (r * 12 + k)
      · rw [if_pos h1] at hN
        refine t_Sh_addWord_47_1 hX hgt hin (by rw [hcl1, lg_cmp_le]; exact i64_nle.mpr h1) hin hin2 ?_
        rw [e2, hcl1, hcl2]
        exact ih _ (by omega) hN hD
      · rw [if_neg h1] at hN
        refine t_Sh_addWord_47_2 hX hgt hin (by rw [hcl1, lg_cmp_le]; exact Decidable.byContradiction (fun q => h1 (i64_nle.mp q))) (t_Sh_addWord_90_1 hX hin2 hb hb (r_Sh_addWord_118 hX hC (by decide) ?_))
        rw [← hN, ← hD, hcl, hcl2, hwr, nI_1]
  cases hkn : knW sw cnt n w with
  | true =>
    refine t_Sh_addWord_17_2 hX (by decide) (t_Sh_addWord_30_1 hX hb ?_)
    rw [hcl, hwr, e12, nI_add]
    exact hloop dw (cnt r) sw (Nat.le_refl _) hR9.symm (by rw [hkn]; rfl)
  | false =>
    refine t_Sh_addWord_17_1 hX rfl (t_Sh_addWord_30_1 hX hb ?_)
    rw [hcl, hwr, e12, nI_add]
    exact hloop (dw + 1) (cnt r) sw (Nat.le_refl _) hR9.symm (by rw [hkn]; rfl)
theorem k_Ra_put_h (hl : l.stackTraces = false) {k : Nat} (hk : k < 32) (hz0 : hz = nI k) {x y : Int32} : ab_K l M_Ra_put (ab_r 0) (0, 0) [.ref 23, .int x, .int y] (hf pd sh tr ru qu (hr, hp, hz, ts, vc, tt) al z) (fun q => q = (.inl none, hf pd sh tr ru qu ((insP x y k hr hp).1, (insP x y k hr hp).2, nI (k + 1), ts, vc, tt) al z)) := by
  refine e_Ra_put_h hl (by decide) (fun X hl1 hR hX hC => ?_)
  refine t_Ra_put_h_0_2 hX (by rw [hz0]; exact nI_lt (b := 32) hk (by omega)) ?_
  obtain ⟨R9, hR9⟩ : ∃ R9, R9 = insP x y k hr hp := ⟨_, rfl⟩
  rw [← hR9] at hC
  have hloop : ∀ (j : Nat) (a b : Nat → Int32), j ≤ k → insP x y j a b = R9 → ab_W X M_Ra_put (15, [(0, .ref 23), (1, .int x), (2, .int y), (3, .int (nI j))], [], hf pd sh tr ru qu (a, b, hz, ts, vc, tt) al z, 0, 0) := by
    intro j
    induction j with
    | zero =>
      intro a b hj hN
      have hin : vp_in (nI 0) 32 := vp_in_nI (by omega) (by omega)
      refine t_Ra_put_h_15_3 hX (nI_le (b := 0) (by omega) (by omega)) (t_Ra_put_h_65_1 hX hin hin (r_Ra_put_h_89 hX hC (by decide) ?_))
      rw [← hN, hz0, nI_1]
      rfl
    | succ j ih =>
      intro a b hj hN
      have e1 : nI (j + 1) - 1 = nI j := nI_pred j
      have e2 : nI (j + 1) + (-1) = nI j := pk_m1 j
      have hin : vp_in (nI (j + 1) - 1) 32 := by rw [e1]; exact vp_in_nI (by omega) (by omega)
      have hin2 : vp_in (nI (j + 1)) 32 := vp_in_nI (by omega) (by omega)
      have hcl1 : (nI (j + 1) - 1).toNatClampNeg = j := by rw [e1]; exact nI_clamp (by omega)
      have hcl2 : (nI (j + 1)).toNatClampNeg = j + 1 := nI_clamp (by omega)
      have hgt : ¬ nI (j + 1) ≤ 0 := nI_nle (by omega) (by omega)
      unfold insP at hN
      by_cases h1 : b j < y
      · rw [if_pos h1] at hN
        refine t_Ra_put_h_15_1 hX hgt hin (by rw [hcl1]; exact i32_nle.mpr h1) hin hin2 hin hin2 ?_
        rw [e2, hcl1, hcl2]
        exact ih _ _ (by omega) hN
      · rw [if_neg h1] at hN
        refine t_Ra_put_h_15_2 hX hgt hin (by rw [hcl1]; exact Decidable.byContradiction (fun q => h1 (i32_nle.mp q))) (t_Ra_put_h_65_1 hX hin2 hin2 (r_Ra_put_h_89 hX hC (by decide) ?_))
        rw [← hN, hz0, hcl2, nI_1]
  rw [hz0]
  have := hloop k hr hp (Nat.le_refl _) hR9.symm
  rw [hz0] at this
  exact this
end K5
