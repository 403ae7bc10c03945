/-! CONTRACTS OF THE REFERENCE: letter, like, count (a template: gen/tpl.py) -/
section M5
variable {l : Launch} {pd : gt_pd} {sh : gt_sh} {tr : gt_tr} {ru : gt_ru} {qu : gt_qu} {to : gt_to} {al : gt_al} {mt : gt_mt} {mp : gt_mp} {mr : gt_mr} {mq : gt_mq} {mo : gt_mo} {mx : gt_mx} {z : List ab_C} {ma ny nl nt nv np nf nu nh bk bf bs bd vr vs vp vo vx vn wt wo : Nat → Int32} {me mn nr br ba vt vh : Int32}
theorem k_Mo_isAhead (hl : l.stackTraces = false) {v w : Nat} {ln : Nat → Nat} (hv : lnOk nl ln v) (hw : lnOk nl ln w) : ab_K l M_Mo_isAhead (ab_r 0) (0, 0) [.ref 31, .int (nI v), .int (nI w)] (hf pd sh tr ru qu to al (hm mt mp (nr, ny, nl, nt, nv, np, nf, nu, nh) mq mo mx z)) (fun q => q = (.inl (some (.int (bI (isA nt ln v w)))), (hf pd sh tr ru qu to al (hm mt mp (nr, ny, nl, nt, nv, np, nf, nu, nh) mq mo mx z)))) := by
  refine e_Mo_isAhead hl (by decide) (fun X hl1 hR hX hC => ?_)
  obtain ⟨v1, v2, v3⟩ := hv
  obtain ⟨w1, w2, w3⟩ := hw
  have hinv : vp_in (nI v) 384 := vp_in_nI v1 (by omega)
  have hinw : vp_in (nI w) 384 := vp_in_nI w1 (by omega)
  have hclv : (nI v).toNatClampNeg = v := nI_clamp (by omega)
  have hclw : (nI w).toNatClampNeg = w := nI_clamp (by omega)
  obtain ⟨R9, hR9⟩ : ∃ R9, R9 = isA nt ln v w := ⟨_, rfl⟩
  rw [← hR9] at hC
  have hend : decide (ln v < ln w) = R9 → ab_W X M_Mo_isAhead (84, [(0, .ref 31), (1, .int (nI v)), (2, .int (nI w))], [], (hf pd sh tr ru qu to al (hm mt mp (nr, ny, nl, nt, nv, np, nf, nu, nh) mq mo mx z)), 0, 0) := by
    intro hN
    by_cases h : ln v < ln w
    · rw [decide_eq_true h] at hN
      subst hN
      exact t_Mo_isAhead_84_1 hX hinv hinw (by rw [hclv, hclw, v3, w3]; exact nI_ge h (by omega)) (r_Mo_isAhead_104 hX hC (Or.inr rfl) (by decide) rfl)
    · rw [decide_eq_false h] at hN
      subst hN
      exact t_Mo_isAhead_84_2 hX hinv hinw (by rw [hclv, hclw, v3, w3]; exact nI_le (by omega) (by omega)) (r_Mo_isAhead_104 hX hC (Or.inl rfl) (by decide) rfl)
  refine t_Mo_isAhead_0_1 hX ?_
  have hloop : ∀ k i : Nat, i + k = 10 → ahS nt ln v w k i = R9 → ab_W X M_Mo_isAhead (2, [(0, .ref 31), (1, .int (nI v)), (2, .int (nI w)), (3, .int (nI i))], [], (hf pd sh tr ru qu to al (hm mt mp (nr, ny, nl, nt, nv, np, nf, nu, nh) mq mo mx z)), 0, 0) := by
    intro k
    induction k with
    | zero =>
      intro i hi hN
      exact t_Mo_isAhead_2_5 hX hinv (by rw [hclv, v3]; exact nI_le (by omega) (by omega)) (hend hN)
    | succ k ih =>
      intro i hi hN
      rw [ahS] at hN
      by_cases h1 : i < ln v
      · have g1 : ¬ nl (nI v).toNatClampNeg ≤ nI i := by rw [hclv, v3]; exact nI_ge h1 (by omega)
        by_cases h2 : i < ln w
        · have g2 : ¬ nl (nI w).toNatClampNeg ≤ nI i := by rw [hclw, w3]; exact nI_ge h2 (by omega)
          rw [if_pos ⟨h1, h2⟩] at hN
          have e1 : (10 : Int32) * nI v + nI i = nI (10 * v + i) := ab_lin2 10 v i
          have e2 : (10 : Int32) * nI w + nI i = nI (10 * w + i) := ab_lin2 10 w i
          have i1 : vp_in ((10 : Int32) * nI v + nI i) 3840 := by rw [e1]; exact vp_in_nI (by omega) (by omega)
          have i2 : vp_in ((10 : Int32) * nI w + nI i) 3840 := by rw [e2]; exact vp_in_nI (by omega) (by omega)
          have c1 : ((10 : Int32) * nI v + nI i).toNatClampNeg = 10 * v + i := by rw [e1]; exact nI_clamp (by omega)
          have c2 : ((10 : Int32) * nI w + nI i).toNatClampNeg = 10 * w + i := by rw [e2]; exact nI_clamp (by omega)
          by_cases hq : nt (10 * v + i) = nt (10 * w + i)
          · rw [if_pos hq] at hN
            refine t_Mo_isAhead_2_3 hX hinv g1 hinw g2 i1 i2 (by rw [c1, c2]; exact hq) ?_
            rw [nI_1]
            exact ih (i + 1) (by omega) hN
          · rw [if_neg hq] at hN
            by_cases hlt : nt (10 * v + i) < nt (10 * w + i)
            · rw [decide_eq_true hlt] at hN
              subst hN
              exact t_Mo_isAhead_2_1 hX hinv g1 hinw g2 i1 i2 (by rw [c1, c2]; exact hq) i1 i2 (by rw [c1, c2]; exact i32_nle.mpr hlt) (r_Mo_isAhead_77 hX hC (Or.inr rfl) (by decide) rfl)
            · rw [decide_eq_false hlt] at hN
              subst hN
              exact t_Mo_isAhead_2_2 hX hinv g1 hinw g2 i1 i2 (by rw [c1, c2]; exact hq) i1 i2 (by rw [c1, c2]; exact Decidable.byContradiction (fun q => hlt (i32_nle.mp q))) (r_Mo_isAhead_77 hX hC (Or.inl rfl) (by decide) rfl)
        · rw [if_neg (fun q => h2 q.2)] at hN
          exact t_Mo_isAhead_2_4 hX hinv g1 hinw (by rw [hclw, w3]; exact nI_le (by omega) (by omega)) (hend hN)
      · rw [if_neg (fun q => h1 q.1)] at hN
        exact t_Mo_isAhead_2_5 hX hinv (by rw [hclv, v3]; exact nI_le (by omega) (by omega)) (hend hN)
  exact hloop 10 0 rfl hR9.symm
set_option maxHeartbeats 1000000 in
theorem k_Mo_letter (hl : l.stackTraces = false) {x1 x2 x3 : Int32} {n : Nat} {ln cnt : Nat → Nat} (hn : n ≤ 32) (hc : ∀ r, r < n → cnt r ≤ 12 ∧ ny r = nI (cnt r)) (hln : ∀ r, r < n → ∀ i, i < cnt r → lnOk nl ln (12 * r + i)) (hwd : ∀ r k, r < n → k < cnt r → lnOk nl ln (wdS nt ln r (cnt r) k (cnt r))) :
    ab_K l M_Mo_letter (ab_r 1) (0, 0) [.ref 31, .int x1, .int x2, .int x3] (hf pd sh tr ru qu to al (hm mt mp (nI n, ny, nl, nt, nv, np, nf, nu, nh) mq mo mx z))
      (fun q => q = if ((isR x1 n && isR x2 (cnt x1.toNatClampNeg)) && (decide (¬ x3 < -1) && decide (x3 < nI (ln (wdS nt ln x1.toNatClampNeg (cnt x1.toNatClampNeg) x2.toNatClampNeg (cnt x1.toNatClampNeg)))))) = true
        then (.inl (some (.int (if x3 = -1 then nI (ln (wdS nt ln x1.toNatClampNeg (cnt x1.toNatClampNeg) x2.toNatClampNeg (cnt x1.toNatClampNeg))) else nt (10 * wdS nt ln x1.toNatClampNeg (cnt x1.toNatClampNeg) x2.toNatClampNeg (cnt x1.toNatClampNeg) + x3.toNatClampNeg)))), (hf pd sh tr ru qu to al (hm 0 mp (nI n, ny, nl, nt, nv, np, nf, nu, nh) mq mo mx z)))
        else (.inl (some (.int 0)), (hf pd sh tr ru qu to al (hm 1 mp (nI n, ny, nl, nt, nv, np, nf, nu, nh) mq mo mx z)))) := by
  refine e_Mo_letter hl (by decide) (fun X hl1 hR hX hC => ?_)
  have hl2 : (X.2.1).stackTraces = false := by rw [hl1]; exact hl
  have hbad : ∀ x5 : Int32, ((isR x1 n && isR x2 (cnt x1.toNatClampNeg)) && (decide (¬ x3 < -1) && decide (x3 < nI (ln (wdS nt ln x1.toNatClampNeg (cnt x1.toNatClampNeg) x2.toNatClampNeg (cnt x1.toNatClampNeg)))))) = false → ab_W X M_Mo_letter (168, [(0, .ref 31), (3, .int x3), (5, .int x5)], [.ref 31], (hf pd sh tr ru qu to al (hm mt mp (nI n, ny, nl, nt, nv, np, nf, nu, nh) mq mo mx z)), 0, 0) := by
    intro x5 hb
    rw [hb, if_neg (by decide)] at hC
    refine t_Mo_letter_168_1 hX (t_Mo_letter_169_1 hX (q_Mo_letter_171 hX (ab_conT hC) (k_Mo_goes (a := false) (b := true) (c := true) hl2) (by rw [hR]; decide) (fun v h' e => ?_) (fun E h' e => by first | (cases e; done) | (split at e <;> cases e))))
    cases e
    exact t_Mo_letter_174_1 hX rfl (r_Mo_letter_178 hX hC (by decide) rfl)
  have hunk : (isR x1 n && isR x2 (cnt x1.toNatClampNeg)) = false → ab_W X M_Mo_letter (26, [(0, .ref 31), (1, .int x1), (2, .int x2), (3, .int x3)], [], (hf pd sh tr ru qu to al (hm mt mp (nI n, ny, nl, nt, nv, np, nf, nu, nh) mq mo mx z)), 0, 0) := by
    intro hb
    exact t_Mo_letter_26_1 hX (t_Mo_letter_27_2 hX rfl (t_Mo_letter_44_1 hX (t_Mo_letter_47_3 hX rfl (t_Mo_letter_142_4 hX rfl (hbad _ (by rw [hb, Bool.false_and]))))))
  refine t_Mo_letter_0_1 hX (q_Mo_letter_2 hX (ab_conT hC) (k_Mo_isRecord hl2) (by rw [hR]; decide) (fun v h' e => ?_) (fun E h' e => by first | (cases e; done) | (split at e <;> cases e)))
  cases e
  cases h1 : isR x1 n with
  | false => exact t_Mo_letter_5_4 hX rfl (hunk (by rw [h1]; rfl))
  | true =>
    obtain ⟨k3, k4⟩ := ab_and h1
    obtain ⟨r, hr, rfl⟩ := ab_ofI (of_decide_eq_true k3) (of_decide_eq_true k4) (by omega)
    obtain ⟨c1, c2⟩ := hc r hr
    have hin : vp_in (nI r) 32 := vp_in_nI (by omega) (by omega)
    have hcl : (nI r).toNatClampNeg = r := nI_clamp (by omega)
    have e12 : (12 : Int32) * nI r = nI (12 * r) := ab_mul2 12 r
    by_cases h2 : x2 < 0
    · exact t_Mo_letter_5_3 hX (by decide) h2 (hunk (by unfold isR; rw [decide_eq_false (p := ¬ x2 < 0) (fun q => q h2), Bool.false_and, Bool.and_false]))
    · by_cases h3 : x2 < nI (cnt r)
      · obtain ⟨kk, hkk, rfl⟩ := ab_ofI h2 h3 (by omega)
        have hkn : (isR (nI r) n && isR (nI kk) (cnt (nI r).toNatClampNeg)) = true := by
          rw [h1, hcl]
          unfold isR
          rw [decide_eq_true h2, decide_eq_true h3]
          rfl
        have hclk : (nI kk).toNatClampNeg = kk := nI_clamp (by omega)
        rw [hkn, Bool.true_and] at hC hbad
        rw [hcl, hclk] at hC hbad
        obtain ⟨w1, w2, w3⟩ := hwd r kk hr hkk
        refine t_Mo_letter_5_1 hX (by decide) h2 hin (by rw [hcl, c2]; exact i32_nle.mpr h3) (t_Mo_letter_27_1 hX (by decide) (t_Mo_letter_44_1 hX ?_))
        rw [e12]
        obtain ⟨W, hW⟩ : ∃ W, W = wdS nt ln r (cnt r) kk (cnt r) := ⟨_, rfl⟩
        rw [← hW] at hC hbad w1 w2 w3
        have hend : ab_W X M_Mo_letter (142, [(0, .ref 31), (3, .int x3), (4, .int 1), (5, .int (nI W))], [], (hf pd sh tr ru qu to al (hm mt mp (nI n, ny, nl, nt, nv, np, nf, nu, nh) mq mo mx z)), 0, 0) := by
          have hinW : vp_in (nI W) 384 := vp_in_nI w1 (by omega)
          have hclW : (nI W).toNatClampNeg = W := nI_clamp (by omega)
          by_cases h5 : x3 < -1
          · exact t_Mo_letter_142_3 hX (by decide) h5 (hbad _ (by rw [decide_eq_false (p := ¬ x3 < -1) (fun q => q h5), Bool.false_and]))
          · by_cases h6 : x3 < nI (ln W)
            · rw [decide_eq_true h5, decide_eq_true h6, if_pos (show (true && true) = true from rfl)] at hC
              refine t_Mo_letter_142_1 hX (by decide) h5 hinW (by rw [hclW, w3]; exact i32_nle.mpr h6) (t_Mo_letter_169_1 hX (q_Mo_letter_171 hX (ab_conT hC) (k_Mo_goes (a := true) (b := true) (c := true) hl2) (by rw [hR]; decide) (fun v h' e => ?_) (fun E h' e => by first | (cases e; done) | (split at e <;> cases e))))
              cases e
              by_cases h7 : x3 = -1
              · rw [if_pos h7] at hC
                refine t_Mo_letter_174_2 hX (by decide) h7 hinW (r_Mo_letter_206 hX hC (by decide) ?_)
                rw [hclW, w3]
                rfl
              · rw [if_neg h7] at hC
                have h8 : ¬ x3 < 0 := fun q => h7 (by
                  apply Int32.toInt_inj.mp
                  rw [Int32.lt_iff_toInt_lt] at q h5
                  have e0 : (0 : Int32).toInt = 0 := rfl
                  have e1 : (-1 : Int32).toInt = -1 := rfl
                  omega)
                obtain ⟨j, hj, rfl⟩ := ab_ofI h8 h6 (by omega)
                have e10 : (10 : Int32) * nI W + nI j = nI (10 * W + j) := ab_lin2 10 W j
                refine t_Mo_letter_174_3 hX (by decide) h7 (by rw [e10]; exact vp_in_nI (by omega) (by omega)) (r_Mo_letter_206 hX hC (by decide) ?_)
                rw [e10, nI_clamp (show 10 * W + j < 2 ^ 31 by omega), nI_clamp (show j < 2 ^ 31 by omega)]
                rfl
            · exact t_Mo_letter_142_2 hX (by decide) h5 hinW (by rw [hclW, w3]; exact Decidable.byContradiction (fun q => h6 (i32_nle.mp q))) (hbad _ (by rw [decide_eq_false h6, Bool.and_false]))
        have hloop : ∀ k i : Nat, i + k = cnt r → ab_W X M_Mo_letter (47, [(0, .ref 31), (1, .int (nI r)), (2, .int (nI kk)), (3, .int x3), (4, .int 1), (5, .int (nI (wdS nt ln r (cnt r) kk i))), (6, .int (nI (12 * r + i)))], [], (hf pd sh tr ru qu to al (hm mt mp (nI n, ny, nl, nt, nv, np, nf, nu, nh) mq mo mx z)), 0, 0) := by
          intro k
          induction k with
          | zero =>
            intro i hi
            have e : i = cnt r := by omega
            subst e
            rw [← hW]
            exact t_Mo_letter_47_2 hX (by decide) hin (by rw [hcl, c2, e12, nI_add]; exact nI_le (Nat.le_refl _) (by omega)) hend
          | succ k ih =>
            intro i hi
            have h9 := ih (i + 1) (by omega)
            have hlt : ¬ (12 : Int32) * nI r + ny (nI r).toNatClampNeg ≤ nI (12 * r + i) := by rw [hcl, c2, e12, nI_add]; exact nI_ge (by omega) (by omega)
            refine t_Mo_letter_47_1 hX (by decide) hin hlt ?_
            rw [e12]
            have hinner : ∀ k2 j : Nat, j + k2 = cnt r → ab_W X M_Mo_letter (77, [(0, .ref 31), (1, .int (nI r)), (2, .int (nI kk)), (3, .int x3), (4, .int 1), (5, .int (nI (wdS nt ln r (cnt r) kk i))), (6, .int (nI (12 * r + i))), (7, .int (nI (bfS nt ln r (12 * r + i) j))), (8, .int (nI (12 * r + j)))], [], (hf pd sh tr ru qu to al (hm mt mp (nI n, ny, nl, nt, nv, np, nf, nu, nh) mq mo mx z)), 0, 0) := by
              intro k2
              induction k2 with
              | zero =>
                intro j hj
                have e : j = cnt r := by omega
                subst e
                have hle : (12 : Int32) * nI r + ny (nI r).toNatClampNeg ≤ nI (12 * r + cnt r) := by rw [hcl, c2, e12, nI_add]; exact nI_le (Nat.le_refl _) (by omega)
                have hb12 := bfS_le nt ln r (12 * r + i) (cnt r)
                rw [wdS] at h9
                by_cases hq : bfS nt ln r (12 * r + i) (cnt r) = kk
                · rw [if_pos hq] at h9
                  refine t_Mo_letter_77_2 hX hin hle (by rw [hq]) (t_Mo_letter_134_1 hX ?_)
                  rw [nI_1]
                  exact h9
                · rw [if_neg hq] at h9
                  refine t_Mo_letter_77_3 hX hin hle (fun q => hq ((nI_eq (by omega) (by omega)).mp q)) (t_Mo_letter_134_1 hX ?_)
                  rw [nI_1]
                  exact h9
              | succ k2 ih2 =>
                intro j hj
                have h8 := ih2 (j + 1) (by omega)
                have hltj : ¬ (12 : Int32) * nI r + ny (nI r).toNatClampNeg ≤ nI (12 * r + j) := by rw [hcl, c2, e12, nI_add]; exact nI_ge (by omega) (by omega)
                refine t_Mo_letter_77_1 hX hin hltj (q_Mo_letter_98 hX (ab_conT hC) (k_Mo_isAhead hl2 (hln r hr j (by omega)) (hln r hr i (by omega))) (by rw [hR]; decide) (fun v h' e => ?_) (fun E h' e => by first | (cases e; done) | (split at e <;> cases e)))
                cases e
                cases hs : isA nt ln (12 * r + j) (12 * r + i) with
                | true =>
                  rw [bfS, if_pos hs] at h8
                  refine t_Mo_letter_101_1 hX (by decide) (t_Mo_letter_113_1 hX ?_)
                  rw [nI_1, nI_1]
                  exact h8
                | false =>
                  rw [bfS, if_neg (by rw [hs]; decide)] at h8
                  refine t_Mo_letter_101_2 hX rfl (t_Mo_letter_113_1 hX ?_)
                  rw [nI_1]
                  exact h8
            exact hinner (cnt r) 0 (by omega)
        exact hloop (cnt r) 0 (by omega)
      · refine t_Mo_letter_5_2 hX (by decide) h2 hin (by rw [hcl, c2]; exact Decidable.byContradiction (fun q => h3 (i32_nle.mp q))) (hunk ?_)
        rw [hcl]
        unfold isR
        rw [decide_eq_false (p := x2 < nI (cnt r)) h3, Bool.and_false, Bool.and_false]
theorem en_len (F : Nat → Option Nat) (b : Nat) : ∀ n, (en F b n).length ≤ n
  | 0 => Nat.le_refl _
  | n + 1 => by
    have := en_len F b n
    unfold en
    rw [List.length_append]
    split
    · show _ + 1 ≤ _; omega
    · show _ + 0 ≤ _; omega
theorem enA_len (F : Nat → Option Nat) (n B : Nat) : ∀ k, (enA F n B k).length ≤ k * n
  | 0 => by rw [Nat.zero_mul]; exact Nat.le_refl _
  | k + 1 => by
    have h1 := enA_len F n B k
    have h2 := en_len F (B - k) n
    unfold enA
    rw [List.length_append, Nat.succ_mul]
    omega
theorem en_pre (F : Nat → Option Nat) (b : Nat) {o n : Nat} (h : o ≤ n) : ∃ T, en F b n = en F b o ++ T := by
  induction h with
  | refl => exact ⟨[], (List.append_nil _).symm⟩
  | step _ ih =>
    obtain ⟨T, hT⟩ := ih
    exact ⟨T ++ _, by rw [en, hT, List.append_assoc]⟩
theorem enA_pre (F : Nat → Option Nat) (n B : Nat) {o k : Nat} (h : o ≤ k) : ∃ T, enA F n B k = enA F n B o ++ T := by
  induction h with
  | refl => exact ⟨[], (List.append_nil _).symm⟩
  | step _ ih =>
    obtain ⟨T, hT⟩ := ih
    exact ⟨T ++ _, by rw [enA, hT, List.append_assoc]⟩
def shF (nt nv : Nat → Int32) (ln cnt : Nat → Nat) (r o : Nat) : Option Nat := if o = r then none else some (sh2 nt ln r o (cnt o) (cnt r) + ffS nv r o 4)
def lkV (L : List Nat) (k : Nat) : Int32 := match L[k]? with
  | none => -1
  | some o => nI o
set_option maxHeartbeats 1000000 in
theorem k_Mo_like (hl : l.stackTraces = false) {x1 x2 : Int32} {n : Nat} {ln cnt : Nat → Nat} (hn : n ≤ 32) (hc : ∀ r, r < n → cnt r ≤ 12 ∧ ny r = nI (cnt r)) (hln : ∀ r, r < n → ∀ i, i < cnt r → lnOk nl ln (12 * r + i)) : ab_K l M_Mo_like (ab_r 2) (0, 0) [.ref 31, .int x1, .int x2] (hf pd sh tr ru qu to al (hm mt mp (nI n, ny, nl, nt, nv, np, nf, nu, nh) mq mo mx z))
    (fun q => q = if (isR x1 n && decide (¬ x2 < 0)) = true then (.inl (some (.int (lkV (enA (shF nt nv ln cnt x1.toNatClampNeg) n 16 16) x2.toNatClampNeg))), (hf pd sh tr ru qu to al (hm 0 mp (nI n, ny, nl, nt, nv, np, nf, nu, nh) mq mo mx z))) else (.inl (some (.int 0)), (hf pd sh tr ru qu to al (hm 1 mp (nI n, ny, nl, nt, nv, np, nf, nu, nh) mq mo mx z)))) := by
  refine e_Mo_like hl (by decide) (fun X hl1 hR hX hC => ?_)
  have hl2 : (X.2.1).stackTraces = false := by rw [hl1]; exact hl
  have hgo : ∀ B : Bool, B = (isR x1 n && decide (¬ x2 < 0)) → ab_W X M_Mo_like (18, [(0, .ref 31), (1, .int x1), (2, .int x2)], [.int (bI B), .ref 31], (hf pd sh tr ru qu to al (hm mt mp (nI n, ny, nl, nt, nv, np, nf, nu, nh) mq mo mx z)), 0, 0) := by
    intro B hB
    refine t_Mo_like_18_1 hX (q_Mo_like_20 hX (ab_conT hC) (k_Mo_goes (b := true) (c := true) hl2) (by rw [hR]; decide) (fun v h' e => ?_) (fun E h' e => by first | (cases e; done) | (split at e <;> cases e)))
    cases e
    rw [← hB] at hC
    cases B with
    | false =>
      rw [if_neg (by decide)] at hC
      exact t_Mo_like_23_1 hX rfl (r_Mo_like_27 hX hC (by decide) rfl)
    | true =>
      rw [if_pos rfl] at hC
      obtain ⟨k1, k2⟩ := ab_and hB.symm
      obtain ⟨k3, k4⟩ := ab_and k1
      obtain ⟨r, hr, rfl⟩ := ab_ofI (of_decide_eq_true k3) (of_decide_eq_true k4) (by omega)
      obtain ⟨K, hK, rfl⟩ := nI_of (of_decide_eq_true k2)
      rw [nI_clamp (show r < 2 ^ 31 by omega), nI_clamp hK] at hC
      obtain ⟨F, hF⟩ : ∃ F, F = shF nt nv ln cnt r := ⟨_, rfl⟩
      obtain ⟨R9, hR9⟩ : ∃ R9, R9 = enA F n 16 16 := ⟨_, rfl⟩
      rw [← hF, ← hR9] at hC
      refine t_Mo_like_23_2 hX (by decide) ?_
      have hFb : ∀ o, o < n → ∀ x, F o = some x → x ≤ 148 := by
        intro o ho x hx
        rw [hF] at hx
        unfold shF at hx
        split at hx
        · cases hx
        · cases hx
          have h1 := sh2_le nt ln r o (hc o ho).1 (cnt r)
          have h2 := ffS_le nv r o 4
          have h3 := (hc r hr).1
          omega
      have hloop : ∀ k b : Nat, b + k = 16 → ¬ K < (enA F n 16 b).length → ab_W X M_Mo_like (34, [(0, .ref 31), (1, .int (nI r)), (2, .int (nI K)), (3, .int (nI (enA F n 16 b).length)), (4, .int (nI (16 - b)))], [], (hf pd sh tr ru qu to al (hm 0 mp (nI n, ny, nl, nt, nv, np, nf, nu, nh) mq mo mx z)), 0, 0) := by
        intro k
        induction k with
        | zero =>
          intro b hb hK2
          have e : b = 16 := by omega
          subst e
          have hv : lkV R9 K = -1 := by
            unfold lkV
            rw [hR9, List.getElem?_eq_none (by omega)]
          rw [hv] at hC
          exact t_Mo_like_34_2 hX (by decide) (r_Mo_like_93 hX hC (by decide) rfl)
        | succ k ih =>
          intro b hb hK2
          obtain ⟨T1, hT1⟩ := enA_pre F n 16 (show b + 1 ≤ 16 by omega)
          rw [← hR9] at hT1
          refine t_Mo_like_34_1 hX (nI_nle (by omega) (by omega)) ?_
          have hlenA := enA_len F n 16 b
          have hbn : b * n ≤ 16 * 32 := Nat.mul_le_mul (by omega) hn
          have hinner : ∀ j o : Nat, o + j = n → ¬ K < (enA F n 16 b ++ en F (16 - b) o).length → ab_W X M_Mo_like (42, [(0, .ref 31), (1, .int (nI r)), (2, .int (nI K)), (3, .int (nI (enA F n 16 b ++ en F (16 - b) o).length)), (4, .int (nI (16 - b))), (5, .int (nI o))], [], (hf pd sh tr ru qu to al (hm 0 mp (nI n, ny, nl, nt, nv, np, nf, nu, nh) mq mo mx z)), 0, 0) := by
            intro j
            induction j with
            | zero =>
              intro o ho hK3
              have e : o = n := by omega
              subst e
              refine t_Mo_like_42_3 hX (nI_le (Nat.le_refl _) (by omega)) ?_
              rw [show 16 - b = (16 - (b + 1)) + 1 by omega, pk_m1]
              rw [show (16 - (b + 1)) + 1 = 16 - b by omega]
              exact ih (b + 1) (by omega) hK3
            | succ j ih2 =>
              intro o ho hK3
              have hlt : ¬ nI n ≤ nI o := nI_ge (by omega) (by omega)
              have hlenE := en_len F (16 - b) o
              have hlen : (enA F n 16 b ++ en F (16 - b) o).length ≤ 16 * 32 + 32 := by rw [List.length_append]; omega
              have hskip : ¬ F o = some (16 - b) → ab_W X M_Mo_like (80, [(0, .ref 31), (1, .int (nI r)), (2, .int (nI K)), (3, .int (nI (enA F n 16 b ++ en F (16 - b) o).length)), (4, .int (nI (16 - b))), (5, .int (nI o))], [], (hf pd sh tr ru qu to al (hm 0 mp (nI n, ny, nl, nt, nv, np, nf, nu, nh) mq mo mx z)), 0, 0) := by
                intro hq
                have e : en F (16 - b) (o + 1) = en F (16 - b) o := by rw [en, if_neg hq, List.append_nil]
                have h9 := ih2 (o + 1) (by omega) (by rw [e]; exact hK3)
                rw [e] at h9
                refine t_Mo_like_80_1 hX ?_
                rw [nI_1]
                exact h9
              by_cases hor : o = r
              · exact t_Mo_like_42_2 hX hlt (by rw [hor]) (hskip (by rw [hF]; unfold shF; rw [if_pos hor]; exact fun q => by cases q))
              · have hFo : F o = some (sh2 nt ln r o (cnt o) (cnt r) + ffS nv r o 4) := by rw [hF]; unfold shF; rw [if_neg hor]
                have hx := hFb o (by omega) _ hFo
                refine t_Mo_like_42_1 hX hlt (fun q => hor ((nI_eq (by omega) (by omega)).mp q)) (q_Mo_like_61 hX (ab_conT hC) (k_Mo_shared hl2 hn hr (show o < n by omega) hc hln) (by rw [hR]; decide) (fun v h' e => ?_) (fun E h' e => by first | (cases e; done) | (split at e <;> cases e)))
                cases e
                generalize sh2 nt ln r o (cnt o) (cnt r) + ffS nv r o 4 = x at hFo hx ⊢
                by_cases hxb : x = 16 - b
                · have e : en F (16 - b) (o + 1) = en F (16 - b) o ++ [o] := by rw [en, if_pos (by rw [hFo, hxb])]
                  have e2 : enA F n 16 b ++ en F (16 - b) (o + 1) = (enA F n 16 b ++ en F (16 - b) o) ++ [o] := by rw [e, List.append_assoc]
                  by_cases hKe : (enA F n 16 b ++ en F (16 - b) o).length = K
                  · have hv : lkV R9 K = nI o := by
                      obtain ⟨T2, hT2⟩ := en_pre F (16 - b) (show o + 1 ≤ n by omega)
                      have e3 : R9 = (enA F n 16 b ++ en F (16 - b) o) ++ o :: (T2 ++ T1) := by
                        rw [hT1]
                        show enA F n 16 b ++ en F (16 - b) n ++ T1 = _
                        rw [hT2, ← List.append_assoc, e2]
                        simp only [List.append_assoc, List.cons_append, List.nil_append]
                      unfold lkV
                      rw [e3, List.getElem?_append_right (by omega), hKe, Nat.sub_self]
                      rfl
                    rw [hv] at hC
                    exact t_Mo_like_64_1 hX (by rw [hxb]) (by rw [hKe]) (r_Mo_like_76 hX hC (by decide) rfl)
                  · have hlen2 : (enA F n 16 b ++ en F (16 - b) (o + 1)).length = (enA F n 16 b ++ en F (16 - b) o).length + 1 := by rw [e2, List.length_append]; rfl
                    have h9 := ih2 (o + 1) (by omega) (by rw [hlen2]; omega)
                    rw [hlen2] at h9
                    refine t_Mo_like_64_2 hX (by rw [hxb]) (fun q => hKe ((nI_eq (by omega) hK).mp q)) (t_Mo_like_80_1 hX ?_)
                    rw [nI_1, nI_1]
                    exact h9
                · exact t_Mo_like_64_3 hX (fun q => hxb ((nI_eq (by omega) (by omega)).mp q)) (hskip (fun q => by rw [hFo] at q; cases q; exact hxb rfl))
          have h9 := hinner n 0 (by omega) (by rw [show enA F n 16 b ++ en F (16 - b) 0 = enA F n 16 b from List.append_nil _]; exact hK2)
          rw [show enA F n 16 b ++ en F (16 - b) 0 = enA F n 16 b from List.append_nil _] at h9
          exact h9
      exact hloop 16 0 rfl (Nat.not_lt_zero K)
  have hno : (isR x1 n && decide (¬ x2 < 0)) = false → ab_W X M_Mo_like (17, [(0, .ref 31), (1, .int x1), (2, .int x2)], [.ref 31], (hf pd sh tr ru qu to al (hm mt mp (nI n, ny, nl, nt, nv, np, nf, nu, nh) mq mo mx z)), 0, 0) := fun h => t_Mo_like_17_1 hX (hgo false h.symm)
  refine t_Mo_like_0_1 hX (q_Mo_like_3 hX (ab_conT hC) (k_Mo_isRecord hl2) (by rw [hR]; decide) (fun v h' e => ?_) (fun E h' e => by first | (cases e; done) | (split at e <;> cases e)))
  cases e
  cases h1 : isR x1 n with
  | false => exact t_Mo_like_6_3 hX rfl (hno (by rw [h1]; rfl))
  | true =>
    by_cases h2 : x2 < 0
    · exact t_Mo_like_6_2 hX (by decide) h2 (hno (by rw [decide_eq_false (fun q => q h2), Bool.and_false]))
    · exact t_Mo_like_6_1 hX (by decide) h2 (hgo true (by rw [h1, decide_eq_true h2]; rfl))
set_option maxHeartbeats 1000000 in
theorem k_Mo_different (hl : l.stackTraces = false) {n : Nat} {ln cnt : Nat → Nat} (hn : n ≤ 32) (hc : ∀ r, r < n → cnt r ≤ 12 ∧ ny r = nI (cnt r)) (hln : ∀ r, r < n → ∀ i, i < cnt r → lnOk nl ln (12 * r + i)) : ab_K l M_Mo_different (ab_r 1) (0, 0) [.ref 31] (hf pd sh tr ru qu to al (hm mt mp (nI n, ny, nl, nt, nv, np, nf, nu, nh) mq mo mx z)) (fun q => q = (.inl (some (.int (nI (dfS nt ln cnt (12 * n))))), (hf pd sh tr ru qu to al (hm mt mp (nI n, ny, nl, nt, nv, np, nf, nu, nh) mq mo mx z)))) := by
  refine e_Mo_different hl (by decide) (fun X hl1 hR hX hC => ?_)
  have hl2 : (X.2.1).stackTraces = false := by rw [hl1]; exact hl
  have e12 : (12 : Int32) * nI n = nI (12 * n) := ab_mul2 12 n
  have hdiv : ∀ w : Nat, w < 12 * n → nI w / 12 = nI (w / 12) ∧ nI w - nI w / 12 * 12 = nI (w % 12) ∧ w / 12 < n ∧ vp_in (nI w / 12) 32 ∧ (nI w / 12).toNatClampNeg = w / 12 := by
    intro w hw
    have h1 : nI w / 12 = nI (w / 12) := pk_div (d := 12) (by omega) (by omega) (by omega)
    exact ⟨h1, pk_rem (d := 12) (by omega) (by omega) (by omega), by omega, by rw [h1]; exact vp_in_nI (by omega) (by omega), by rw [h1]; exact nI_clamp (by omega)⟩
  have huse : ∀ w : Nat, w < 12 * n → useW cnt w = true → lnOk nl ln w := by
    intro w hw hu
    have h1 := hln (w / 12) (by omega) (w % 12) (of_decide_eq_true hu)
    rw [show 12 * (w / 12) + w % 12 = w by omega] at h1
    exact h1
  refine t_Mo_different_0_1 hX ?_
  have hloop : ∀ k w : Nat, w + k = 12 * n → ab_W X M_Mo_different (4, [(0, .ref 31), (1, .int (nI (dfS nt ln cnt w))), (2, .int (nI w))], [], (hf pd sh tr ru qu to al (hm mt mp (nI n, ny, nl, nt, nv, np, nf, nu, nh) mq mo mx z)), 0, 0) := by
    intro k
    induction k with
    | zero =>
      intro w hw
      have e : w = 12 * n := by omega
      subst e
      exact t_Mo_different_4_3 hX (by rw [e12]; exact nI_le (Nat.le_refl _) (by omega)) (r_Mo_different_109 hX hC (by decide) rfl)
    | succ k ih =>
      intro w hw
      have h9 := ih (w + 1) (by omega)
      have hlt : ¬ (12 : Int32) * nI n ≤ nI w := by rw [e12]; exact nI_ge (by omega) (by omega)
      obtain ⟨d1, d2, d3, d4, d5⟩ := hdiv w (by omega)
      obtain ⟨c1, c2⟩ := hc (w / 12) d3
      have h90 : ∀ F : Bool, F = fsS nt ln cnt w (useW cnt w) w → ab_W X M_Mo_different (90, [(0, .ref 31), (1, .int (nI (dfS nt ln cnt w))), (2, .int (nI w)), (3, .int (bI F))], [], (hf pd sh tr ru qu to al (hm mt mp (nI n, ny, nl, nt, nv, np, nf, nu, nh) mq mo mx z)), 0, 0) := by
        intro F hF
        cases F with
        | true =>
          rw [dfS, if_pos hF.symm] at h9
          refine t_Mo_different_90_1 hX (by decide) (t_Mo_different_101_1 hX ?_)
          rw [nI_1, nI_1]
          exact h9
        | false =>
          rw [dfS, if_neg (by rw [← hF]; decide)] at h9
          refine t_Mo_different_90_2 hX rfl (t_Mo_different_101_1 hX ?_)
          rw [nI_1]
          exact h9
      have hinner : ∀ k2 v : Nat, v + k2 = w → ab_W X M_Mo_different (40, [(0, .ref 31), (1, .int (nI (dfS nt ln cnt w))), (2, .int (nI w)), (3, .int (bI (fsS nt ln cnt w (useW cnt w) v))), (4, .int (nI v))], [], (hf pd sh tr ru qu to al (hm mt mp (nI n, ny, nl, nt, nv, np, nf, nu, nh) mq mo mx z)), 0, 0) := by
        intro k2
        induction k2 with
        | zero =>
          intro v hv
          have e : v = w := by omega
          rw [e]
          exact t_Mo_different_40_4 hX (nI_le (Nat.le_refl _) (by omega)) (h90 _ rfl)
        | succ k2 ih2 =>
          intro v hv
          have h8 := ih2 (v + 1) (by omega)
          have hltv : ¬ nI w ≤ nI v := nI_ge (by omega) (by omega)
          cases hs : fsS nt ln cnt w (useW cnt w) v with
          | false =>
            refine t_Mo_different_40_3 hX hltv rfl (h90 false ?_)
            have h7 := fsS_f hs (w - v)
            rw [show v + (w - v) = w by omega] at h7
            exact h7.symm
          | true =>
            obtain ⟨b1, b2, b3, b4, b5⟩ := hdiv v (by omega)
            obtain ⟨g1, g2⟩ := hc (v / 12) b3
            have huw : useW cnt w = true := by
              cases hu : useW cnt w with
              | true => rfl
              | false =>
                have h7 := fsS_f (nt := nt) (ln := ln) (cnt := cnt) (w := w) (b := useW cnt w) (j := 0) hu v
                rw [Nat.zero_add, hs] at h7
                cases h7
            have h83 : ∀ F : Bool, F = fsS nt ln cnt w (useW cnt w) (v + 1) → ab_W X M_Mo_different (83, [(0, .ref 31), (1, .int (nI (dfS nt ln cnt w))), (2, .int (nI w)), (4, .int (nI v))], [.int (bI F)], (hf pd sh tr ru qu to al (hm mt mp (nI n, ny, nl, nt, nv, np, nf, nu, nh) mq mo mx z)), 0, 0) := by
              intro F hF
              refine t_Mo_different_83_1 hX ?_
              rw [hF, nI_1]
              exact h8
            by_cases hu : v % 12 < cnt (v / 12)
            · have huv : useW cnt v = true := decide_eq_true hu
              refine t_Mo_different_40_1 hX hltv (by decide) (by decide) (by decide) b4 (by rw [b5, g2, b2]; exact nI_ge hu (by omega)) (q_Mo_different_72 hX (ab_conT hC) (k_Mo_isSame hl2 (huse v (by omega) huv) (huse w (by omega) huw)) (by rw [hR]; decide) (fun v h' e => ?_) (fun E h' e => by first | (cases e; done) | (split at e <;> cases e)))
              cases e
              cases hsm : isS nt ln v w with
              | true => exact t_Mo_different_75_2 hX (by decide) (h83 false (by rw [fsS, hs, huv, hsm]; rfl))
              | false => exact t_Mo_different_75_1 hX rfl (t_Mo_different_78_1 hX (h83 true (by rw [fsS, hs, huv, hsm]; rfl)))
            · have huv : useW cnt v = false := decide_eq_false hu
              exact t_Mo_different_40_2 hX hltv (by decide) (by decide) (by decide) b4 (by rw [b5, g2, b2]; exact nI_le (by omega) (by omega)) (t_Mo_different_78_1 hX (h83 true (by rw [fsS, hs, huv]; rfl)))
      have h0 := hinner w 0 (by omega)
      by_cases hu : w % 12 < cnt (w / 12)
      · have huw : useW cnt w = true := decide_eq_true hu
        rw [show fsS nt ln cnt w (useW cnt w) 0 = true from huw] at h0
        exact t_Mo_different_4_1 hX hlt (by decide) (by decide) d4 (by rw [d5, c2, d2]; exact nI_ge hu (by omega)) (t_Mo_different_36_1 hX h0)
      · have huw : useW cnt w = false := decide_eq_false hu
        rw [show fsS nt ln cnt w (useW cnt w) 0 = false from huw] at h0
        exact t_Mo_different_4_2 hX hlt (by decide) (by decide) d4 (by rw [d5, c2, d2]; exact nI_le (by omega) (by omega)) (t_Mo_different_36_1 hX h0)
  exact hloop (12 * n) 0 (by omega)
set_option maxHeartbeats 1000000 in
theorem k_Mo_count (hl : l.stackTraces = false) {x : Int32} {n : Nat} {ln cnt : Nat → Nat} (hn : n ≤ 32) (hc : ∀ r, r < n → cnt r ≤ 12 ∧ ny r = nI (cnt r)) (hln : ∀ r, r < n → ∀ i, i < cnt r → lnOk nl ln (12 * r + i)) : ab_K l M_Mo_count (ab_r 2) (0, 0) [.ref 31, .int x] (hf pd sh tr ru qu to al (hm mt (ma, mn) (nI n, ny, nl, nt, nv, np, nf, nu, nh) mq (vt, vh, vr, vs, vp, vo, vx, vn) mx z))
    (fun q => q = if wi x 0 5 = true then (.inl (some (.int (cntV x mn (nI n) (nI (sumT cnt n)) (nI (dfS nt ln cnt (12 * n))) vh vt))), (hf pd sh tr ru qu to al (hm 0 (ma, mn) (nI n, ny, nl, nt, nv, np, nf, nu, nh) mq (vt, vh, vr, vs, vp, vo, vx, vn) mx z))) else (.inl (some (.int 0)), (hf pd sh tr ru qu to al (hm 1 (ma, mn) (nI n, ny, nl, nt, nv, np, nf, nu, nh) mq (vt, vh, vr, vs, vp, vo, vx, vn) mx z)))) := by
  refine e_Mo_count hl (by decide) (fun X hl1 hR hX hC => ?_)
  have hl2 : (X.2.1).stackTraces = false := by rw [hl1]; exact hl
  refine t_Mo_count_0_1 hX (q_Mo_count_4 hX (ab_conT hC) (k_Mo_within hl2) (by rw [hR]; decide) (fun v h' e => ?_) (fun E h' e => by first | (cases e; done) | (split at e <;> cases e)))
  cases e
  refine t_Mo_count_7_1 hX (q_Mo_count_9 hX (ab_conT hC) (k_Mo_goes (b := true) (c := true) hl2) (by rw [hR]; decide) (fun v h' e => ?_) (fun E h' e => by first | (cases e; done) | (split at e <;> cases e)))
  cases e
  cases hw : wi x 0 5 with
  | false =>
    rw [hw, if_neg (by decide)] at hC
    exact t_Mo_count_12_1 hX rfl (r_Mo_count_16 hX hC (by decide) rfl)
  | true =>
    rw [hw, if_pos rfl] at hC
    obtain ⟨k1, k2⟩ := ab_and hw
    obtain ⟨j, hj, rfl⟩ : ∃ j : Nat, j < 6 ∧ x = nI j := by
      obtain ⟨f, h1, h2⟩ := nI_of (of_decide_eq_true k1)
      refine ⟨f, ?_, h2⟩
      rw [h2] at k2
      by_cases q : f < 6
      · exact q
      · exact absurd (nI_lt (a := 5) (by omega) h1) (of_decide_eq_true k2)
    have ht : (nI j).toInt = j := nI_toInt (by omega)
    refine t_Mo_count_12_2 hX (by decide) ?_
    have hloop : ∀ k r : Nat, r + k = n → ab_W X M_Mo_count (21, [(0, .ref 31), (1, .int (nI j)), (2, .int (nI (sumT cnt r))), (3, .int (nI r))], [], (hf pd sh tr ru qu to al (hm 0 (ma, mn) (nI n, ny, nl, nt, nv, np, nf, nu, nh) mq (vt, vh, vr, vs, vp, vo, vx, vn) mx z)), 0, 0) := by
      intro k
      induction k with
      | zero =>
        intro r hr
        have e : r = n := by omega
        subst e
        have hle : nI r ≤ nI r := nI_le (Nat.le_refl _) (by omega)
        match j, hj with
        | 0, _ => exact t_Mo_count_21_3 hX hle ⟨ht, by rw [ht]; omega⟩ (r_Mo_count_84 hX hC (by decide) rfl)
        | 1, _ => exact t_Mo_count_21_4 hX hle ⟨ht, by rw [ht]; omega⟩ (r_Mo_count_89 hX hC (by decide) rfl)
        | 2, _ => exact t_Mo_count_21_5 hX hle ⟨ht, by rw [ht]; omega⟩ (r_Mo_count_91 hX hC (by decide) rfl)
        | 3, _ =>
          refine t_Mo_count_21_6 hX hle ⟨ht, by rw [ht]; omega⟩ (q_Mo_count_93 hX (ab_conT hC) (k_Mo_different hl2 hn hc hln) (by rw [hR]; decide) (fun v h' e => ?_) (fun E h' e => by first | (cases e; done) | (split at e <;> cases e)))
          cases e
          exact r_Mo_count_96 hX hC (by decide) rfl
        | 4, _ => exact t_Mo_count_21_7 hX hle ⟨ht, by rw [ht]; omega⟩ (r_Mo_count_101 hX hC (by decide) rfl)
        | 5, _ => exact t_Mo_count_21_2 hX hle (Or.inr (by rw [ht]; omega)) (r_Mo_count_106 hX hC (by decide) rfl)
        | n + 6, hn => omega
      | succ k ih =>
        intro r hr
        refine t_Mo_count_21_1 hX (nI_ge (by omega) (by omega)) (vp_in_nI (by omega) (by omega)) ?_
        rw [nI_clamp (by omega), (hc r (by omega)).2, nI_add, nI_1]
        exact ih (r + 1) (by omega)
    exact hloop n 0 (by omega)
end M5
