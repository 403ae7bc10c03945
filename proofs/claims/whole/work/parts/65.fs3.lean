/-! CONTRACTS: what is told, what is far, what is like -/
/-- how far the nearest of the first i words of r is from w, or L -/
def nrS (w : Int64) (sw : Nat → Int64) (r L : Nat) : Nat → Nat
  | 0 => L
  | i + 1 => min (apart w (sw (r * 12 + i))) (nrS w sw r L i)
theorem nrS_le (w : Int64) (sw : Nat → Int64) (r L : Nat) : ∀ i, nrS w sw r L i ≤ L
  | 0 => Nat.le_refl _
  | i + 1 => by
    have := nrS_le w sw r L i
    unfold nrS
    omega
theorem nrS_mono (w : Int64) (sw : Nat → Int64) (r L : Nat) {i k : Nat} (h : i ≤ k) : nrS w sw r L k ≤ nrS w sw r L i := by
  induction h with
  | refl => exact Nat.le_refl _
  | step _ ih => exact Nat.le_trans (Nat.min_le_right _ _) ih
def frS (sw : Nat → Int64) (a b cb : Nat) : Nat → Nat
  | 0 => 11
  | i + 1 => nrS (sw (a * 12 + i)) sw b (frS sw a b cb i) cb
theorem frS_le (sw : Nat → Int64) (a b cb : Nat) : ∀ i, frS sw a b cb i ≤ 11
  | 0 => Nat.le_refl _
  | i + 1 => Nat.le_trans (nrS_le _ _ _ _ _) (frS_le sw a b cb i)
theorem frS_mono (sw : Nat → Int64) (a b cb : Nat) {i k : Nat} (h : i ≤ k) : frS sw a b cb k ≤ frS sw a b cb i := by
  induction h with
  | refl => exact Nat.le_refl _
  | step _ ih => exact Nat.le_trans (nrS_le _ _ _ _ _) ih
def vlS (sv tp : Nat → Int32) (r f : Nat) (asked : Int32) : Nat := if sv (r * 4 + f) = asked then 3 else if uN (pO tp f) asked 16 (pO tp f (sv (r * 4 + f))) = true then 1 else 0
/-- what a term scores for the record r, which has c words -/
def scN (pf : Nat → Int32) (n : Nat) (sw : Nat → Int64) (sv fy ly tp : Nat → Int32) (r c : Nat) (tm : gTm) : Nat :=
  if tm.1 = 0 then (if hasW sw r c (lfW pf n tm.2.1 10 0 0) = true then 10 else 0)
  else if tm.1 = 1 then 6 - 2 * nrS (lfW pf n tm.2.1 10 0 0) sw r 3 c
  else if tm.1 = 2 then vlS sv tp r tm.2.2.1.toNatClampNeg tm.2.2.2
  else (if yW (fy r) (ly r) tm.2.2.1 tm.2.2.2 = true then 2 else 0)
theorem scN_le (pf : Nat → Int32) (n : Nat) (sw : Nat → Int64) (sv fy ly tp : Nat → Int32) (r c : Nat) (tm : gTm) : scN pf n sw sv fy ly tp r c tm ≤ 10 := by
  unfold scN vlS
  split
  · split <;> omega
  · split
    · omega
    · split
      · split
        · omega
        · split <;> omega
      · split <;> omega
/-- a term as it is read -/
def tmOk (tm : gTm) : Prop := tm.1 = 0 ∨ tm.1 = 1 ∨ (tm.1 = 2 ∧ ∃ f : Nat, f < 4 ∧ tm.2.2.1 = nI f) ∨ tm.1 = 3
section K13
variable {l : Launch} {pd : gt_pd} {sh : gt_sh} {tr : gt_tr} {ru : gt_ru} {qu : gt_qu} {to : gt_to} {al : gt_al} {z : List ab_C} {sw : Nat → Int64} {wc sv fy ly ro pf tp hr hp ts vc ar ap : Nat → Int32} {ss aw dw pn hz tt az : Int32}
theorem k_To_begin (hl : l.stackTraces = false) {x : Int32} : ab_K l M_To_begin (ab_r 1) (0, 0) [.ref 22, .int x] (hf pd sh tr ru qu (hr, hp, hz, ts, vc, tt) al z) (fun q => ∃ vc' : Nat → Int32, q = (.inl none, hf pd sh tr ru qu (hr, hp, 0, ts, vc', x) al z) ∧ ∀ j, j < 64 → vc' j = 0) := by
  refine e_To_begin hl (by decide) (fun X hl1 hR hX hC => ?_)
  have hl2 : (X.2.1).stackTraces = false := by rw [hl1]; exact hl
  refine t_To_begin_0_1 hX (q_To_begin_18 hX (ab_conT hC) (k_Ar_fill_vc hl2) (by rw [hR]; decide) (fun v h' e => ?_) (fun E h' e => by obtain ⟨g, e, -⟩ := e; cases e))
  obtain ⟨g, e, hg⟩ := e
  cases e
  exact r_To_begin_21 hX hC (by decide) ⟨g, rfl, hg⟩
theorem k_Fs_nearestBelow (hl : l.stackTraces = false) {w : Int64} {r c L : Nat} (hr : r < 32) (hc : c ≤ 12) (hw : wc r = nI c) (hL : L < 2 ^ 31) : ab_K l M_Fs_nearestBelow (ab_r 3) (0, 0) [.ref 1, .long w, .int (nI r), .int (nI L)] (hf pd (sw, wc, sv, fy, ly, ro, ss, aw, dw) tr ru qu to al z) (fun q => ∃ ru' : gt_ru, q = (.inl (some (.int (nI (nrS w sw r L c)))), hf pd (sw, wc, sv, fy, ly, ro, ss, aw, dw) tr ru' qu to al z)) := by
  refine e_Fs_nearestBelow hl (by decide) (fun X hl1 hR hX hC => ?_)
  have hl2 : (X.2.1).stackTraces = false := by rw [hl1]; exact hl
  have hb : vp_in (nI r) 32 := vp_in_nI hr (by omega)
  have hcl : (nI r).toNatClampNeg = r := nI_clamp (by omega)
  refine t_Fs_nearestBelow_0_1 hX ?_
  have hloop : ∀ (k i : Nat) (ru9 : gt_ru), i + k = c → ab_W X M_Fs_nearestBelow (7, [(0, .ref 1), (1, .long w), (3, .int (nI r)), (5, .int (nI (nrS w sw r L i))), (6, .int (nI i))], [], hf pd (sw, wc, sv, fy, ly, ro, ss, aw, dw) tr ru9 qu to al z, 0, 0) := by
    intro k
    induction k with
    | zero =>
      intro i ru9 hi
      have e : i = c := by omega
      subst e
      exact t_Fs_nearestBelow_7_3 hX hb (by rw [hcl, hw]; exact nI_le (Nat.le_refl _) (by omega)) (t_Fs_nearestBelow_54_1 hX (r_Fs_nearestBelow_56 hX hC (by decide) ⟨ru9, rfl⟩))
    | succ k ih =>
      intro i ru9 hi
      have hlt : ¬ wc (nI r).toNatClampNeg ≤ nI i := by rw [hcl, hw]; exact nI_ge (by omega) (by omega)
      have hle := nrS_le w sw r L i
      by_cases h0 : nrS w sw r L i = 0
      · refine t_Fs_nearestBelow_7_2 hX hb hlt (by rw [h0]; decide) (t_Fs_nearestBelow_54_1 hX (r_Fs_nearestBelow_56 hX hC (by decide) ⟨ru9, ?_⟩))
        have := nrS_mono w sw r L (show i ≤ c by omega)
        rw [h0, show nrS w sw r L c = 0 by omega]
      · obtain ⟨-, e2, e3⟩ := ab_i12 hr (show i < 12 by omega)
        refine t_Fs_nearestBelow_7_1 hX hb hlt (nI_nle (by omega) (by omega)) (q_Fs_nearestBelow_38 hX (ab_conT hC) (k_Sh_wordOf hl2 e2) (by rw [hR]; decide) (fun v h' e => ?_) (fun E h' e => by cases e))
        cases e
        rw [e3]
        refine t_Fs_nearestBelow_41_1 hX (q_Fs_nearestBelow_43 hX (ab_conT hC) (k_Ru_apartBelow hl2 (by omega)) (by rw [hR]; decide) (fun v h' e => ?_) (fun E h' e => by obtain ⟨g, e⟩ := e; cases e))
        obtain ⟨g, e⟩ := e
        cases e
        refine t_Fs_nearestBelow_46_1 hX ?_
        rw [nI_1]
        exact ih (i + 1) g (by omega)
  exact hloop c 0 ru (by omega)
def farV (sw : Nat → Int64) (cnt : Nat → Nat) (a b : Nat) : Int32 := if cnt a = 0 ∨ cnt b = 0 then -1 else nI (frS sw a b (cnt b) (cnt a))
theorem k_Fs_far (hl : l.stackTraces = false) {x1 x2 : Int32} {n : Nat} {cnt : Nat → Nat} (hn : n ≤ 32) (hc : ∀ r, r < n → cnt r ≤ 12 ∧ wc r = nI (cnt r)) : ab_K l M_Fs_far (ab_x 2) (0, 0) [.ref 1, .int x1, .int x2] (hf pd (sw, wc, sv, fy, ly, ro, nI n, aw, dw) tr ru qu to al z)
    (fun q => ∃ ru' : gt_ru, q = (if (¬ x1 < 0 ∧ x1 < nI n) ∧ ¬ x2 < 0 ∧ x2 < nI n then .inl (some (.int (farV sw cnt x1.toNatClampNeg x2.toNatClampNeg))) else .inr x_ns, hf pd (sw, wc, sv, fy, ly, ro, nI n, aw, dw) tr ru' qu to al z)) := by
  refine e_Fs_far hl (by decide) (fun X hl1 hR hX hC => ?_)
  have hl2 : (X.2.1).stackTraces = false := by rw [hl1]; exact hl
  refine t_Fs_far_0_1 hX (q_Fs_far_2 hX (ab_conT hC) (k_Fs_requireRecord hl2) (by rw [hR]; decide) (fun v h' e => ?_) (fun E h' e => ?_))
  · obtain ⟨c1, rfl, rfl⟩ := ab_ck_r e
    refine t_Fs_far_5_1 hX (q_Fs_far_7 hX (ab_conT hC) (k_Fs_requireRecord hl2) (by rw [hR]; decide) (fun v h' e => ?_) (fun E h' e => ?_))
    · obtain ⟨c2, rfl, rfl⟩ := ab_ck_r e
      rw [if_pos ⟨c1, c2⟩] at hC
      obtain ⟨a, ha, rfl⟩ := ab_ofI c1.1 c1.2 (by omega)
      obtain ⟨b, hb, rfl⟩ := ab_ofI c2.1 c2.2 (by omega)
      have hina : vp_in (nI a) 32 := vp_in_nI (by omega) (by omega)
      have hinb : vp_in (nI b) 32 := vp_in_nI (by omega) (by omega)
      have hcla : (nI a).toNatClampNeg = a := nI_clamp (by omega)
      have hclb : (nI b).toNatClampNeg = b := nI_clamp (by omega)
      obtain ⟨wa1, wa2⟩ := hc a ha
      obtain ⟨wb1, wb2⟩ := hc b hb
      rw [hcla, hclb] at hC
      unfold farV at hC
      by_cases h1 : cnt a = 0
      · rw [if_pos (Or.inl h1)] at hC
        exact t_Fs_far_10_3 hX hina (by rw [hcla, wa2, h1]; rfl) (t_Fs_far_34_1 hX (r_Fs_far_35 hX hC (by decide) ⟨ru, rfl⟩))
      · have h1' : ¬ wc (nI a).toNatClampNeg = 0 := by rw [hcla, wa2]; exact nI_ne0 (by omega) (by omega)
        by_cases h2 : cnt b = 0
        · rw [if_pos (Or.inr h2)] at hC
          exact t_Fs_far_10_1 hX hina h1' hinb (by rw [hclb, wb2, h2]; rfl) (t_Fs_far_34_1 hX (r_Fs_far_35 hX hC (by decide) ⟨ru, rfl⟩))
        · rw [if_neg (fun q => q.elim h1 h2)] at hC
          refine t_Fs_far_10_2 hX hina h1' hinb (by rw [hclb, wb2]; exact nI_ne0 (by omega) (by omega)) ?_
          have hloop : ∀ (k i : Nat) (ru9 : gt_ru), i + k = cnt a → ab_W X M_Fs_far (42, [(0, .ref 1), (1, .int (nI a)), (2, .int (nI b)), (3, .int (nI (frS sw a b (cnt b) i))), (4, .int (nI i))], [], hf pd (sw, wc, sv, fy, ly, ro, nI n, aw, dw) tr ru9 qu to al z, 0, 0) := by
            intro k
            induction k with
            | zero =>
              intro i ru9 hi
              have e : i = cnt a := by omega
              subst e
              exact t_Fs_far_42_3 hX hina (by rw [hcla, wa2]; exact nI_le (Nat.le_refl _) (by omega)) (t_Fs_far_83_1 hX (r_Fs_far_84 hX hC (by decide) ⟨ru9, rfl⟩))
            | succ k ih =>
              intro i ru9 hi
              have hlt : ¬ wc (nI a).toNatClampNeg ≤ nI i := by rw [hcla, wa2]; exact nI_ge (by omega) (by omega)
              have hle := frS_le sw a b (cnt b) i
              by_cases h0 : frS sw a b (cnt b) i = 0
              · refine t_Fs_far_42_2 hX hina hlt (by rw [h0]; decide) (t_Fs_far_83_1 hX (r_Fs_far_84 hX hC (by decide) ⟨ru9, ?_⟩))
                have := frS_mono sw a b (cnt b) (show i ≤ cnt a by omega)
                rw [h0, show frS sw a b (cnt b) (cnt a) = 0 by omega]
              · obtain ⟨-, e2, e3⟩ := ab_i12 (show a < 32 by omega) (show i < 12 by omega)
                refine t_Fs_far_42_1 hX hina hlt (nI_nle (by omega) (by omega)) (q_Fs_far_68 hX (ab_conT hC) (k_Sh_wordOf hl2 e2) (by rw [hR]; decide) (fun v h' e => ?_) (fun E h' e => by cases e))
                cases e
                rw [e3]
                refine t_Fs_far_71_1 hX (q_Fs_far_73 hX (ab_conT hC) (k_Fs_nearestBelow hl2 (by omega) wb1 wb2 (by omega)) (by rw [hR]; decide) (fun v h' e => ?_) (fun E h' e => by obtain ⟨g, e⟩ := e; cases e))
                obtain ⟨g, e⟩ := e
                cases e
                refine t_Fs_far_76_1 hX ?_
                rw [nI_1]
                exact ih (i + 1) g (by omega)
          exact hloop (cnt a) 0 ru (by omega)
    · obtain ⟨c2, rfl, rfl⟩ := ab_ck_t e
      rw [if_neg (fun q => c2 q.2)] at hC
      exact ab_out hX hC rfl (by rw [hR]; decide) ⟨ru, rfl⟩
  · obtain ⟨c1, rfl, rfl⟩ := ab_ck_t e
    rw [if_neg (fun q => c1 q.1)] at hC
    exact ab_out hX hC rfl (by rw [hR]; decide) ⟨ru, rfl⟩
theorem k_Fs_valueScore (hl : l.stackTraces = false) {r f : Nat} {x : Int32} (hr : r < 32) (h4 : f < 4) (hq : ∀ j, j < 64 → okv (tp j)) (hv : okv (sv (r * 4 + f))) : ab_K l M_Fs_valueScore (ab_r 2) (0, 0) [.ref 1, .int (nI r), .int (nI f), .int x] (hf pd (sw, wc, sv, fy, ly, ro, ss, aw, dw) tp ru qu to al z) (fun q => q = (.inl (some (.int (nI (vlS sv tp r f x)))), hf pd (sw, wc, sv, fy, ly, ro, ss, aw, dw) tp ru qu to al z)) := by
  refine e_Fs_valueScore hl (by decide) (fun X hl1 hR hX hC => ?_)
  have hl2 : (X.2.1).stackTraces = false := by rw [hl1]; exact hl
  obtain ⟨-, e2, e3⟩ := ab_j4 hr h4
  refine t_Fs_valueScore_0_1 hX (q_Fs_valueScore_6 hX (ab_conT hC) (k_Sh_valueOf hl2 e2) (by rw [hR]; decide) (fun v h' e => ?_) (fun E h' e => by cases e))
  cases e
  rw [e3]
  unfold vlS at hC
  by_cases h : sv (r * 4 + f) = x
  · rw [if_pos h] at hC
    exact t_Fs_valueScore_9_1 hX h (r_Fs_valueScore_18 hX hC (by decide) rfl)
  · rw [if_neg h] at hC
    refine t_Fs_valueScore_9_2 hX h (q_Fs_valueScore_27 hX (ab_conT hC) (k_Tr_isUnder hl2 h4 hq hv) (by rw [hR]; decide) (fun v h' e => ?_) (fun E h' e => by cases e))
    cases e
    cases hu : uN (pO tp f) x 16 (pO tp f (sv (r * 4 + f))) with
    | true =>
      rw [if_pos hu] at hC
      exact t_Fs_valueScore_30_1 hX (by decide) (r_Fs_valueScore_38 hX hC (by decide) rfl)
    | false =>
      rw [if_neg (by rw [hu]; decide)] at hC
      exact t_Fs_valueScore_30_2 hX rfl (r_Fs_valueScore_38 hX hC (by decide) rfl)
theorem k_Fs_termScore (hl : l.stackTraces = false) {r t c n : Nat} {tm : gTm} {pf0 : Nat → Int32} (hr : r < 32) (ht : t < 8) (hc : c ≤ 12) (hw : wc r = nI c) (hq : ∀ j, j < 64 → okv (tp j)) (hv : ∀ f, f < 4 → okv (sv (r * 4 + f))) (ho : tmOk tm) (hm : qTm pf0 n t qu tm) : ab_K l M_Fs_termScore (ab_r 4) (0, 0) [.ref 1, .int (nI r), .int (nI t)] (hf pd (sw, wc, sv, fy, ly, ro, ss, aw, dw) tp ru qu to al z) (fun q => ∃ ru' : gt_ru, q = (.inl (some (.int (nI (scN pf0 n sw sv fy ly tp r c tm)))), hf pd (sw, wc, sv, fy, ly, ro, ss, aw, dw) tp ru' qu to al z)) := by
  obtain ⟨kd, qw, qf, qs, qz, qa⟩ := qu
  refine e_Fs_termScore hl (by decide) (fun X hl1 hR hX hC => ?_)
  have hl2 : (X.2.1).stackTraces = false := by rw [hl1]; exact hl
  have hin : vp_in (nI t) 8 := vp_in_nI ht (by omega)
  have hcl : (nI t).toNatClampNeg = t := nI_clamp (by omega)
  obtain ⟨k0, a0, f0, s0⟩ := tm
  obtain ⟨m1, m2⟩ := hm
  dsimp only at m1 m2
  unfold scN at hC
  dsimp only at hC
  rcases ho with h | h | ⟨h, f, h4, hf⟩ | h
  · change k0 = 0 at h
    rw [if_pos (Or.inl h)] at m2
    rw [if_pos h] at hC
    refine t_Fs_termScore_0_2 hX hin (by rw [hcl, m1, h]; decide) hin ?_
    rw [hcl, m2]
    refine q_Fs_termScore_50 hX (ab_conT hC) (k_Sh_hasWord hl2 hr hc hw) (by rw [hR]; decide) (fun v h' e => ?_) (fun E h' e => by cases e)
    cases e
    cases hb : hasW sw r c (lfW pf0 n a0 10 0 0) with
    | true =>
      rw [if_pos hb] at hC
      exact t_Fs_termScore_53_1 hX (by decide) (r_Fs_termScore_62 hX hC (by decide) ⟨ru, rfl⟩)
    | false =>
      rw [if_neg (by rw [hb]; decide)] at hC
      exact t_Fs_termScore_53_2 hX rfl (r_Fs_termScore_62 hX hC (by decide) ⟨ru, rfl⟩)
  · change k0 = 1 at h
    rw [if_pos (Or.inr h)] at m2
    rw [if_neg (by rw [h]; decide), if_pos h] at hC
    refine t_Fs_termScore_0_3 hX hin (by rw [hcl, m1, h]; decide) hin ?_
    rw [hcl, m2]
    refine q_Fs_termScore_78 hX (ab_conT hC) (k_Fs_nearestBelow (L := 3) hl2 hr hc hw (by omega)) (by rw [hR]; decide) (fun v h' e => ?_) (fun E h' e => by obtain ⟨g, e⟩ := e; cases e)
    obtain ⟨g, e⟩ := e
    cases e
    refine t_Fs_termScore_81_1 hX (r_Fs_termScore_83 hX hC (by decide) ⟨g, ?_⟩)
    have h3 := nrS_le (lfW pf0 n a0 10 0 0) sw r 3 c
    have e1 : (2 : Int32) * nI (nrS (lfW pf0 n a0 10 0 0) sw r 3 c) = nI (2 * nrS (lfW pf0 n a0 10 0 0) sw r 3 c) := pk_mul 2 _
    have e2 : (6 : Int32) - nI (2 * nrS (lfW pf0 n a0 10 0 0) sw r 3 c) = nI (6 - 2 * nrS (lfW pf0 n a0 10 0 0) sw r 3 c) := pk_sub (a := 6) (by omega)
    rw [e1, e2]
  · change k0 = 2 at h
    change f0 = nI f at hf
    rw [if_neg (by rw [h]; decide)] at m2
    rw [if_neg (by rw [h]; decide), if_neg (by rw [h]; decide), if_pos h, hf, nI_clamp (by omega)] at hC
    refine t_Fs_termScore_0_4 hX hin (by rw [hcl, m1, h]; decide) hin hin ?_
    rw [hcl, m2.1, m2.2, hf]
    refine q_Fs_termScore_104 hX (ab_conT hC) (k_Fs_valueScore hl2 hr h4 hq (hv f h4)) (by rw [hR]; decide) (fun v h' e => ?_) (fun E h' e => by cases e)
    cases e
    exact r_Fs_termScore_107 hX hC (by decide) ⟨ru, rfl⟩
  · change k0 = 3 at h
    rw [if_neg (by rw [h]; decide)] at m2
    rw [if_neg (by rw [h]; decide), if_neg (by rw [h]; decide), if_neg (by rw [h]; decide)] at hC
    refine t_Fs_termScore_0_1 hX hin (by rw [hcl, m1, h]; decide) hin hin ?_
    rw [hcl, m2.1, m2.2]
    refine q_Fs_termScore_131 hX (ab_conT hC) (k_Sh_hasYearWithin hl2 hr) (by rw [hR]; decide) (fun v h' e => ?_) (fun E h' e => by cases e)
    cases e
    cases hb : yW (fy r) (ly r) f0 s0 with
    | true =>
      rw [if_pos hb] at hC
      exact t_Fs_termScore_134_1 hX (by decide) (r_Fs_termScore_142 hX hC (by decide) ⟨ru, rfl⟩)
    | false =>
      rw [if_neg (by rw [hb]; decide)] at hC
      exact t_Fs_termScore_134_2 hX rfl (r_Fs_termScore_142 hX hC (by decide) ⟨ru, rfl⟩)
end K13
