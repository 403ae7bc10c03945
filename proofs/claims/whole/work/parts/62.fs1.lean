/-! CONTRACTS: the calls of the class, the first half -/
def ap5 (a b c d e : Int32) (p : (Nat → Int32) × Nat) : (Nat → Int32) × Nat := apS e (apS d (apS c (apS b (apS a p 4) 4) 4) 4) 4
def cn5 (a b c d e : Int32) : Nat := cnt4 a 4 + cnt4 b 4 + cnt4 c 4 + cnt4 d 4 + cnt4 e 4
theorem ap5_n (a b c d e : Int32) (p : (Nat → Int32) × Nat) : (ap5 a b c d e p).2 = p.2 + cn5 a b c d e := by
  unfold ap5 cn5
  rw [apS_n, apS_n, apS_n, apS_n, apS_n]
  omega
section K10
variable {l : Launch} {pd : gt_pd} {sh : gt_sh} {tr : gt_tr} {ru : gt_ru} {qu : gt_qu} {to : gt_to} {al : gt_al} {z : List ab_C} {sw : Nat → Int64} {wc sv fy ly ro pf tp hr hp ts vc ar ap : Nat → Int32} {ss aw dw pn hz tt az : Int32}
theorem k_Pa_append2 (hl : l.stackTraces = false) {x : Int32} {p : (Nat → Int32) × Nat} (hn : p.2 + cnt4 x 4 ≤ 60) : ab_K l M_Pa_append (ab_r 0) (0, 0) [.ref 2, .int x] (hf (p.1, nI p.2) sh tr ru qu to al z) (fun q => q = (.inl none, hf ((apS x p 4).1, nI (apS x p 4).2) sh tr ru qu to al z)) := by
  have h := k_Pa_append (l := l) (pf := p.1) (pn := nI p.2) (sh := sh) (tr := tr) (ru := ru) (qu := qu) (to := to) (al := al) (z := z) hl hn rfl
  rw [← apS_n] at h
  exact h
theorem k_Fs_feed (hl : l.stackTraces = false) {a b c d e : Int32} {p : (Nat → Int32) × Nat} (hn : p.2 ≤ 60) : ab_K l M_Fs_feed (ab_x 0) (0, 0) [.ref 1, .int a, .int b, .int c, .int d, .int e] (hf (p.1, nI p.2) sh tr ru qu to al z)
    (fun q => q = if ¬ (a ||| b ||| c ||| d ||| e) &&& (-2139062144) = 0 then (.inr x_ia, hf (p.1, nI p.2) sh tr ru qu to al z) else if 60 < p.2 + cn5 a b c d e then (.inr x_is, hf (p.1, nI p.2) sh tr ru qu to al z) else (.inl (some (.int (nI (p.2 + cn5 a b c d e)))), hf ((ap5 a b c d e p).1, nI (p.2 + cn5 a b c d e)) sh tr ru qu to al z)) := by
  refine e_Fs_feed hl (by decide) (fun X hl1 hR hX hC => ?_)
  have hl2 : (X.2.1).stackTraces = false := by rw [hl1]; exact hl
  have ca := cnt4_le a 4
  have cb := cnt4_le b 4
  have cc := cnt4_le c 4
  have cd := cnt4_le d 4
  have ce := cnt4_le e 4
  refine t_Fs_feed_0_1 hX (q_Fs_feed_11 hX (ab_conT hC) (k_Pa_hasHighSign hl2) (by rw [hR]; decide) (fun v h' e => ?_) (fun E h' e => by cases e))
  cases e
  by_cases h1 : (a ||| b ||| c ||| d ||| e) &&& (-2139062144) = 0
  · rw [if_neg (fun q => q h1)] at hC
    refine t_Fs_feed_14_2 hX (by rw [decide_eq_false (fun q => q h1)]; rfl) ?_
    refine q_Fs_feed_28 hX (ab_conT hC) (k_Pa_signsIn hl2) (by rw [hR]; decide) (fun v h' e => ?_) (fun E h' e => by cases e)
    cases e
    refine t_Fs_feed_31_1 hX (q_Fs_feed_32 hX (ab_conT hC) (k_Pa_signsIn hl2) (by rw [hR]; decide) (fun v h' e => ?_) (fun E h' e => by cases e))
    cases e
    refine t_Fs_feed_35_1 hX (q_Fs_feed_37 hX (ab_conT hC) (k_Pa_signsIn hl2) (by rw [hR]; decide) (fun v h' e => ?_) (fun E h' e => by cases e))
    cases e
    refine t_Fs_feed_40_1 hX (q_Fs_feed_43 hX (ab_conT hC) (k_Pa_signsIn hl2) (by rw [hR]; decide) (fun v h' e => ?_) (fun E h' e => by cases e))
    cases e
    refine t_Fs_feed_46_1 hX (q_Fs_feed_49 hX (ab_conT hC) (k_Pa_signsIn hl2) (by rw [hR]; decide) (fun v h' e => ?_) (fun E h' e => by cases e))
    cases e
    have hsum : nI p.2 + (nI (cnt4 a 4) + nI (cnt4 b 4) + nI (cnt4 c 4) + nI (cnt4 d 4) + nI (cnt4 e 4)) = nI (p.2 + cn5 a b c d e) := by
      rw [nI_add, nI_add, nI_add, nI_add, nI_add]
      rfl
    have hcn : cn5 a b c d e ≤ 20 := by unfold cn5; omega
    by_cases h2 : 60 < p.2 + cn5 a b c d e
    · rw [if_pos h2] at hC
      exact t_Fs_feed_52_1 hX (by rw [hsum]; exact nI_ge (a := 60) h2 (by omega)) (w_Fs_feed_70 hX hC (by rw [hR]; decide) rfl)
    · rw [if_neg h2] at hC
      unfold cn5 at h2
      refine t_Fs_feed_52_2 hX (by rw [hsum]; exact nI_le (b := 60) (by unfold cn5; omega) (by omega)) ?_
      refine q_Fs_feed_85 hX (ab_conT hC) (k_Pa_append2 hl2 (by omega)) (by rw [hR]; decide) (fun v h' e => ?_) (fun E h' e => by cases e)
      cases e
      have n1 := apS_n a p 4
      refine t_Fs_feed_88_1 hX (q_Fs_feed_93 hX (ab_conT hC) (k_Pa_append2 hl2 (by omega)) (by rw [hR]; decide) (fun v h' e => ?_) (fun E h' e => by cases e))
      cases e
      have n2 := apS_n b (apS a p 4) 4
      refine t_Fs_feed_96_1 hX (q_Fs_feed_101 hX (ab_conT hC) (k_Pa_append2 hl2 (by omega)) (by rw [hR]; decide) (fun v h' e => ?_) (fun E h' e => by cases e))
      cases e
      have n3 := apS_n c (apS b (apS a p 4) 4) 4
      refine t_Fs_feed_104_1 hX (q_Fs_feed_110 hX (ab_conT hC) (k_Pa_append2 hl2 (by omega)) (by rw [hR]; decide) (fun v h' e => ?_) (fun E h' e => by cases e))
      cases e
      have n4 := apS_n d (apS c (apS b (apS a p 4) 4) 4) 4
      refine t_Fs_feed_113_1 hX (q_Fs_feed_119 hX (ab_conT hC) (k_Pa_append2 hl2 (by omega)) (by rw [hR]; decide) (fun v h' e => ?_) (fun E h' e => by cases e))
      cases e
      refine t_Fs_feed_122_1 hX (r_Fs_feed_129 hX hC (by decide) ?_)
      have n5 := ap5_n a b c d e p
      unfold ap5 at n5 ⊢
      rw [n5]
  · rw [if_pos h1] at hC
    exact t_Fs_feed_14_1 hX (by rw [decide_eq_true h1]; decide) (w_Fs_feed_17 hX hC (by rw [hR]; decide) rfl)
theorem k_Fs_span (hl : l.stackTraces = false) {x1 x2 x3 : Int32} {n : Nat} (hn : n ≤ 32) : ab_K l M_Fs_span (ab_x 1) (0, 0) [.ref 1, .int x1, .int x2, .int x3] (hf pd (sw, wc, sv, fy, ly, ro, nI n, aw, dw) tr ru qu to al z)
    (fun q => q = if ¬ x1 < 0 ∧ x1 < nI n then (if ¬ x2 < 0 ∧ ¬ x3 < x2 ∧ x3 ≤ 9999 then (.inl none, hf pd (sw, wc, sv, upd fy x1.toNatClampNeg x2, upd ly x1.toNatClampNeg x3, ro, nI n, aw, dw) tr ru qu to al z) else (.inr x_ia, hf pd (sw, wc, sv, fy, ly, ro, nI n, aw, dw) tr ru qu to al z)) else (.inr x_ns, hf pd (sw, wc, sv, fy, ly, ro, nI n, aw, dw) tr ru qu to al z)) := by
  refine e_Fs_span hl (by decide) (fun X hl1 hR hX hC => ?_)
  have hl2 : (X.2.1).stackTraces = false := by rw [hl1]; exact hl
  refine t_Fs_span_0_1 hX (q_Fs_span_2 hX (ab_conT hC) (k_Fs_requireRecord hl2) (by rw [hR]; decide) (fun v h' e => ?_) (fun E h' e => ?_))
  · obtain ⟨c1, rfl, rfl⟩ := ab_ck_r e
    rw [if_pos c1] at hC
    obtain ⟨r, hr, rfl⟩ := ab_ofI c1.1 c1.2 (by omega)
    have hin : vp_in (nI r) 32 := vp_in_nI (by omega) (by omega)
    by_cases h1 : x2 < 0
    · rw [if_neg (fun q => q.1 h1)] at hC
      exact t_Fs_span_5_4 hX h1 (w_Fs_span_21 hX hC (by rw [hR]; decide) rfl)
    · by_cases h2 : x3 < x2
      · rw [if_neg (fun q => q.2.1 h2)] at hC
        exact t_Fs_span_5_3 hX h1 h2 (w_Fs_span_21 hX hC (by rw [hR]; decide) rfl)
      · by_cases h3 : x3 ≤ 9999
        · rw [if_pos ⟨h1, h2, h3⟩] at hC
          exact t_Fs_span_5_2 hX h1 h2 h3 hin hin (r_Fs_span_51 hX hC (by decide) rfl)
        · rw [if_neg (fun q => h3 q.2.2)] at hC
          exact t_Fs_span_5_1 hX h1 h2 h3 (w_Fs_span_21 hX hC (by rw [hR]; decide) rfl)
  · obtain ⟨c1, rfl, rfl⟩ := ab_ck_t e
    rw [if_neg c1] at hC
    exact ab_out hX hC rfl (by rw [hR]; decide) rfl
theorem k_Fs_right (hl : l.stackTraces = false) {x1 x2 x3 : Int32} {n : Nat} (hn : n ≤ 32) : ab_K l M_Fs_right (ab_x 1) (0, 0) [.ref 1, .int x1, .int x2, .int x3] (hf pd (sw, wc, sv, fy, ly, ro, nI n, aw, dw) tr ru qu to al z)
    (fun q => q = if (¬ x1 < 0 ∧ x1 < nI n) ∧ ¬ x2 < 0 ∧ x2 < 8 then (if bI (seen (ro x1.toNatClampNeg) x2) = x3 then (.inl (some (.int 0)), hf pd (sw, wc, sv, fy, ly, ro, nI n, aw, dw) tr ru qu to al z) else (.inl (some (.int 1)), hf pd (sw, wc, sv, fy, ly, upd ro x1.toNatClampNeg (ro x1.toNatClampNeg ^^^ (1 <<< (x2 &&& 31))), nI n, aw, dw) tr ru qu to al z)) else (.inr x_ns, hf pd (sw, wc, sv, fy, ly, ro, nI n, aw, dw) tr ru qu to al z)) := by
  refine e_Fs_right hl (by decide) (fun X hl1 hR hX hC => ?_)
  have hl2 : (X.2.1).stackTraces = false := by rw [hl1]; exact hl
  refine t_Fs_right_0_1 hX (q_Fs_right_2 hX (ab_conT hC) (k_Fs_requireRecord hl2) (by rw [hR]; decide) (fun v h' e => ?_) (fun E h' e => ?_))
  · obtain ⟨c1, rfl, rfl⟩ := ab_ck_r e
    refine t_Fs_right_5_1 hX (q_Fs_right_6 hX (ab_conT hC) (k_Fs_requireRole hl2) (by rw [hR]; decide) (fun v h' e => ?_) (fun E h' e => ?_))
    · obtain ⟨c2, rfl, rfl⟩ := ab_ck_r e
      rw [if_pos ⟨c1, c2⟩] at hC
      obtain ⟨r, hr, rfl⟩ := ab_ofI c1.1 c1.2 (by omega)
      have hin : vp_in (nI r) 32 := vp_in_nI (by omega) (by omega)
      rw [nI_clamp (by omega)] at hC
      refine t_Fs_right_9_1 hX (q_Fs_right_15 hX (ab_conT hC) (k_Sh_isSeenBy hl2 (by omega)) (by rw [hR]; decide) (fun v h' e => ?_) (fun E h' e => by cases e))
      cases e
      by_cases h : bI (seen (ro r) x2) = x3
      · rw [if_pos h] at hC
        exact t_Fs_right_18_1 hX h (r_Fs_right_23 hX hC (Or.inl rfl) (by decide) rfl)
      · rw [if_neg h] at hC
        refine t_Fs_right_18_2 hX h hin hin (r_Fs_right_40 hX hC (Or.inr rfl) (by decide) ?_)
        rw [nI_clamp (by omega)]
    · obtain ⟨c2, rfl, rfl⟩ := ab_ck_t e
      rw [if_neg (fun q => c2 q.2)] at hC
      exact ab_out hX hC rfl (by rw [hR]; decide) rfl
  · obtain ⟨c1, rfl, rfl⟩ := ab_ck_t e
    rw [if_neg (fun q => c1 q.1)] at hC
    exact ab_out hX hC rfl (by rw [hR]; decide) rfl
theorem k_Fs_parent (hl : l.stackTraces = false) {x1 x2 x3 : Int32} (hq : ∀ j, j < 64 → okv (tp j)) : ab_K l M_Fs_parent (ab_x 2) (0, 0) [.ref 1, .int x1, .int x2, .int x3] (hf pd sh tp ru qu to al z)
    (fun q => q = if (¬ x1 < 0 ∧ x1 < 4) ∧ (¬ x2 < 0 ∧ x2 < 16) ∧ (x3 = -1 ∨ ¬ x3 < 0 ∧ x3 < 16) then (if x3 = x2 ∨ uN (pO tp x1.toNatClampNeg) x2 16 (pO tp x1.toNatClampNeg x3) = true then (.inl (some (.int 0)), hf pd sh tp ru qu to al z) else (.inl (some (.int 1)), hf pd sh (upd tp (x1.toNatClampNeg * 16 + x2.toNatClampNeg) x3) ru qu to al z)) else (.inr x_ns, hf pd sh tp ru qu to al z)) := by
  refine e_Fs_parent hl (by decide) (fun X hl1 hR hX hC => ?_)
  have hl2 : (X.2.1).stackTraces = false := by rw [hl1]; exact hl
  refine t_Fs_parent_0_1 hX (q_Fs_parent_1 hX (ab_conT hC) (k_Fs_requireFacet hl2) (by rw [hR]; decide) (fun v h' e => ?_) (fun E h' e => ?_))
  · obtain ⟨c1, rfl, rfl⟩ := ab_ck_r e
    refine t_Fs_parent_4_1 hX (q_Fs_parent_5 hX (ab_conT hC) (k_Fs_requireValue hl2) (by rw [hR]; decide) (fun v h' e => ?_) (fun E h' e => ?_))
    · obtain ⟨c2, rfl, rfl⟩ := ab_ck_r e
      refine t_Fs_parent_8_1 hX (q_Fs_parent_9 hX (ab_conT hC) (k_Fs_requireValueOrNone hl2) (by rw [hR]; decide) (fun v h' e => ?_) (fun E h' e => ?_))
      · obtain ⟨c3, rfl, rfl⟩ := ab_ck_r e
        rw [if_pos ⟨c1, c2, c3⟩] at hC
        obtain ⟨f, h4, rfl⟩ := ab_ofI (n := 4) c1.1 c1.2 (by omega)
        obtain ⟨b, h16, rfl⟩ := ab_ofI (n := 16) c2.1 c2.2 (by omega)
        have hv : okv x3 := c3.elim Or.inl (fun q => by obtain ⟨a, ha, rfl⟩ := ab_ofI (n := 16) q.1 q.2 (by omega); exact Or.inr ⟨a, ha, rfl⟩)
        obtain ⟨e1, e2⟩ := ab_i16 h4 h16
        rw [nI_clamp (show f < 2 ^ 31 by omega)] at hC
        by_cases h : x3 = nI b
        · rw [if_pos (Or.inl h)] at hC
          exact t_Fs_parent_12_2 hX h (t_Fs_parent_30_1 hX (r_Fs_parent_31 hX hC (Or.inl rfl) (by decide) rfl))
        · refine t_Fs_parent_12_1 hX h (q_Fs_parent_24 hX (ab_conT hC) (k_Tr_isUnder hl2 h4 hq hv) (by rw [hR]; decide) (fun v h' e => ?_) (fun E h' e => by cases e))
          cases e
          cases hu : uN (pO tp f) (nI b) 16 (pO tp f x3) with
          | true =>
            rw [if_pos (Or.inr hu)] at hC
            exact t_Fs_parent_27_1 hX (by decide) (t_Fs_parent_30_1 hX (r_Fs_parent_31 hX hC (Or.inl rfl) (by decide) rfl))
          | false =>
            rw [if_neg (fun q => q.elim h (fun q => by rw [hu] at q; cases q))] at hC
            refine t_Fs_parent_27_2 hX rfl e1 (r_Fs_parent_48 hX hC (Or.inr rfl) (by decide) ?_)
            rw [e2]
      · obtain ⟨c3, rfl, rfl⟩ := ab_ck_t e
        rw [if_neg (fun q => c3 q.2.2)] at hC
        exact ab_out hX hC rfl (by rw [hR]; decide) rfl
    · obtain ⟨c2, rfl, rfl⟩ := ab_ck_t e
      rw [if_neg (fun q => c2 q.2.1)] at hC
      exact ab_out hX hC rfl (by rw [hR]; decide) rfl
  · obtain ⟨c1, rfl, rfl⟩ := ab_ck_t e
    rw [if_neg (fun q => c1 q.1)] at hC
    exact ab_out hX hC rfl (by rw [hR]; decide) rfl
theorem k_Fs_hit (hl : l.stackTraces = false) {x1 x2 : Int32} {k : Nat} (hk : k ≤ 32) : ab_K l M_Fs_hit (ab_x 1) (0, 0) [.ref 1, .int x1, .int x2] (hf pd sh tr ru qu (hr, hp, nI k, ts, vc, tt) al z)
    (fun q => q = if (¬ x1 < 0 ∧ x1 < nI k) ∧ (x2 = 0 ∨ x2 = 1) then (.inl (some (.int (if x2 = 0 then hr x1.toNatClampNeg else hp x1.toNatClampNeg))), hf pd sh tr ru qu (hr, hp, nI k, ts, vc, tt) al z) else (.inr x_ns, hf pd sh tr ru qu (hr, hp, nI k, ts, vc, tt) al z)) := by
  refine e_Fs_hit hl (by decide) (fun X hl1 hR hX hC => ?_)
  have hl2 : (X.2.1).stackTraces = false := by rw [hl1]; exact hl
  refine t_Fs_hit_0_1 hX (q_Fs_hit_2 hX (ab_conT hC) (k_Fs_requireHit hl2) (by rw [hR]; decide) (fun v h' e => ?_) (fun E h' e => ?_))
  · obtain ⟨c1, rfl, rfl⟩ := ab_ck_r e
    obtain ⟨j, hj, e1⟩ := ab_ofI c1.1 c1.2 (by omega)
    have hin : vp_in x1 32 := by rw [e1]; exact vp_in_nI (by omega) (by omega)
    by_cases h1 : x2 = 0
    · rw [if_pos ⟨c1, Or.inl h1⟩, if_pos h1] at hC
      exact t_Fs_hit_5_1 hX h1 hin (r_Fs_hit_21 hX hC (by decide) rfl)
    · by_cases h2 : x2 = 1
      · rw [if_pos ⟨c1, Or.inr h2⟩, if_neg h1] at hC
        exact t_Fs_hit_5_2 hX h1 h2 hin (r_Fs_hit_39 hX hC (by decide) rfl)
      · rw [if_neg (fun q => q.2.elim h1 h2)] at hC
        exact t_Fs_hit_5_3 hX h1 h2 (w_Fs_hit_40 hX hC (by rw [hR]; decide) rfl)
  · obtain ⟨c1, rfl, rfl⟩ := ab_ck_t e
    rw [if_neg (fun q => c1 q.1)] at hC
    exact ab_out hX hC rfl (by rw [hR]; decide) rfl
theorem k_Fs_score (hl : l.stackTraces = false) {x1 x2 : Int32} {k t : Nat} (hk : k ≤ 32) (ht : t ≤ 8) (hh : ∀ j, j < k → ∃ r : Nat, r < 32 ∧ hr j = nI r) : ab_K l M_Fs_score (ab_x 1) (0, 0) [.ref 1, .int x1, .int x2] (hf pd sh tr ru qu (hr, hp, nI k, ts, vc, nI t) al z)
    (fun q => q = if (¬ x1 < 0 ∧ x1 < nI k) ∧ ¬ x2 < 0 ∧ x2 < nI t then (.inl (some (.int (ts ((hr x1.toNatClampNeg).toNatClampNeg * 8 + x2.toNatClampNeg)))), hf pd sh tr ru qu (hr, hp, nI k, ts, vc, nI t) al z) else (.inr x_ns, hf pd sh tr ru qu (hr, hp, nI k, ts, vc, nI t) al z)) := by
  refine e_Fs_score hl (by decide) (fun X hl1 hR hX hC => ?_)
  have hl2 : (X.2.1).stackTraces = false := by rw [hl1]; exact hl
  refine t_Fs_score_0_1 hX (q_Fs_score_2 hX (ab_conT hC) (k_Fs_requireHit hl2) (by rw [hR]; decide) (fun v h' e => ?_) (fun E h' e => ?_))
  · obtain ⟨c1, rfl, rfl⟩ := ab_ck_r e
    obtain ⟨j, hj, e1⟩ := ab_ofI c1.1 c1.2 (by omega)
    have hin : vp_in x1 32 := by rw [e1]; exact vp_in_nI (by omega) (by omega)
    by_cases h1 : x2 < 0
    · rw [if_neg (fun q => q.2.1 h1)] at hC
      exact t_Fs_score_5_3 hX h1 (w_Fs_score_20 hX hC (by rw [hR]; decide) rfl)
    · by_cases h2 : x2 < nI t
      · rw [if_pos ⟨c1, h1, h2⟩] at hC
        obtain ⟨b, hb, e2⟩ := ab_ofI h1 h2 (by omega)
        obtain ⟨r, hr32, e3⟩ := hh j hj
        have e4 : hr x1.toNatClampNeg = nI r := by rw [e1, nI_clamp (by omega)]; exact e3
        have e5 : hr x1.toNatClampNeg * 8 + x2 = nI (r * 8 + b) := by rw [e4, e2]; exact ab_lin r b 8
        refine t_Fs_score_5_2 hX h1 h2 hin (by rw [e5]; exact vp_in_nI (by omega) (by omega)) (r_Fs_score_55 hX hC (by decide) ?_)
        rw [e5, nI_clamp (by omega), e4, e2, nI_clamp (by omega), nI_clamp (by omega)]
      · rw [if_neg (fun q => h2 q.2.2)] at hC
        exact t_Fs_score_5_1 hX h1 h2 (w_Fs_score_20 hX hC (by rw [hR]; decide) rfl)
  · obtain ⟨c1, rfl, rfl⟩ := ab_ck_t e
    rw [if_neg (fun q => c1 q.1)] at hC
    exact ab_out hX hC rfl (by rw [hR]; decide) rfl
theorem k_Fs_counted (hl : l.stackTraces = false) {x1 x2 : Int32} : ab_K l M_Fs_counted (ab_x 1) (0, 0) [.ref 1, .int x1, .int x2] (hf pd sh tr ru qu (hr, hp, hz, ts, vc, tt) al z)
    (fun q => q = if (¬ x1 < 0 ∧ x1 < 4) ∧ ¬ x2 < 0 ∧ x2 < 16 then (.inl (some (.int (vc (x1.toNatClampNeg * 16 + x2.toNatClampNeg)))), hf pd sh tr ru qu (hr, hp, hz, ts, vc, tt) al z) else (.inr x_ns, hf pd sh tr ru qu (hr, hp, hz, ts, vc, tt) al z)) := by
  refine e_Fs_counted hl (by decide) (fun X hl1 hR hX hC => ?_)
  have hl2 : (X.2.1).stackTraces = false := by rw [hl1]; exact hl
  refine t_Fs_counted_0_1 hX (q_Fs_counted_1 hX (ab_conT hC) (k_Fs_requireFacet hl2) (by rw [hR]; decide) (fun v h' e => ?_) (fun E h' e => ?_))
  · obtain ⟨c1, rfl, rfl⟩ := ab_ck_r e
    refine t_Fs_counted_4_1 hX (q_Fs_counted_5 hX (ab_conT hC) (k_Fs_requireValue hl2) (by rw [hR]; decide) (fun v h' e => ?_) (fun E h' e => ?_))
    · obtain ⟨c2, rfl, rfl⟩ := ab_ck_r e
      rw [if_pos ⟨c1, c2⟩] at hC
      obtain ⟨f, h4, rfl⟩ := ab_ofI (n := 4) c1.1 c1.2 (by omega)
      obtain ⟨b, h16, rfl⟩ := ab_ofI (n := 16) c2.1 c2.2 (by omega)
      obtain ⟨e1, e2⟩ := ab_i16 h4 h16
      refine t_Fs_counted_8_1 hX e1 (r_Fs_counted_22 hX hC (by decide) ?_)
      rw [e2, nI_clamp (show f < 2 ^ 31 by omega)]
    · obtain ⟨c2, rfl, rfl⟩ := ab_ck_t e
      rw [if_neg (fun q => c2 q.2)] at hC
      exact ab_out hX hC rfl (by rw [hR]; decide) rfl
  · obtain ⟨c1, rfl, rfl⟩ := ab_ck_t e
    rw [if_neg (fun q => c1 q.1)] at hC
    exact ab_out hX hC rfl (by rw [hR]; decide) rfl
def cntV (x pn ss aw dw hz tt : Int32) : Int32 := if x = 0 then pn else if x = 1 then ss else if x = 2 then aw else if x = 3 then dw else if x = 4 then hz else tt
theorem k_Fs_count (hl : l.stackTraces = false) {x : Int32} : ab_K l M_Fs_count (ab_x 0) (0, 0) [.ref 1, .int x] (hf (pf, pn) (sw, wc, sv, fy, ly, ro, ss, aw, dw) tr ru qu (hr, hp, hz, ts, vc, tt) al z)
    (fun q => q = if ¬ x < 0 ∧ x < 6 then (.inl (some (.int (cntV x pn ss aw dw hz tt))), hf (pf, pn) (sw, wc, sv, fy, ly, ro, ss, aw, dw) tr ru qu (hr, hp, hz, ts, vc, tt) al z) else (.inr x_ia, hf (pf, pn) (sw, wc, sv, fy, ly, ro, ss, aw, dw) tr ru qu (hr, hp, hz, ts, vc, tt) al z)) := by
  refine e_Fs_count hl (by decide) (fun X hl1 hR hX hC => ?_)
  by_cases h : ¬ x < 0 ∧ x < 6
  · rw [if_pos h] at hC
    obtain ⟨j, hj, rfl⟩ := ab_ofI (n := 6) h.1 h.2 (by omega)
    have ht : (nI j).toInt = j := nI_toInt (by omega)
    match j, hj with
    | 0, _ => exact t_Fs_count_0_2 hX ⟨ht, by rw [ht]; omega⟩ (r_Fs_count_47 hX hC (by decide) rfl)
    | 1, _ => exact t_Fs_count_0_3 hX ⟨ht, by rw [ht]; omega⟩ (r_Fs_count_55 hX hC (by decide) rfl)
    | 2, _ => exact t_Fs_count_0_4 hX ⟨ht, by rw [ht]; omega⟩ (r_Fs_count_63 hX hC (by decide) rfl)
    | 3, _ => exact t_Fs_count_0_5 hX ⟨ht, by rw [ht]; omega⟩ (r_Fs_count_71 hX hC (by decide) rfl)
    | 4, _ => exact t_Fs_count_0_6 hX ⟨ht, by rw [ht]; omega⟩ (r_Fs_count_82 hX hC (by decide) rfl)
    | 5, _ => exact t_Fs_count_0_7 hX ⟨ht, by rw [ht]; omega⟩ (r_Fs_count_90 hX hC (by decide) rfl)
    | n + 6, hn => omega
  · rw [if_neg h] at hC
    refine t_Fs_count_0_1 hX ?_ (w_Fs_count_91 hX hC (by rw [hR]; decide) rfl)
    rw [Int32.lt_iff_toInt_lt, Int32.lt_iff_toInt_lt] at h
    have e0 : (0 : Int32).toInt = 0 := rfl
    have e6 : (6 : Int32).toInt = 6 := rfl
    omega
theorem k_Fs_letter (hl : l.stackTraces = false) {x1 x2 x3 : Int32} {n : Nat} {cnt : Nat → Nat} (hn : n ≤ 32) (hc : ∀ r, r < n → cnt r ≤ 12 ∧ wc r = nI (cnt r)) : ab_K l M_Fs_letter (ab_x 1) (0, 0) [.ref 1, .int x1, .int x2, .int x3] (hf pd (sw, wc, sv, fy, ly, ro, nI n, aw, dw) tr ru qu to al z)
    (fun q => q = if ((¬ x1 < 0 ∧ x1 < nI n) ∧ ¬ x2 < 0 ∧ x2 < nI (cnt x1.toNatClampNeg)) ∧ ¬ x3 < -1 ∧ x3 < nI (lenW (sw (x1.toNatClampNeg * 12 + x2.toNatClampNeg))) then (.inl (some (.int (if x3 = -1 then nI (lenW (sw (x1.toNatClampNeg * 12 + x2.toNatClampNeg))) else cA (sw (x1.toNatClampNeg * 12 + x2.toNatClampNeg)) x3 + 96))), hf pd (sw, wc, sv, fy, ly, ro, nI n, aw, dw) tr ru qu to al z) else (.inr x_ns, hf pd (sw, wc, sv, fy, ly, ro, nI n, aw, dw) tr ru qu to al z)) := by
  refine e_Fs_letter hl (by decide) (fun X hl1 hR hX hC => ?_)
  have hl2 : (X.2.1).stackTraces = false := by rw [hl1]; exact hl
  refine t_Fs_letter_0_1 hX (q_Fs_letter_2 hX (ab_conT hC) (k_Fs_requireRecord hl2) (by rw [hR]; decide) (fun v h' e => ?_) (fun E h' e => ?_))
  · obtain ⟨c1, rfl, rfl⟩ := ab_ck_r e
    obtain ⟨r, hr, rfl⟩ := ab_ofI c1.1 c1.2 (by omega)
    have hin : vp_in (nI r) 32 := vp_in_nI (by omega) (by omega)
    have hcl : (nI r).toNatClampNeg = r := nI_clamp (by omega)
    obtain ⟨w1, w2⟩ := hc r hr
    rw [hcl] at hC
    by_cases h1 : x2 < 0
    · rw [if_neg (fun q => q.1.2.1 h1)] at hC
      exact t_Fs_letter_5_3 hX h1 (w_Fs_letter_22 hX hC (by rw [hR]; decide) rfl)
    · by_cases h2 : x2 < nI (cnt r)
      · obtain ⟨i, hi, rfl⟩ := ab_ofI h1 h2 (by omega)
        obtain ⟨-, e2, e3⟩ := ab_i12 (show r < 32 by omega) (show i < 12 by omega)
        rw [nI_clamp (show i < 2 ^ 31 by omega)] at hC
        refine t_Fs_letter_5_2 hX h1 hin (by rw [hcl, w2]; exact h2) (q_Fs_letter_38 hX (ab_conT hC) (k_Sh_wordOf hl2 e2) (by rw [hR]; decide) (fun v h' e => ?_) (fun E h' e => by cases e))
        cases e
        rw [e3]
        refine t_Fs_letter_41_1 hX (q_Fs_letter_45 hX (ab_conT hC) (k_Wo_lengthOf hl2) (by rw [hR]; decide) (fun v h' e => ?_) (fun E h' e => by cases e))
        cases e
        by_cases h3 : x3 < -1
        · rw [if_neg (fun q => q.2.1 h3)] at hC
          exact t_Fs_letter_48_4 hX h3 (w_Fs_letter_61 hX hC (by rw [hR]; decide) rfl)
        · by_cases h4 : x3 < nI (lenW (sw (r * 12 + i)))
          · rw [if_pos ⟨⟨c1, h1, h2⟩, h3, h4⟩] at hC
            by_cases h5 : x3 = -1
            · rw [if_pos h5] at hC
              exact t_Fs_letter_48_2 hX h3 h4 h5 (r_Fs_letter_87 hX hC (by decide) rfl)
            · rw [if_neg h5] at hC
              refine t_Fs_letter_48_3 hX h3 h4 h5 (q_Fs_letter_84 hX (ab_conT hC) (k_Wo_letterOf hl2) (by rw [hR]; decide) (fun v h' e => ?_) (fun E h' e => by cases e))
              cases e
              exact r_Fs_letter_87 hX hC (by decide) rfl
          · rw [if_neg (fun q => h4 q.2.2)] at hC
            exact t_Fs_letter_48_1 hX h3 h4 (w_Fs_letter_61 hX hC (by rw [hR]; decide) rfl)
      · rw [if_neg (fun q => h2 q.1.2.2)] at hC
        exact t_Fs_letter_5_1 hX h1 hin (by rw [hcl, w2]; exact h2) (w_Fs_letter_22 hX hC (by rw [hR]; decide) rfl)
  · obtain ⟨c1, rfl, rfl⟩ := ab_ck_t e
    rw [if_neg (fun q => c1 q.1.1)] at hC
    exact ab_out hX hC rfl (by rw [hR]; decide) rfl
theorem k_Fs_word (hl : l.stackTraces = false) {x1 : Int32} {n m : Nat} {cnt : Nat → Nat} (hn : n ≤ 32) (hm : m ≤ 60) (hc : ∀ r, r < n → cnt r ≤ 12 ∧ wc r = nI (cnt r)) : ab_K l M_Fs_word (ab_x 2) (0, 0) [.ref 1, .int x1] (hf (pf, nI m) (sw, wc, sv, fy, ly, ro, nI n, aw, dw) tr ru qu to al z)
    (fun q => q = if ¬ x1 < 0 ∧ x1 < nI n then (if lnP pf m 0 = 0 ∨ ¬ lnP pf m 0 = m then (.inr x_ia, hf (pf, nI m) (sw, wc, sv, fy, ly, ro, nI n, aw, dw) tr ru qu to al z)
      else if hasW sw x1.toNatClampNeg (cnt x1.toNatClampNeg) (lfW pf m 0 10 0 0) = true then (.inl (some (.int (nI (cnt x1.toNatClampNeg)))), hf (pf, 0) (sw, wc, sv, fy, ly, ro, nI n, aw, dw) tr ru qu to al z)
      else if cnt x1.toNatClampNeg < 12 then (.inl (some (.int (nI (cnt x1.toNatClampNeg + 1)))), hf (pf, 0) (insL (x1.toNatClampNeg * 12) (lfW pf m 0 10 0 0) (cnt x1.toNatClampNeg) sw, upd wc x1.toNatClampNeg (nI (cnt x1.toNatClampNeg + 1)), sv, fy, ly, ro, nI n, aw + 1, if knW sw cnt n (lfW pf m 0 10 0 0) = true then dw else dw + 1) tr ru qu to al z)
      else (.inr x_is, hf (pf, nI m) (sw, wc, sv, fy, ly, ro, nI n, aw, dw) tr ru qu to al z)) else (.inr x_ns, hf (pf, nI m) (sw, wc, sv, fy, ly, ro, nI n, aw, dw) tr ru qu to al z)) := by
  refine e_Fs_word hl (by decide) (fun X hl1 hR hX hC => ?_)
  have hl2 : (X.2.1).stackTraces = false := by rw [hl1]; exact hl
  have hW := isW_pad pf m 0
  have h10 := lnP_le pf m 0
  refine t_Fs_word_0_1 hX (q_Fs_word_2 hX (ab_conT hC) (k_Fs_requireRecord hl2) (by rw [hR]; decide) (fun v h' e => ?_) (fun E h' e => ?_))
  · obtain ⟨c1, rfl, rfl⟩ := ab_ck_r e
    rw [if_pos c1] at hC
    obtain ⟨r, hr, rfl⟩ := ab_ofI c1.1 c1.2 (by omega)
    have hin : vp_in (nI r) 32 := vp_in_nI (by omega) (by omega)
    have hcl : (nI r).toNatClampNeg = r := nI_clamp (by omega)
    obtain ⟨w1, w2⟩ := hc r hr
    rw [hcl] at hC
    refine t_Fs_word_5_1 hX (q_Fs_word_10 hX (ab_conT hC) (k_Pa_lettersFrom (n := m) (p := 0) hl2 hm (by omega) rfl) (by rw [hR]; decide) (fun v h' e => ?_) (fun E h' e => by cases e))
    cases e
    by_cases h1 : lnP pf m 0 = 0
    · rw [if_pos (Or.inl h1)] at hC
      exact t_Fs_word_13_2 hX ((lg_cmp_eq _ _).mpr ((isW_0 hW).mpr h1)) (w_Fs_word_34 hX hC (by rw [hR]; decide) rfl)
    · refine t_Fs_word_13_1 hX (fun q => h1 ((isW_0 hW).mp ((lg_cmp_eq _ _).mp q))) (q_Fs_word_21 hX (ab_conT hC) (k_Wo_lengthOf hl2) (by rw [hR]; decide) (fun v h' e => ?_) (fun E h' e => by cases e))
      cases e
      rw [isW_len hW]
      by_cases h2 : lnP pf m 0 = m
      · rw [if_neg (fun q => q.elim h1 (fun q => q h2))] at hC
        refine t_Fs_word_24_2 hX (by rw [h2]) (q_Fs_word_50 hX (ab_conT hC) (k_Sh_hasWord hl2 (by omega) w1 w2) (by rw [hR]; decide) (fun v h' e => ?_) (fun E h' e => by cases e))
        cases e
        cases hh : hasW sw r (cnt r) (lfW pf m 0 10 0 0) with
        | true =>
          rw [if_pos hh] at hC
          refine t_Fs_word_53_3 hX (by decide) (t_Fs_word_89_1 hX hin (r_Fs_word_106 hX hC (by decide) ?_))
          rw [hcl, w2]
        | false =>
          rw [if_neg (by rw [hh]; decide)] at hC
          by_cases h3 : cnt r < 12
          · rw [if_pos h3] at hC
            refine t_Fs_word_53_2 hX rfl hin (by rw [hcl, w2]; exact nI_lt (b := 12) h3 (by omega)) (q_Fs_word_86 hX (ab_conT hC) (k_Sh_addWord hl2 hn rfl hc hr h3) (by rw [hR]; decide) (fun v h' e => ?_) (fun E h' e => by cases e))
            cases e
            refine t_Fs_word_89_1 hX hin (r_Fs_word_106 hX hC (by decide) ?_)
            rw [hcl, pk_us]
          · rw [if_neg h3] at hC
            exact t_Fs_word_53_1 hX rfl hin (by rw [hcl, w2]; exact nI_nlt (b := 12) (by omega) (by omega)) (w_Fs_word_70 hX hC (by rw [hR]; decide) rfl)
      · rw [if_pos (Or.inr h2)] at hC
        exact t_Fs_word_24_1 hX (fun q => h2 ((nI_eq (by omega) (by omega)).mp q)) (w_Fs_word_34 hX hC (by rw [hR]; decide) rfl)
  · obtain ⟨c1, rfl, rfl⟩ := ab_ck_t e
    rw [if_neg c1] at hC
    exact ab_out hX hC rfl (by rw [hR]; decide) rfl
end K10
