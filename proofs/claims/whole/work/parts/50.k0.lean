/-! CONTRACTS, the small ones of the class (by hand) -/
abbrev ab_r (d : Nat) : Room := { frames := 1 + d, cells := 0, slots := 0, locals := 24 + 40 * d }
abbrev ab_x (d : Nat) : Room := { frames := 6 + d, cells := 1, slots := 6, locals := 104 + 40 * d }
abbrev x_ns : String := "java/util/NoSuchElementException"
abbrev x_ia : String := "java/lang/IllegalArgumentException"
abbrev x_is : String := "java/lang/IllegalStateException"
theorem ab_conT {X : ab_X} {M : ab_M} {rt : Nat × Nat} {h0 : List ab_C} {Qr : ab_Y → Prop} (hC : ab_con X M rt h0 Qr) : ab_T (ab_B X) (ab_s X) := by
  obtain ⟨p, l, e, R, s, m, args, below, meth, c, D, ca, B, n0, ad0, sc, Q⟩ := X
  exact hC.2.2.1
/-- a check: it goes on, or throws -/
def ab_ck (c : Prop) (E : String) (h : List ab_C) : ab_Y → Prop := fun r => (c ∧ r = (.inl none, h)) ∨ (¬ c ∧ r = (.inr E, h))
section K0
variable {l : Launch} {pd : gt_pd} {sh : gt_sh} {tr : gt_tr} {ru : gt_ru} {qu : gt_qu} {to : gt_to} {al : gt_al} {z : List ab_C} {sw : Nat → Int64} {wc sv fy ly ro pf tp hr hp ts vc ar ap : Nat → Int32} {ss aw dw pn hz tt az : Int32}
theorem k_Fs_requireRecord (hl : l.stackTraces = false) {x1 : Int32} : ab_K l M_Fs_requireRecord (ab_x 0) (0, 0) [.ref 1, .int x1] (hf pd (sw, wc, sv, fy, ly, ro, ss, aw, dw) tr ru qu to al z) (ab_ck (¬ x1 < 0 ∧ x1 < ss) x_ns (hf pd (sw, wc, sv, fy, ly, ro, ss, aw, dw) tr ru qu to al z)) := by
  refine e_Fs_requireRecord hl (by decide) (fun X hl1 hR hX hC => ?_)
  by_cases h1 : x1 < 0
  · exact t_Fs_requireRecord_0_3 hX h1 (w_Fs_requireRecord_15 hX hC (by rw [hR]; decide) (Or.inr ⟨fun h => h.1 h1, rfl⟩))
  · by_cases h2 : x1 < ss
    · exact t_Fs_requireRecord_0_2 hX h1 h2 (r_Fs_requireRecord_25 hX hC (by decide) (Or.inl ⟨⟨h1, h2⟩, rfl⟩))
    · exact t_Fs_requireRecord_0_1 hX h1 h2 (w_Fs_requireRecord_15 hX hC (by rw [hR]; decide) (Or.inr ⟨fun h => h2 h.2, rfl⟩))
theorem k_Fs_requireFacet (hl : l.stackTraces = false) {x0 : Int32} : ab_K l M_Fs_requireFacet (ab_x 0) (0, 0) [.int x0] (hf pd sh tr ru qu to al z) (ab_ck (¬ x0 < 0 ∧ x0 < 4) x_ns (hf pd sh tr ru qu to al z)) := by
  refine e_Fs_requireFacet hl (by decide) (fun X hl1 hR hX hC => ?_)
  by_cases h1 : x0 < 0
  · exact t_Fs_requireFacet_0_3 hX h1 (w_Fs_requireFacet_9 hX hC (by rw [hR]; decide) (Or.inr ⟨fun h => h.1 h1, rfl⟩))
  · by_cases h2 : x0 < 4
    · exact t_Fs_requireFacet_0_2 hX h1 h2 (r_Fs_requireFacet_19 hX hC (by decide) (Or.inl ⟨⟨h1, h2⟩, rfl⟩))
    · exact t_Fs_requireFacet_0_1 hX h1 h2 (w_Fs_requireFacet_9 hX hC (by rw [hR]; decide) (Or.inr ⟨fun h => h2 h.2, rfl⟩))
theorem k_Fs_clear (hl : l.stackTraces = false) : ab_K l M_Fs_clear (ab_r 0) (0, 0) [.ref 1] (hf (pf, pn) sh tr ru qu to al z) (fun r => r = (.inl (some (.int pn)), hf (pf, 0) sh tr ru qu to al z)) := by
  refine e_Fs_clear hl (by decide) (fun X hl1 hR hX hC => ?_)
  exact t_Fs_clear_0_1 hX (r_Fs_clear_17 hX hC (by decide) rfl)
theorem k_Fs_record (hl : l.stackTraces = false) : ab_K l M_Fs_record (ab_x 0) (0, 0) [.ref 1] (hf pd (sw, wc, sv, fy, ly, ro, ss, aw, dw) tr ru qu to al z) (fun r => (ss < 32 ∧ r = (.inl (some (.int ss)), hf pd (sw, wc, sv, fy, ly, ro, ss + 1, aw, dw) tr ru qu to al z)) ∨ (¬ ss < 32 ∧ r = (.inr x_is, hf pd (sw, wc, sv, fy, ly, ro, ss, aw, dw) tr ru qu to al z))) := by
  refine e_Fs_record hl (by decide) (fun X hl1 hR hX hC => ?_)
  by_cases h1 : ss < 32
  · refine t_Fs_record_0_2 hX h1 (r_Fs_record_44 hX hC (by decide) (Or.inl ⟨h1, ?_⟩))
    rw [Int32.add_sub_cancel]
  · exact t_Fs_record_0_1 hX h1 (w_Fs_record_12 hX hC (by rw [hR]; decide) (Or.inr ⟨h1, rfl⟩))
end K0
theorem ab_ck_r {c : Prop} {E : String} {h h' : List ab_C} {v : Option Value} (e : ab_ck c E h (.inl v, h')) : c ∧ v = none ∧ h' = h := by
  rcases e with ⟨hc, e⟩ | ⟨-, e⟩
  · cases e; exact ⟨hc, rfl, rfl⟩
  · cases e
theorem ab_ck_t {c : Prop} {E E' : String} {h h' : List ab_C} (e : ab_ck c E h (.inr E', h')) : ¬ c ∧ E' = E ∧ h' = h := by
  rcases e with ⟨-, e⟩ | ⟨hc, e⟩
  · cases e
  · cases e; exact ⟨hc, rfl, rfl⟩
theorem ab_ofI {x : Int32} {n : Nat} (h0 : ¬ x < 0) (h1 : x < nI n) (hn : n < 2 ^ 31) : ∃ a : Nat, a < n ∧ x = nI a := by
  obtain ⟨j, hj, rfl⟩ := nI_of h0
  exact ⟨j, (nI_ltI hj hn).mp h1, rfl⟩
theorem ab_lin (a b k : Nat) : nI a * nI k + nI b = nI (a * k + b) := by rw [pk_mul, nI_add]
section K1
variable {l : Launch} {pd : gt_pd} {sh : gt_sh} {tr : gt_tr} {ru : gt_ru} {qu : gt_qu} {to : gt_to} {al : gt_al} {z : List ab_C} {sw : Nat → Int64} {wc sv fy ly ro pf tp hr hp ts vc ar ap : Nat → Int32} {ss aw dw pn hz tt az : Int32}
theorem k_Fs_requireValue (hl : l.stackTraces = false) {x0 : Int32} : ab_K l M_Fs_requireValue (ab_x 0) (0, 0) [.int x0] (hf pd sh tr ru qu to al z) (ab_ck (¬ x0 < 0 ∧ x0 < 16) x_ns (hf pd sh tr ru qu to al z)) := by
  refine e_Fs_requireValue hl (by decide) (fun X hl1 hR hX hC => ?_)
  by_cases h1 : x0 < 0
  · exact t_Fs_requireValue_0_3 hX h1 (w_Fs_requireValue_10 hX hC (by rw [hR]; decide) (Or.inr ⟨fun h => h.1 h1, rfl⟩))
  · by_cases h2 : x0 < 16
    · exact t_Fs_requireValue_0_2 hX h1 h2 (r_Fs_requireValue_20 hX hC (by decide) (Or.inl ⟨⟨h1, h2⟩, rfl⟩))
    · exact t_Fs_requireValue_0_1 hX h1 h2 (w_Fs_requireValue_10 hX hC (by rw [hR]; decide) (Or.inr ⟨fun h => h2 h.2, rfl⟩))
theorem k_Fs_requireRole (hl : l.stackTraces = false) {x0 : Int32} : ab_K l M_Fs_requireRole (ab_x 0) (0, 0) [.int x0] (hf pd sh tr ru qu to al z) (ab_ck (¬ x0 < 0 ∧ x0 < 8) x_ns (hf pd sh tr ru qu to al z)) := by
  refine e_Fs_requireRole hl (by decide) (fun X hl1 hR hX hC => ?_)
  by_cases h1 : x0 < 0
  · exact t_Fs_requireRole_0_3 hX h1 (w_Fs_requireRole_10 hX hC (by rw [hR]; decide) (Or.inr ⟨fun h => h.1 h1, rfl⟩))
  · by_cases h2 : x0 < 8
    · exact t_Fs_requireRole_0_2 hX h1 h2 (r_Fs_requireRole_20 hX hC (by decide) (Or.inl ⟨⟨h1, h2⟩, rfl⟩))
    · exact t_Fs_requireRole_0_1 hX h1 h2 (w_Fs_requireRole_10 hX hC (by rw [hR]; decide) (Or.inr ⟨fun h => h2 h.2, rfl⟩))
theorem k_Fs_requireHit (hl : l.stackTraces = false) {x1 : Int32} : ab_K l M_Fs_requireHit (ab_x 0) (0, 0) [.ref 1, .int x1] (hf pd sh tr ru qu (hr, hp, hz, ts, vc, tt) al z) (ab_ck (¬ x1 < 0 ∧ x1 < hz) x_ns (hf pd sh tr ru qu (hr, hp, hz, ts, vc, tt) al z)) := by
  refine e_Fs_requireHit hl (by decide) (fun X hl1 hR hX hC => ?_)
  by_cases h1 : x1 < 0
  · exact t_Fs_requireHit_0_3 hX h1 (w_Fs_requireHit_18 hX hC (by rw [hR]; decide) (Or.inr ⟨fun h => h.1 h1, rfl⟩))
  · by_cases h2 : x1 < hz
    · exact t_Fs_requireHit_0_2 hX h1 h2 (r_Fs_requireHit_28 hX hC (by decide) (Or.inl ⟨⟨h1, h2⟩, rfl⟩))
    · exact t_Fs_requireHit_0_1 hX h1 h2 (w_Fs_requireHit_18 hX hC (by rw [hR]; decide) (Or.inr ⟨fun h => h2 h.2, rfl⟩))
theorem k_Fs_requireValueOrNone (hl : l.stackTraces = false) {x0 : Int32} : ab_K l M_Fs_requireValueOrNone (ab_x 1) (0, 0) [.int x0] (hf pd sh tr ru qu to al z) (ab_ck (x0 = -1 ∨ ¬ x0 < 0 ∧ x0 < 16) x_ns (hf pd sh tr ru qu to al z)) := by
  refine e_Fs_requireValueOrNone hl (by decide) (fun X hl1 hR hX hC => ?_)
  by_cases h1 : x0 = -1
  · exact t_Fs_requireValueOrNone_0_2 hX h1 (r_Fs_requireValueOrNone_9 hX hC (by decide) (Or.inl ⟨Or.inl h1, rfl⟩))
  · refine t_Fs_requireValueOrNone_0_1 hX h1 (q_Fs_requireValueOrNone_6 hX (ab_conT hC) (k_Fs_requireValue (by rw [hl1]; exact hl)) (by rw [hR]; decide) (fun v h' e => ?_) (fun E h' e => ?_))
    · obtain ⟨hc, rfl, rfl⟩ := ab_ck_r e
      exact r_Fs_requireValueOrNone_9 hX hC (by decide) (Or.inl ⟨Or.inr hc, rfl⟩)
    · obtain ⟨hc, rfl, rfl⟩ := ab_ck_t e
      exact ab_out hX hC rfl (by rw [hR]; decide) (Or.inr ⟨fun h => h.elim h1 hc, rfl⟩)
theorem k_Sh_valueOf (hl : l.stackTraces = false) {x1 x2 : Int32} (hb : vp_in (x1 * 4 + x2) 128) : ab_K l M_Sh_valueOf (ab_r 0) (0, 0) [.ref 4, .int x1, .int x2] (hf pd (sw, wc, sv, fy, ly, ro, ss, aw, dw) tr ru qu to al z) (fun r => r = (.inl (some (.int (sv (x1 * 4 + x2).toNatClampNeg))), hf pd (sw, wc, sv, fy, ly, ro, ss, aw, dw) tr ru qu to al z)) := by
  refine e_Sh_valueOf hl (by decide) (fun X hl1 hR hX hC => ?_)
  exact t_Sh_valueOf_0_1 hX hb (r_Sh_valueOf_10 hX hC (by decide) rfl)
theorem k_Sh_wordOf (hl : l.stackTraces = false) {x1 x2 : Int32} (hb : vp_in (x1 * 12 + x2) 384) : ab_K l M_Sh_wordOf (ab_r 0) (0, 0) [.ref 4, .int x1, .int x2] (hf pd (sw, wc, sv, fy, ly, ro, ss, aw, dw) tr ru qu to al z) (fun r => r = (.inl (some (.long (sw (x1 * 12 + x2).toNatClampNeg))), hf pd (sw, wc, sv, fy, ly, ro, ss, aw, dw) tr ru qu to al z)) := by
  refine e_Sh_wordOf hl (by decide) (fun X hl1 hR hX hC => ?_)
  exact t_Sh_wordOf_0_1 hX hb (r_Sh_wordOf_11 hX hC (by decide) rfl)
theorem ab_i4 {x1 x2 : Int32} {n : Nat} (hn : n ≤ 32) (h1 : ¬ x1 < 0) (h2 : x1 < nI n) (h3 : ¬ x2 < 0) (h4 : x2 < 4) : ∃ a b : Nat, a < n ∧ b < 4 ∧ x1 = nI a ∧ x2 = nI b ∧ x1 * 4 + x2 = nI (a * 4 + b) ∧ vp_in (x1 * 4 + x2) 128 := by
  obtain ⟨a, ha, rfl⟩ := ab_ofI h1 h2 (by omega)
  obtain ⟨b, hb, rfl⟩ := ab_ofI (n := 4) h3 h4 (by omega)
  have e : nI a * 4 + nI b = nI (a * 4 + b) := ab_lin a b 4
  exact ⟨a, b, ha, hb, rfl, rfl, e, by rw [e]; exact vp_in_nI (by omega) (by omega)⟩
theorem k_Fs_facet (hl : l.stackTraces = false) {x1 x2 x3 : Int32} {n : Nat} (hn : n ≤ 32) (hs : ss = nI n) : ab_K l M_Fs_facet (ab_x 2) (0, 0) [.ref 1, .int x1, .int x2, .int x3] (hf pd (sw, wc, sv, fy, ly, ro, ss, aw, dw) tr ru qu to al z)
    (fun r => ((((¬ x1 < 0 ∧ x1 < ss) ∧ ¬ x2 < 0 ∧ x2 < 4) ∧ (x3 = -1 ∨ ¬ x3 < 0 ∧ x3 < 16)) ∧ r = (.inl (some (.int (sv (x1 * 4 + x2).toNatClampNeg))), hf pd (sw, wc, upd sv (x1 * 4 + x2).toNatClampNeg x3, fy, ly, ro, ss, aw, dw) tr ru qu to al z)) ∨ (¬ (((¬ x1 < 0 ∧ x1 < ss) ∧ ¬ x2 < 0 ∧ x2 < 4) ∧ (x3 = -1 ∨ ¬ x3 < 0 ∧ x3 < 16)) ∧ r = (.inr x_ns, hf pd (sw, wc, sv, fy, ly, ro, ss, aw, dw) tr ru qu to al z))) := by
  refine e_Fs_facet hl (by decide) (fun X hl1 hR hX hC => ?_)
  have hl2 : (X.2.1).stackTraces = false := by rw [hl1]; exact hl
  refine t_Fs_facet_0_1 hX (q_Fs_facet_2 hX (ab_conT hC) (k_Fs_requireRecord hl2) (by rw [hR]; decide) (fun v h' e => ?_) (fun E h' e => ?_))
  · obtain ⟨c1, rfl, rfl⟩ := ab_ck_r e
    refine t_Fs_facet_5_1 hX (q_Fs_facet_6 hX (ab_conT hC) (k_Fs_requireFacet hl2) (by rw [hR]; decide) (fun v h' e => ?_) (fun E h' e => ?_))
    · obtain ⟨c2, rfl, rfl⟩ := ab_ck_r e
      refine t_Fs_facet_9_1 hX (q_Fs_facet_10 hX (ab_conT hC) (k_Fs_requireValueOrNone hl2) (by rw [hR]; decide) (fun v h' e => ?_) (fun E h' e => ?_))
      · obtain ⟨c3, rfl, rfl⟩ := ab_ck_r e
        obtain ⟨a, b, -, -, -, -, -, hb⟩ := ab_i4 hn c1.1 (hs ▸ c1.2) c2.1 c2.2
        refine t_Fs_facet_13_1 hX (q_Fs_facet_19 hX (ab_conT hC) (k_Sh_valueOf hl2 hb) (by rw [hR]; decide) (fun v h' e => ?_) (fun E h' e => by cases e))
        cases e
        exact t_Fs_facet_22_1 hX hb (r_Fs_facet_40 hX hC (by decide) (Or.inl ⟨⟨⟨c1, c2⟩, c3⟩, rfl⟩))
      · obtain ⟨c3, rfl, rfl⟩ := ab_ck_t e
        exact ab_out hX hC rfl (by rw [hR]; decide) (Or.inr ⟨fun h => c3 h.2, rfl⟩)
    · obtain ⟨c2, rfl, rfl⟩ := ab_ck_t e
      exact ab_out hX hC rfl (by rw [hR]; decide) (Or.inr ⟨fun h => c2 h.1.2, rfl⟩)
  · obtain ⟨c1, rfl, rfl⟩ := ab_ck_t e
    exact ab_out hX hC rfl (by rw [hR]; decide) (Or.inr ⟨fun h => c1 h.1.1, rfl⟩)
end K1
