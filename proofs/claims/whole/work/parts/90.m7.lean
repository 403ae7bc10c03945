/-! CONTRACTS OF THE REFERENCE: ask (a template: gen/tpl.py) -/
theorem pT_okM {pf : Nat → Int32} {n a : Nat} (h : (pT pf n a).1 = true) : tmOkM pf n (pT pf n a).2.2 := by
  have hW : (pW pf n a).1 = true → tmOkM pf n (pW pf n a).2.2 := by
    intro h
    unfold pW at h ⊢
    split at h
    · cases h
    · rename_i h0
      rw [if_neg h0]
      split
      · exact Or.inr (Or.inl ⟨rfl, rfl⟩)
      · exact Or.inl ⟨rfl, rfl⟩
  have hk := pT_ok h
  unfold pT at h hk ⊢
  by_cases h1 : sgN pf n a = 64
  · rw [if_pos h1] at h ⊢
    unfold pY pY2
    split
    · exact Or.inr (Or.inr (Or.inr rfl))
    · split
      · exact Or.inr (Or.inr (Or.inr rfl))
      · exact Or.inr (Or.inr (Or.inr rfl))
  · rw [if_neg h1] at h hk ⊢
    by_cases h2 : sgN pf n a < 48
    · rw [if_pos h2] at h ⊢
      exact hW h
    · rw [if_neg h2] at h hk ⊢
      by_cases h3 : 52 ≤ sgN pf n a
      · rw [if_pos h3] at h ⊢
        exact hW h
      · rw [if_neg h3] at h hk ⊢
        have hkd : (pV pf n a).2.2.1 = 2 := by
          unfold pV
          split <;> rfl
        rcases hk with e | e | e | e
        · rw [hkd] at e; exact absurd e (by decide)
        · rw [hkd] at e; exact absurd e (by decide)
        · exact Or.inr (Or.inr (Or.inl e))
        · exact Or.inr (Or.inr (Or.inr e))
theorem rdS_okM {pf : Nat → Int32} {n : Nat} : ∀ k a L, (∀ tm ∈ L, tmOkM pf n tm) → ∀ tm ∈ (rdS pf n k a L).2, tmOkM pf n tm
  | 0, a, L, hL => by
    unfold rdS
    split
    · exact hL
    · exact hL
  | k + 1, a, L, hL => by
    unfold rdS
    split
    · split
      · rename_i h1
        split
        · refine rdS_okM k _ _ (fun tm ht => ?_)
          rcases List.mem_append.mp ht with h | h
          · exact hL tm h
          · rw [List.mem_singleton.mp h]
            exact pT_okM h1
        · exact hL
      · exact hL
    · exact hL
/-- what note tells -/
def noteP (S : Nat → Nat → Nat) (T : Nat) (sn : Nat → Bool) (np nv : Nat → Int32) (n : Nat) (mo : gt_mo) : Prop := mo.1 = nI T ∧ mo.2.1 = nI (enA (toF S T sn) n 80 81).length ∧
  (∀ (i o : Nat), (enA (toF S T sn) n 80 81)[i]? = some o → mo.2.2.1 i = nI o ∧ mo.2.2.2.1 i = oI (toF S T sn o) ∧ ∀ t, t < T → mo.2.2.2.2.1 (8 * i + t) = nI (S o t)) ∧
  ∀ k, k < 64 → mo.2.2.2.2.2.2.2 k = nI (ccS np nv (enA (toF S T sn) n 80 81) k (enA (toF S T sn) n 80 81).length)
section M7
variable {l : Launch} {pd : gt_pd} {sh : gt_sh} {tr : gt_tr} {ru : gt_ru} {qu : gt_qu} {to : gt_to} {al : gt_al} {mt : gt_mt} {mp : gt_mp} {mr : gt_mr} {mq : gt_mq} {mo : gt_mo} {mx : gt_mx} {z : List ab_C} {ma ny nl nt nv np nf nu nh bk bf bs bd vr vs vp vo vx vn wt wo : Nat → Int32} {me mn nr br ba vt vh : Int32}
set_option maxHeartbeats 1000000 in
theorem k_Mo_ask (hl : l.stackTraces = false) {x : Int32} {n m : Nat} {ln cnt : Nat → Nat} {A : Option Nat × List gTm} (hn : n ≤ 32) (h60 : m ≤ 60) (hsg : sgOk ma m) (hc : ∀ r, r < n → cnt r ≤ 12 ∧ ny r = nI (cnt r)) (hln : ∀ r, r < n → ∀ i, i < cnt r → lnOk nl ln (12 * r + i))
    (hq : ∀ j, j < 64 → okv (np j)) (hch : ∀ f, f < 4 → ∀ v, okv v → chE (pO np f) 16 v) (hv : ∀ j, j < 128 → okv (nv j)) (hA : A = rdS ma m 8 (skP ma m 0) []) :
    ab_K l M_Mo_ask (ab_r 4) (0, 0) [.ref 31, .int x] (hf pd sh tr ru qu to al (hm mt (ma, nI m) (nI n, ny, nl, nt, nv, np, nf, nu, nh) mq mo mx z))
      (fun q => if wi x 0 7 = true then (match A.1 with
        | some a => ∃ mq' : gt_mq, q = (.inl (some (.int (-1 - nI a))), (hf pd sh tr ru qu to al (hm 0 (ma, nI m) (nI n, ny, nl, nt, nv, np, nf, nu, nh) mq' mo mx z)))
        | none => ∃ (mq' : gt_mq) (mo' : gt_mo) (mx' : gt_mx), noteP (msL ma m nt nv np nf nu ln cnt A.2) A.2.length (fun r => decide (nh (8 * r + x.toNatClampNeg) = 0)) np nv n mo' ∧ q = (.inl (some (.int mo'.2.1)), (hf pd sh tr ru qu to al (hm 0 (ma, 0) (nI n, ny, nl, nt, nv, np, nf, nu, nh) mq' mo' mx' z))))
       else q = (.inl (some (.int 0)), (hf pd sh tr ru qu to al (hm 1 (ma, nI m) (nI n, ny, nl, nt, nv, np, nf, nu, nh) mq mo mx z)))) := by
  refine e_Mo_ask hl (by decide) (fun X hl1 hR hX hC => ?_)
  have hl2 : (X.2.1).stackTraces = false := by rw [hl1]; exact hl
  refine t_Mo_ask_0_1 hX (q_Mo_ask_5 hX (ab_conT hC) (k_Mo_within hl2) (by rw [hR]; decide) (fun v h' e => ?_) (fun E h' e => by first | (cases e; done) | (split at e <;> cases e)))
  cases e
  refine t_Mo_ask_8_1 hX ?_
  have hgo : ∀ B : Bool, B = wi x 0 7 → ab_W X M_Mo_ask (10, [(0, .ref 31), (1, .int x)], [.int 1, .int 1, .int (bI B), .ref 31], (hf pd sh tr ru qu to al (hm mt (ma, nI m) (nI n, ny, nl, nt, nv, np, nf, nu, nh) mq mo mx z)), 0, 0) := by
    intro B hB
    refine (q_Mo_ask_10 hX (ab_conT hC) (k_Mo_goes (b := true) (c := true) hl2) (by rw [hR]; decide) (fun v h' e => ?_) (fun E h' e => by first | (cases e; done) | (split at e <;> cases e)))
    cases e
    cases B with
    | false =>
      refine t_Mo_ask_13_1 hX rfl (r_Mo_ask_17 hX hC (by decide) ?_)
      rw [if_neg (by rw [← hB]; decide)]
      rfl
    | true =>
      refine t_Mo_ask_13_2 hX (by decide) (q_Mo_ask_19 hX (ab_conT hC) (k_Mo_reads hl2 h60 hsg) (by rw [hR]; decide) (fun v h' e => ?_) (fun E h' e => by obtain ⟨q1, e, -⟩ := e; cases e))
      obtain ⟨q1, e, g1, g2⟩ := e
      cases e
      obtain ⟨br, bk, bf, bs, bd, ba⟩ := q1
      rw [← hA] at g1 g2
      have hAA : (rdS ma m 8 (skP ma m 0) []).1 = A.1 := by rw [hA]
      cases hr : A.1 with
      | some a =>
        have hba : ba = nI a := g1 a hr
        refine t_Mo_ask_22_1 hX (by rw [hAA, hr]; rfl) (r_Mo_ask_31 hX hC (by decide) ?_)
        rw [if_pos hB.symm, hr]
        exact ⟨_, by rw [hba]; rfl⟩
      | none =>
        obtain ⟨g3, g4⟩ := g2 hr
        have hB2 : wi x 0 7 = true := hB.symm
        have hBB := hB2
        unfold wi at hBB
        obtain ⟨k1, k2⟩ := ab_and hBB
        have k1 := of_decide_eq_true k1
        have k2 := of_decide_eq_true k2
        obtain ⟨j, hj, rfl⟩ := nI_of2 (M := 7) (n := 7) rfl k1 (Decidable.byContradiction (fun q => k2 (i32_nle.mp q)))
        have hok : ∀ tm ∈ A.2, tmOkM ma m tm := by rw [hA]; exact rdS_okM 8 _ [] (fun tm ht => by cases ht)
        have hlen : A.2.length ≤ 8 := by
          have := rdS_len (pf := ma) (n := m) 8 (skP ma m 0) []
          rw [← hA] at this
          simpa using this
        have hcl : (nI j).toNatClampNeg = j := nI_clamp (by omega)
        refine t_Mo_ask_22_2 hX (by rw [hAA, hr]; decide) (q_Mo_ask_34 hX (ab_conT hC) (k_Mo_note (m := m) (L := A.2) (S := msL ma m nt nv np nf nu ln cnt A.2) hl2 hn (show j < 8 by omega) hc hln hq hch hv hlen g3 g4 hok rfl) (by rw [hR]; decide) (fun v h' e => ?_) (fun E h' e => by obtain ⟨a1, a2, a3, a4, a5, a6, a7, e, -⟩ := e; cases e))
        obtain ⟨vr', vs', vp', vo', vx', vn', mx', e, n1, n2⟩ := e
        cases e
        refine t_Mo_ask_37_1 hX (r_Mo_ask_46 hX hC (by decide) ?_)
        rw [if_pos hB2, hr, hcl]
        exact ⟨(br, bk, bf, bs, bd, ba), (nI A.2.length, nI (enA (toF (msL ma m nt nv np nf nu ln cnt A.2) A.2.length (fun r => decide (nh (8 * r + j) = 0))) n 80 81).length, vr', vs', vp', vo', vx', vn'), mx', ⟨rfl, rfl, n1, n2⟩, rfl⟩
  exact hgo _ rfl
end M7
