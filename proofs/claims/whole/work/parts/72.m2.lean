/-! CONTRACTS OF THE REFERENCE: a question is read (a template: gen/tpl.py) -/
/-- the pad's signs: 1 .. 127 -/
def sgOk (ma : Nat → Int32) (m : Nat) : Prop := ∀ j, j < m → ∃ c : Nat, 1 ≤ c ∧ c ≤ 127 ∧ ma j = nI c
def sgM (ma : Nat → Int32) (m a : Nat) : Int32 := if a < m then ma a else -1
theorem sgM_eq {ma : Nat → Int32} {m a : Nat} {s : Int32} (h0 : ¬ s = 0) (h1 : ¬ s = -1) : sgM ma m a = s ↔ sgN ma m a = s := by
  unfold sgM sgN
  split
  · exact Iff.rfl
  · exact ⟨fun q => absurd q.symm h1, fun q => absurd q.symm h0⟩
theorem sgM_lt {ma : Nat → Int32} {m a : Nat} : isLt (sgM ma m a) = isLt (sgN ma m a) := by
  unfold sgM sgN
  split
  · rfl
  · decide +kernel
theorem sgN_c {ma : Nat → Int32} {m a : Nat} (hs : sgOk ma m) : ∃ c : Nat, c ≤ 127 ∧ sgN ma m a = nI c ∧ (c = 0 ↔ m ≤ a) := by
  unfold sgN
  by_cases h : a < m
  · obtain ⟨c, h1, h2, h3⟩ := hs a h
    rw [if_pos h]
    exact ⟨c, h2, h3, by omega⟩
  · rw [if_neg h]
    exact ⟨0, by omega, rfl, by omega⟩
theorem m1_lt {n : Nat} (h : n < 2 ^ 31) : (-1 : Int32) < nI n := by
  rw [Int32.lt_iff_toInt_lt, nI_toInt h]
  have e : (-1 : Int32).toInt = -1 := rfl
  omega
theorem sgM_c {ma : Nat → Int32} {m a : Nat} (hs : sgOk ma m) {lo hi : Nat} (hlo : 1 ≤ lo) (hlo2 : lo ≤ 127) (hhi : hi ≤ 127) : ∃ c : Nat, c ≤ 127 ∧ sgN ma m a = nI c ∧ wi (sgM ma m a) (nI lo) (nI hi) = decide (lo ≤ c ∧ c ≤ hi) ∧ (lo ≤ c → sgM ma m a = nI c) := by
  unfold sgM sgN
  by_cases h : a < m
  · obtain ⟨c, h1, h2, h3⟩ := hs a h
    rw [if_pos h, if_pos h, h3]
    exact ⟨c, h2, rfl, wi_nI (by omega) (by omega) (by omega), fun _ => rfl⟩
  · rw [if_neg h, if_neg h]
    refine ⟨0, by omega, rfl, ?_, fun q => by omega⟩
    unfold wi
    rw [decide_eq_false (fun q => q (m1_lt (by omega))), Bool.false_and, decide_eq_false (fun q => absurd q.1 (by omega))]
theorem isLt_c {c : Nat} (hc : c ≤ 127) : isLt (nI c) = decide (97 ≤ c ∧ c ≤ 122) := by
  unfold isLt
  rw [Bool.eq_iff_iff, Bool.and_eq_true, decide_eq_true_eq, decide_eq_true_eq, decide_eq_true_eq, show (nI c < (97 : Int32)) = (nI c < nI 97) from rfl, nI_ltI (by omega) (by omega), show (nI c ≤ (122 : Int32)) = (nI c ≤ nI 122) from rfl, nI_leI (by omega) (by omega)]
  omega
theorem pT_letter {ma : Nat → Int32} {m a : Nat} (h : isLt (sgN ma m a) = true) : pT ma m a = pW ma m a := by
  obtain ⟨c, h1, h2, h3, -⟩ := isLt_of h
  unfold pT
  have q1 : ¬ nI (96 + c) = (64 : Int32) := fun q => absurd ((nI_eq (b := 64) (by omega) (by omega)).mp q) (by omega)
  have q2 : ¬ nI (96 + c) < (48 : Int32) := nI_nlt (b := 48) (by omega) (by omega)
  have q3 : (52 : Int32) ≤ nI (96 + c) := nI_le (a := 52) (by omega) (by omega)
  rw [h3, if_neg q1, if_neg q2, if_pos q3]
theorem pT_digit {ma : Nat → Int32} {m a c : Nat} (h3 : sgN ma m a = nI c) (h1 : 48 ≤ c) (h2 : c ≤ 51) : pT ma m a = pV ma m a := by
  unfold pT
  have q1 : ¬ nI c = (64 : Int32) := fun q => absurd ((nI_eq (b := 64) (by omega) (by omega)).mp q) (by omega)
  have q2 : ¬ nI c < (48 : Int32) := nI_nlt (b := 48) (by omega) (by omega)
  have q3 : ¬ (52 : Int32) ≤ nI c := nI_ge (b := 52) (by omega) (by omega)
  rw [h3, if_neg q1, if_neg q2, if_neg q3]
theorem pT_none {ma : Nat → Int32} {m a : Nat} (h : isLt (sgN ma m a) = false) (h1 : ¬ sgN ma m a = 64) (h2 : sgN ma m a < 48 ∨ 52 ≤ sgN ma m a) : pT ma m a = (false, a, 0, a, 0, 0) := by
  have hW : pW ma m a = (false, a, 0, a, 0, 0) := by
    unfold pW
    exact if_pos (by unfold lnP lnS; exact if_neg (by rw [Nat.add_zero, h]; decide))
  unfold pT
  rw [if_neg h1]
  by_cases q : sgN ma m a < 48
  · rw [if_pos q, hW]
  · rw [if_neg q, if_pos (h2.resolve_left q), hW]
def mPo (t : Nat) (q0 q1 : gt_mq) (a : Nat) : Prop :=
  q1.1 = q0.1 ∧ q1.2.2.2.2.2 = nI a ∧ (∀ j, j ≠ t → q1.2.1 j = q0.2.1 j ∧ q1.2.2.1 j = q0.2.2.1 j ∧ q1.2.2.2.1 j = q0.2.2.2.1 j) ∧ ∀ j, (j < 10 * t ∨ 10 * t + 10 ≤ j) → q1.2.2.2.2.1 j = q0.2.2.2.2.1 j
def mTm (ma : Nat → Int32) (m t : Nat) (q1 : gt_mq) (tm : gTm) : Prop :=
  q1.2.1 t = tm.1 ∧ q1.2.2.1 t = tm.2.2.1 ∧ (if tm.1 = 0 ∨ tm.1 = 1 then ∀ j, j < lnP ma m tm.2.1 → q1.2.2.2.2.1 (10 * t + j) = sgN ma m (tm.2.1 + j) else q1.2.2.2.1 t = tm.2.2.2)
section M2
variable {l : Launch} {pd : gt_pd} {sh : gt_sh} {tr : gt_tr} {ru : gt_ru} {qu : gt_qu} {to : gt_to} {al : gt_al} {mt : gt_mt} {mp : gt_mp} {mr : gt_mr} {mq : gt_mq} {mo : gt_mo} {mx : gt_mx} {z : List ab_C} {ma ny nl nt nv np nf nu nh bk bf bs bd vr vs vp vo vx vn wt wo : Nat → Int32} {me mn nr br ba vt vh : Int32}
theorem k_Mo_sign (hl : l.stackTraces = false) {m a : Nat} (h60 : m ≤ 60) (ha : a ≤ m) : ab_K l M_Mo_sign (ab_r 0) (0, 0) [.ref 31] (hf pd sh tr ru qu to al (hm mt (ma, nI m) mr (br, bk, bf, bs, bd, nI a) mo mx z)) (fun q => q = (.inl (some (.int (sgM ma m a))), (hf pd sh tr ru qu to al (hm mt (ma, nI m) mr (br, bk, bf, bs, bd, nI a) mo mx z)))) := by
  refine e_Mo_sign hl (by decide) (fun X hl1 hR hX hC => ?_)
  unfold sgM at hC
  by_cases h : a < m
  · rw [if_pos h] at hC
    refine t_Mo_sign_0_1 hX (nI_ge h (by omega)) (vp_in_nI (by omega) (by omega)) (r_Mo_sign_24 hX hC (by decide) ?_)
    rw [nI_clamp (by omega)]
  · rw [if_neg h] at hC
    exact t_Mo_sign_0_2 hX (nI_le (by omega) (by omega)) (r_Mo_sign_24 hX hC (by decide) rfl)
theorem k_Mo_takes (hl : l.stackTraces = false) {m a : Nat} {s : Int32} (h60 : m ≤ 60) (ha : a ≤ m) (h0 : ¬ s = 0) (h1 : ¬ s = -1) : ab_K l M_Mo_takes (ab_r 1) (0, 0) [.ref 31, .int s] (hf pd sh tr ru qu to al (hm mt (ma, nI m) mr (br, bk, bf, bs, bd, nI a) mo mx z)) (fun q => q = if sgN ma m a = s then (.inl (some (.int 1)), (hf pd sh tr ru qu to al (hm mt (ma, nI m) mr (br, bk, bf, bs, bd, nI (a + 1)) mo mx z))) else (.inl (some (.int 0)), (hf pd sh tr ru qu to al (hm mt (ma, nI m) mr (br, bk, bf, bs, bd, nI a) mo mx z)))) := by
  refine e_Mo_takes hl (by decide) (fun X hl1 hR hX hC => ?_)
  have hl2 : (X.2.1).stackTraces = false := by rw [hl1]; exact hl
  refine t_Mo_takes_0_1 hX (q_Mo_takes_1 hX (ab_conT hC) (k_Mo_sign hl2 h60 ha) (by rw [hR]; decide) (fun v h' e => ?_) (fun E h' e => by first | (cases e; done) | (split at e <;> cases e)))
  cases e
  by_cases h : sgN ma m a = s
  · rw [if_pos h] at hC
    refine t_Mo_takes_4_2 hX ((sgM_eq h0 h1).mpr h) (r_Mo_takes_21 hX hC (Or.inr rfl) (by decide) ?_)
    rw [nI_1]
  · rw [if_neg h] at hC
    exact t_Mo_takes_4_1 hX (fun q => h ((sgM_eq h0 h1).mp q)) (r_Mo_takes_9 hX hC (Or.inl rfl) (by decide) rfl)
theorem k_Mo_digits (hl : l.stackTraces = false) {m a D g : Nat} (h60 : m ≤ 60) (ha : a ≤ m) (hs : sgOk ma m) (hD : D ≤ 4) (hg : g ≤ 9999) : ab_K l M_Mo_digits (ab_r 1) (0, 0) [.ref 31, .int (nI D), .int (nI g)] (hf pd sh tr ru qu to al (hm mt (ma, nI m) mr (br, bk, bf, bs, bd, nI a) mo mx z)) (fun q => q = (.inl (some (.int (nuS ma m (nI g) D (-1) a).1)), (hf pd sh tr ru qu to al (hm mt (ma, nI m) mr (br, bk, bf, bs, bd, nI (nuS ma m (nI g) D (-1) a).2) mo mx z)))) := by
  refine e_Mo_digits hl (by decide) (fun X hl1 hR hX hC => ?_)
  have hl2 : (X.2.1).stackTraces = false := by rw [hl1]; exact hl
  obtain ⟨R9, hR9⟩ : ∃ R9, R9 = nuS ma m (nI g) D (-1) a := ⟨_, rfl⟩
  rw [← hR9] at hC
  refine t_Mo_digits_0_1 hX ?_
  have hend : ∀ (i u b : Nat), i ≤ 4 → (if i = 0 then (-1 : Int32) else nI u, b) = R9 → ab_W X M_Mo_digits (72, [(3, .int (nI i)), (4, .int (nI u))], [], (hf pd sh tr ru qu to al (hm mt (ma, nI m) mr (br, bk, bf, bs, bd, nI b) mo mx z)), 0, 0) := by
    intro i u b hi hN
    subst hN
    by_cases h0 : i = 0
    · rw [if_pos h0] at hC
      exact t_Mo_digits_72_1 hX (by rw [h0]; rfl) (r_Mo_digits_82 hX hC (by decide) rfl)
    · rw [if_neg h0] at hC
      exact t_Mo_digits_72_2 hX (nI_ne0 (by omega) (by omega)) (r_Mo_digits_82 hX hC (by decide) rfl)
  have hloop : ∀ (k i u b : Nat), i + k = D → u ≤ 9999 → (i = 0 → u = 0) → b ≤ m → nuS ma m (nI g) k (if i = 0 then (-1 : Int32) else nI u) b = R9 → ab_W X M_Mo_digits (5, [(0, .ref 31), (1, .int (nI D)), (2, .int (nI g)), (3, .int (nI i)), (4, .int (nI u))], [], (hf pd sh tr ru qu to al (hm mt (ma, nI m) mr (br, bk, bf, bs, bd, nI b) mo mx z)), 0, 0) := by
    intro k
    induction k with
    | zero =>
      intro i u b hi hu hi0 hb hN
      exact t_Mo_digits_5_2 hX (nI_le (by omega) (by omega)) (hend i u b (by omega) hN)
    | succ k ih =>
      intro i u b hi hu hi0 hb hN
      obtain ⟨c, hc1, hc2, hc3, hc4⟩ := sgM_c (a := b) hs (lo := 48) (hi := 57) (by omega) (by omega) (by omega)
      rw [nuS, hc2] at hN
      refine t_Mo_digits_5_1 hX (nI_ge (by omega) (by omega)) (q_Mo_digits_11 hX (ab_conT hC) (k_Mo_sign hl2 h60 hb) (by rw [hR]; decide) (fun v h' e => ?_) (fun E h' e => by first | (cases e; done) | (split at e <;> cases e)))
      cases e
      refine t_Mo_digits_14_1 hX (q_Mo_digits_18 hX (ab_conT hC) (k_Mo_within hl2) (by rw [hR]; decide) (fun v h' e => ?_) (fun E h' e => by first | (cases e; done) | (split at e <;> cases e)))
      cases e
      change ab_W X M_Mo_digits (18 + 3, _, (some (Value.int (bI (wi (sgM ma m b) (nI 48) (nI 57))))).toList ++ [], _, _, _)
      rw [hc3]
      by_cases hok : 48 ≤ c ∧ c ≤ 57
      · rw [decide_eq_true hok]
        have hsm := hc4 hok.1
        have e1 : nI c - 48 = nI (c - 48) := pk_sub (b := 48) hok.1
        have e2 : (10 : Int32) * nI u + nI c - 48 = nI (10 * u + (c - 48)) := by
          rw [show (10 : Int32) * nI u + nI c = nI (10 * u + c) from ab_lin2 10 u c]
          rw [show 10 * u + (c - 48) = 10 * u + c - 48 by omega]
          exact pk_sub (b := 48) (by omega)
        have e3 : nxV (if i = 0 then (-1 : Int32) else nI u) (nI (c - 48)) = nI (10 * u + (c - 48)) := by
          unfold nxV
          by_cases h0 : i = 0
          · rw [if_pos h0, if_pos rfl, hi0 h0, Nat.mul_zero, Nat.zero_add]
          · rw [if_neg h0, if_neg (fun q => by have h7 := m1_lt (n := u) (by omega); rw [q] at h7; revert h7; decide)]
            rw [show nI u * 10 + nI (c - 48) = nI (u * 10 + (c - 48)) from ab_lin u _ 10, Nat.mul_comm u 10]
        have q9 : ¬ (9 : Int32) < nI (c - 48) := nI_nlt (a := 9) (by omega) (by omega)
        rw [e1, if_neg (nI_pos (by omega)), if_neg q9, e3] at hN
        refine t_Mo_digits_21_1 hX (by decide) (q_Mo_digits_30 hX (ab_conT hC) (k_Mo_sign hl2 h60 hb) (by rw [hR]; decide) (fun v h' e => ?_) (fun E h' e => by first | (cases e; done) | (split at e <;> cases e)))
        cases e
        rw [hsm]
        by_cases hle : 10 * u + (c - 48) ≤ g
        · rw [if_pos (nI_le hle (by omega))] at hN
          have hbm : b < m := sgN_in (by rw [hc2]; exact nI_ne0 (by omega) (by omega))
          refine t_Mo_digits_33_1 hX (by rw [e2]; exact nI_nlt hle (by omega)) (q_Mo_digits_47 hX (ab_conT hC) (k_Mo_sign hl2 h60 hb) (by rw [hR]; decide) (fun v h' e => ?_) (fun E h' e => by first | (cases e; done) | (split at e <;> cases e)))
          cases e
          rw [hsm]
          refine t_Mo_digits_50_1 hX ?_
          rw [e2, nI_1, nI_1]
          exact ih (i + 1) _ (b + 1) (by omega) (by omega) (fun q => by omega) (by omega) (by rw [if_neg (by omega)]; exact hN)
        · rw [if_neg (nI_ge (by omega) (by omega))] at hN
          exact t_Mo_digits_33_2 hX (by rw [e2]; exact nI_lt (by omega) (by omega)) (hend i u b (by omega) hN)
      · rw [decide_eq_false hok]
        have hN2 : (if i = 0 then (-1 : Int32) else nI u, b) = R9 := by
          by_cases h48 : c < 48
          · have q9 : nI c - (48 : Int32) < 0 := pk_sneg (b := 48) (by omega) h48
            rw [if_pos q9] at hN
            exact hN
          · have e1 : nI c - 48 = nI (c - 48) := pk_sub (b := 48) (by omega)
            have q9 : (9 : Int32) < nI (c - 48) := nI_lt (a := 9) (by omega) (by omega)
            rw [e1, if_neg (nI_pos (by omega)), if_pos q9] at hN
            exact hN
        exact t_Mo_digits_21_2 hX rfl (hend i u b (by omega) hN2)
  exact hloop D 0 0 a (by omega) (by omega) (fun _ => rfl) ha hR9.symm
def mRes (ma : Nat → Int32) (m t : Nat) (q0 : gt_mq) (r : Bool × Nat × gTm) (H : gt_mq → List ab_C) : ab_Y → Prop := fun q =>
  ∃ q1 : gt_mq, q = (.inl (some (.int (bI r.1))), H q1) ∧ mPo t q0 q1 r.2.1 ∧ (r.1 = true → mTm ma m t q1 r.2.2)
set_option maxHeartbeats 1000000 in
theorem k_Mo_term (hl : l.stackTraces = false) {m a t : Nat} (h60 : m ≤ 60) (ha : a < m) (hs : sgOk ma m) (ht : t < 8) : ab_K l M_Mo_term (ab_r 2) (0, 0) [.ref 31] (hf pd sh tr ru qu to al (hm mt (ma, nI m) mr (nI t, bk, bf, bs, bd, nI a) mo mx z)) (mRes ma m t (nI t, bk, bf, bs, bd, nI a) (pT ma m a) (fun q1 => (hf pd sh tr ru qu to al (hm mt (ma, nI m) mr q1 mo mx z)))) := by
  refine e_Mo_term hl (by decide) (fun X hl1 hR hX hC => ?_)
  have hl2 : (X.2.1).stackTraces = false := by rw [hl1]; exact hl
  have hin : vp_in (nI t) 9 := vp_in_nI (by omega) (by omega)
  have hcl : (nI t).toNatClampNeg = t := nI_clamp (by omega)
  refine t_Mo_term_0_1 hX (q_Mo_term_1 hX (ab_conT hC) (k_Mo_sign hl2 h60 (by omega)) (by rw [hR]; decide) (fun v h' e => ?_) (fun E h' e => by first | (cases e; done) | (split at e <;> cases e)))
  cases e
  refine q_Mo_term_4 hX (ab_conT hC) (k_Mo_isLetter hl2) (by rw [hR]; decide) (fun v h' e => ?_) (fun E h' e => by first | (cases e; done) | (split at e <;> cases e))
  cases e
  rw [sgM_lt]
  cases hL : isLt (sgN ma m a) with
  | true =>
    rw [pT_letter hL] at hC
    refine t_Mo_term_7_1 hX (by decide) ?_
    have hln0 : ¬ lnP ma m a = 0 := by
      have h9 := (lnS_ge ma m a 9 1).1
      unfold lnP lnS
      rw [if_pos (by rw [Nat.add_zero]; exact hL)]
      show ¬ lnS ma m a 9 1 = 0
      omega
    have hlnm := lnS_n (pf := ma) (n := m) (p := a) (by omega)
    have hln10 := lnP_le ma m a
    have hend : ∀ (bd9 : Nat → Int32), (∀ j, j < lnP ma m a → bd9 (10 * t + j) = sgN ma m (a + j)) → (∀ j, (j < 10 * t ∨ 10 * t + 10 ≤ j) → bd9 j = bd j) → ab_W X M_Mo_term (62, [(0, .ref 31), (1, .int (nI (lnP ma m a)))], [], (hf pd sh tr ru qu to al (hm mt (ma, nI m) mr (nI t, bk, bf, bs, bd9, nI (a + lnP ma m a)) mo mx z)), 0, 0) := by
      intro bd9 g1 g2
      refine t_Mo_term_62_1 hX hin ?_
      rw [hcl]
      refine q_Mo_term_83 hX (ab_conT hC) (k_Mo_takes (s := 126) hl2 h60 hlnm (by decide) (by decide)) (by rw [hR]; decide) (fun v h' e => ?_) (fun E h' e => by first | (cases e; done) | (split at e <;> cases e))
      · unfold pW at hC
        rw [if_neg hln0] at hC
        by_cases h : sgN ma m (a + lnP ma m a) = 126
        · rw [if_pos h] at hC e
          cases e
          refine t_Mo_term_86_1 hX (by decide) (t_Mo_term_94_1 hX hin (r_Mo_term_96 hX hC (Or.inr rfl) (by decide) ⟨_, rfl, ⟨rfl, rfl, fun j hj => ⟨by rw [hcl]; exact pk_un hj, pk_un hj, rfl⟩, g2⟩, fun _ => ⟨by rw [hcl]; exact pk_us, pk_us, ?_⟩⟩))
          rw [if_pos (Or.inr rfl)]
          exact g1
        · rw [if_neg h] at hC e
          cases e
          refine t_Mo_term_86_2 hX rfl (t_Mo_term_94_1 hX hin (r_Mo_term_96 hX hC (Or.inr rfl) (by decide) ⟨_, rfl, ⟨rfl, rfl, fun j hj => ⟨by rw [hcl]; exact pk_un hj, pk_un hj, rfl⟩, g2⟩, fun _ => ⟨by rw [hcl]; exact pk_us, pk_us, ?_⟩⟩))
          rw [if_pos (Or.inl rfl)]
          exact g1
    have hloop : ∀ (k i : Nat) (bd9 : Nat → Int32), i + k = 10 → a + i ≤ m → lnS ma m a k i = lnP ma m a → (∀ j, j < i → bd9 (10 * t + j) = sgN ma m (a + j)) → (∀ j, (j < 10 * t ∨ 10 * t + 10 ≤ j) → bd9 j = bd j) → ab_W X M_Mo_term (12, [(0, .ref 31), (1, .int (nI i))], [], (hf pd sh tr ru qu to al (hm mt (ma, nI m) mr (nI t, bk, bf, bs, bd9, nI (a + i)) mo mx z)), 0, 0) := by
      intro k
      induction k with
      | zero =>
        intro i bd9 hi him hN g1 g2
        unfold lnS at hN
        subst hN
        exact t_Mo_term_12_2 hX (nI_le (a := 10) (by omega) (by omega)) (hend bd9 g1 g2)
      | succ k ih =>
        intro i bd9 hi him hN g1 g2
        rw [lnS] at hN
        refine t_Mo_term_12_1 hX (nI_ge (b := 10) (by omega) (by omega)) (q_Mo_term_19 hX (ab_conT hC) (k_Mo_sign hl2 h60 him) (by rw [hR]; decide) (fun v h' e => ?_) (fun E h' e => by first | (cases e; done) | (split at e <;> cases e)))
        cases e
        refine q_Mo_term_22 hX (ab_conT hC) (k_Mo_isLetter hl2) (by rw [hR]; decide) (fun v h' e => ?_) (fun E h' e => by first | (cases e; done) | (split at e <;> cases e))
        cases e
        rw [sgM_lt]
        cases hw : isLt (sgN ma m (a + i)) with
        | false =>
          rw [if_neg (by rw [hw]; decide)] at hN
          subst hN
          exact t_Mo_term_25_2 hX rfl (hend bd9 g1 g2)
        | true =>
          rw [if_pos hw] at hN
          have e10 : (10 : Int32) * nI t + nI i = nI (10 * t + i) := ab_lin2 10 t i
          have him2 : a + i < m := sgN_in (fun q => by rw [q] at hw; revert hw; decide)
          refine t_Mo_term_25_1 hX (by decide) (q_Mo_term_42 hX (ab_conT hC) (k_Mo_sign hl2 h60 him) (by rw [hR]; decide) (fun v h' e => ?_) (fun E h' e => by first | (cases e; done) | (split at e <;> cases e)))
          cases e
          have hsm : sgM ma m (a + i) = sgN ma m (a + i) := by unfold sgM sgN; rw [if_pos him2, if_pos him2]
          rw [e10, hsm]
          refine t_Mo_term_45_1 hX (vp_in_nI (by omega) (by omega)) ?_
          rw [nI_clamp (show 10 * t + i < 2 ^ 31 by omega), nI_1, nI_1]
          refine ih (i + 1) _ (by omega) (by omega) hN (fun j hj => ?_) (fun j hj => ?_)
          · by_cases q : j = i
            · rw [q, pk_us]
            · rw [pk_un (by omega)]; exact g1 j (by omega)
          · rw [pk_un (by omega)]; exact g2 j hj
    exact hloop 10 0 bd rfl (by omega) rfl (fun j hj => absurd hj (Nat.not_lt_zero j)) (fun _ _ => rfl)
  | false =>
    obtain ⟨c, hc1, hc2, hc3, hc4⟩ := sgM_c (a := a) hs (lo := 48) (hi := 51) (by omega) (by omega) (by omega)
    refine t_Mo_term_7_2 hX rfl (q_Mo_term_98 hX (ab_conT hC) (k_Mo_sign hl2 h60 (by omega)) (by rw [hR]; decide) (fun v h' e => ?_) (fun E h' e => by first | (cases e; done) | (split at e <;> cases e)))
    cases e
    refine t_Mo_term_101_1 hX (q_Mo_term_105 hX (ab_conT hC) (k_Mo_within hl2) (by rw [hR]; decide) (fun v h' e => ?_) (fun E h' e => by first | (cases e; done) | (split at e <;> cases e)))
    cases e
    change ab_W X M_Mo_term (105 + 3, _, (some (Value.int (bI (wi (sgM ma m a) (nI 48) (nI 51))))).toList ++ [], _, _, _)
    rw [hc3]
    by_cases hok : 48 ≤ c ∧ c ≤ 51
    · rw [decide_eq_true hok]
      rw [pT_digit hc2 hok.1 hok.2] at hC
      have hsm := hc4 hok.1
      refine t_Mo_term_108_1 hX (by decide) hin ?_
      rw [hcl]
      refine q_Mo_term_130 hX (ab_conT hC) (k_Mo_sign hl2 h60 (by omega)) (by rw [hR]; decide) (fun v h' e => ?_) (fun E h' e => by first | (cases e; done) | (split at e <;> cases e))
      cases e
      refine t_Mo_term_133_1 hX hin ?_
      rw [hcl, nI_1, hsm, ← hc2]
      refine q_Mo_term_150 hX (ab_conT hC) (k_Mo_takes (s := 58) hl2 h60 (by omega) (by decide) (by decide)) (by rw [hR]; decide) (fun v h' e => ?_) (fun E h' e => by first | (cases e; done) | (split at e <;> cases e))
      · unfold pV at hC
        by_cases h : sgN ma m (a + 1) = 58
        · rw [if_pos h] at hC e
          cases e
          have h2 : a + 1 < m := sgN_in (by rw [h]; decide)
          refine t_Mo_term_153_2 hX (by decide) (q_Mo_term_170 hX (ab_conT hC) (k_Mo_digits (D := 2) (g := 15) hl2 h60 (show a + 1 + 1 ≤ m by omega) hs (by omega) (by omega)) (by rw [hR]; decide) (fun v h' e => ?_) (fun E h' e => by first | (cases e; done) | (split at e <;> cases e)))
          cases e
          change ab_W X M_Mo_term (170 + 3, _, (some (Value.int (nuS ma m 15 2 (-1) (a + 2)).1)).toList ++ _, (hf pd sh tr ru qu to al (hm mt (ma, nI m) mr (nI t, upd bk t 2, upd bf t (sgN ma m a - 48), bs, bd, nI (nuS ma m 15 2 (-1) (a + 2)).2) mo mx z)), _, _)
          by_cases hg : (nuS ma m 15 2 (-1) (a + 2)).1 = -1
          · rw [decide_eq_false (fun q => q hg)] at hC
            exact t_Mo_term_173_2 hX hin hin (by rw [hcl, pk_us]; exact hg) (r_Mo_term_192 hX hC (Or.inl rfl) (by decide) ⟨_, rfl, ⟨rfl, rfl, fun j hj => ⟨pk_un hj, pk_un hj, by rw [hcl]; exact pk_un hj⟩, fun _ _ => rfl⟩, fun h => by cases h⟩)
          · rw [decide_eq_true hg] at hC
            exact t_Mo_term_173_1 hX hin hin (by rw [hcl, pk_us]; exact hg) (r_Mo_term_192 hX hC (Or.inr rfl) (by decide) ⟨_, rfl, ⟨rfl, rfl, fun j hj => ⟨pk_un hj, pk_un hj, by rw [hcl]; exact pk_un hj⟩, fun _ _ => rfl⟩, fun _ => ⟨pk_us, pk_us, by rw [if_neg (show ¬ ((2 : Int32) = 0 ∨ (2 : Int32) = 1) by decide), hcl]; exact pk_us⟩⟩)
        · rw [if_neg h] at hC e
          cases e
          exact t_Mo_term_153_1 hX rfl (r_Mo_term_157 hX hC (Or.inl rfl) (by decide) ⟨_, rfl, ⟨rfl, rfl, fun j hj => ⟨pk_un hj, pk_un hj, rfl⟩, fun _ _ => rfl⟩, fun h => by cases h⟩)
    · rw [decide_eq_false hok]
      refine t_Mo_term_108_2 hX rfl (q_Mo_term_196 hX (ab_conT hC) (k_Mo_takes (s := 64) hl2 h60 (by omega) (by decide) (by decide)) (by rw [hR]; decide) (fun v h' e => ?_) (fun E h' e => by first | (cases e; done) | (split at e <;> cases e)))
      · by_cases h : sgN ma m a = 64
        · rw [if_pos h] at e
          cases e
          have hpT : pT ma m a = pY ma m a := by unfold pT; rw [if_pos h]
          rw [hpT] at hC
          refine t_Mo_term_199_2 hX (by decide) hin ?_
          rw [hcl]
          refine q_Mo_term_227 hX (ab_conT hC) (k_Mo_digits (D := 4) (g := 9999) hl2 h60 (show a + 1 ≤ m by omega) hs (by omega) (by omega)) (by rw [hR]; decide) (fun v h' e => ?_) (fun E h' e => by first | (cases e; done) | (split at e <;> cases e))
          cases e
          have hb := nuS_le (pf := ma) (n := m) (most := 9999) 4 (-1) (a + 1) (by omega)
          change ab_W X M_Mo_term (227 + 3, _, (some (Value.int (nuS ma m 9999 4 (-1) (a + 1)).1)).toList ++ _, (hf pd sh tr ru qu to al (hm mt (ma, nI m) mr (nI t, upd bk t 3, bf, bs, bd, nI (nuS ma m 9999 4 (-1) (a + 1)).2) mo mx z)), _, _)
          unfold pY at hC
          generalize nuS ma m 9999 4 (-1) (a + 1) = r at hb hC ⊢
          obtain ⟨f, a1⟩ := r
          dsimp only at hb hC ⊢
          unfold pY2 at hC
          by_cases hf1 : f = -1
          · rw [if_pos hf1] at hC
            exact t_Mo_term_230_2 hX hin hin (by rw [hcl, pk_us]; exact hf1) (t_Mo_term_253_1 hX (r_Mo_term_254 hX hC (Or.inl rfl) (by decide) ⟨_, rfl, ⟨rfl, rfl, fun j hj => ⟨pk_un hj, by rw [hcl]; exact pk_un hj, rfl⟩, fun _ _ => rfl⟩, fun h => by cases h⟩))
          · rw [if_neg hf1] at hC
            refine t_Mo_term_230_1 hX hin hin (by rw [hcl, pk_us]; exact hf1) ?_
            rw [hcl]
            refine q_Mo_term_247 hX (ab_conT hC) (k_Mo_takes (s := 45) hl2 h60 hb.2 (by decide) (by decide)) (by rw [hR]; decide) (fun v h' e => ?_) (fun E h' e => by first | (cases e; done) | (split at e <;> cases e))
            · by_cases h5 : sgN ma m a1 = 45
              · rw [if_pos h5] at hC e
                cases e
                have h2 : a1 < m := sgN_in (by rw [h5]; decide)
                refine t_Mo_term_250_2 hX (by decide) (q_Mo_term_268 hX (ab_conT hC) (k_Mo_digits (D := 4) (g := 9999) hl2 h60 (show a1 + 1 ≤ m by omega) hs (by omega) (by omega)) (by rw [hR]; decide) (fun v h' e => ?_) (fun E h' e => by first | (cases e; done) | (split at e <;> cases e)))
                cases e
                change ab_W X M_Mo_term (268 + 3, _, (some (Value.int (nuS ma m 9999 4 (-1) (a1 + 1)).1)).toList ++ _, (hf pd sh tr ru qu to al (hm mt (ma, nI m) mr (nI t, upd bk t 3, upd bf t f, bs, bd, nI (nuS ma m 9999 4 (-1) (a1 + 1)).2) mo mx z)), _, _)
                by_cases hg : (nuS ma m 9999 4 (-1) (a1 + 1)).1 = -1
                · rw [decide_eq_false (fun q => q hg)] at hC
                  exact t_Mo_term_271_2 hX hin hin (by rw [hcl, pk_us]; exact hg) (r_Mo_term_290 hX hC (Or.inl rfl) (by decide) ⟨_, rfl, ⟨rfl, rfl, fun j hj => ⟨pk_un hj, pk_un hj, by rw [hcl]; exact pk_un hj⟩, fun _ _ => rfl⟩, fun h => by cases h⟩)
                · rw [decide_eq_true hg] at hC
                  exact t_Mo_term_271_1 hX hin hin (by rw [hcl, pk_us]; exact hg) (r_Mo_term_290 hX hC (Or.inr rfl) (by decide) ⟨_, rfl, ⟨rfl, rfl, fun j hj => ⟨pk_un hj, pk_un hj, by rw [hcl]; exact pk_un hj⟩, fun _ _ => rfl⟩, fun _ => ⟨pk_us, pk_us, by rw [if_neg (show ¬ ((3 : Int32) = 0 ∨ (3 : Int32) = 1) by decide), hcl]; exact pk_us⟩⟩)
              · rw [if_neg h5] at hC e
                cases e
                exact t_Mo_term_250_1 hX rfl (t_Mo_term_253_1 hX (r_Mo_term_254 hX hC (Or.inl rfl) (by decide) ⟨_, rfl, ⟨rfl, rfl, fun j hj => ⟨pk_un hj, pk_un hj, rfl⟩, fun _ _ => rfl⟩, fun h => by cases h⟩))
        · rw [if_neg h] at e
          cases e
          have hpT : pT ma m a = (false, a, 0, a, 0, 0) := by
            refine pT_none hL h ?_
            rw [hc2]
            by_cases h48 : c < 48
            · exact Or.inl (nI_lt (b := 48) h48 (by omega))
            · exact Or.inr (nI_le (a := 52) (by omega) (by omega))
          rw [hpT] at hC
          exact t_Mo_term_199_1 hX rfl (r_Mo_term_203 hX hC (Or.inl rfl) (by decide) ⟨_, rfl, ⟨rfl, rfl, fun _ _ => ⟨rfl, rfl, rfl⟩, fun _ _ => rfl⟩, fun h => by cases h⟩)
def mAll (ma : Nat → Int32) (m : Nat) (q : gt_mq) (L : List gTm) : Prop := ∀ t tm, L[t]? = some tm → mTm ma m t q tm
theorem mTm_keep {ma : Nat → Int32} {m t k : Nat} {q0 q1 : gt_mq} {tm : gTm} (h : mTm ma m t q0 tm) (hk : t ≠ k) (h1 : ∀ j, j ≠ k → q1.2.1 j = q0.2.1 j ∧ q1.2.2.1 j = q0.2.2.1 j ∧ q1.2.2.2.1 j = q0.2.2.2.1 j) (h2 : ∀ j, (j < 10 * k ∨ 10 * k + 10 ≤ j) → q1.2.2.2.2.1 j = q0.2.2.2.2.1 j) : mTm ma m t q1 tm := by
  obtain ⟨a1, a2, a3⟩ := h1 t hk
  obtain ⟨b1, b2, b3⟩ := h
  refine ⟨a1.trans b1, a2.trans b2, ?_⟩
  split
  · rename_i h9
    rw [if_pos h9] at b3
    intro j hj
    have h10 := lnP_le ma m tm.2.1
    rw [h2 _ (by omega)]
    exact b3 j hj
  · rename_i h9
    rw [if_neg h9] at b3
    exact a3.trans b3
set_option maxHeartbeats 1000000 in
theorem k_Mo_reads (hl : l.stackTraces = false) {m : Nat} (h60 : m ≤ 60) (hs : sgOk ma m) : ab_K l M_Mo_reads (ab_r 3) (0, 0) [.ref 31] (hf pd sh tr ru qu to al (hm mt (ma, nI m) mr mq mo mx z))
    (fun q => ∃ q1 : gt_mq, q = (.inl (some (.int (bI (rdS ma m 8 (skP ma m 0) []).1.isNone))), (hf pd sh tr ru qu to al (hm mt (ma, nI m) mr q1 mo mx z))) ∧ (∀ a, (rdS ma m 8 (skP ma m 0) []).1 = some a → q1.2.2.2.2.2 = nI a) ∧ ((rdS ma m 8 (skP ma m 0) []).1 = none → q1.1 = nI (rdS ma m 8 (skP ma m 0) []).2.length ∧ mAll ma m q1 (rdS ma m 8 (skP ma m 0) []).2)) := by
  obtain ⟨br, bk, bf, bs, bd, ba⟩ := mq
  refine e_Mo_reads hl (by decide) (fun X hl1 hR hX hC => ?_)
  have hl2 : (X.2.1).stackTraces = false := by rw [hl1]; exact hl
  obtain ⟨R9, hR9⟩ : ∃ R9, R9 = rdS ma m 8 (skP ma m 0) [] := ⟨_, rfl⟩
  rw [← hR9] at hC
  refine t_Mo_reads_0_1 hX ?_
  have hbad : ∀ (q1 : gt_mq) (L : List gTm) (a : Nat) (x2 : Int32), q1.2.2.2.2.2 = nI a → (some a, L) = R9 → ab_W X M_Mo_reads (14, [(0, .ref 31), (1, .int 0), (2, .int x2)], [], (hf pd sh tr ru qu to al (hm mt (ma, nI m) mr q1 mo mx z)), 0, 0) := by
    intro q1 L a x2 e1 hN
    subst hN
    exact t_Mo_reads_14_3 hX rfl (t_Mo_reads_133_1 hX (r_Mo_reads_134 hX hC (Or.inl rfl) (by decide) ⟨q1, rfl, fun b hb => by cases hb; exact e1, fun q => by cases q⟩))
  have hbad2 : ∀ (q1 : gt_mq) (L : List gTm) (a : Nat) (x2 : Int32), q1.2.2.2.2.2 = nI a → (some a, L) = R9 → ab_W X M_Mo_reads (128, [(0, .ref 31), (2, .int x2)], [], (hf pd sh tr ru qu to al (hm mt (ma, nI m) mr q1 mo mx z)), 0, 0) := fun q1 L a x2 e1 hN => t_Mo_reads_128_1 hX (t_Mo_reads_129_1 hX (hbad q1 L a x2 e1 hN))
  have hbad3 : ∀ (q1 : gt_mq) (L : List gTm) (a : Nat), q1.2.2.2.2.2 = nI a → (some a, L) = R9 → ab_W X M_Mo_reads (77, [(0, .ref 31), (2, .int 1)], [], (hf pd sh tr ru qu to al (hm mt (ma, nI m) mr q1 mo mx z)), 0, 0) := by
    intro q1 L a e1 hN
    obtain ⟨br, bk, bf, bs, bd, ba⟩ := q1
    refine t_Mo_reads_77_1 hX (t_Mo_reads_78_2 hX rfl ?_)
    exact t_Mo_reads_97_3 hX rfl (hbad2 (br, bk, bf, bs, bd, ba) L a 1 e1 hN)
  have hfin : ∀ (q1 : gt_mq) (L : List gTm), q1.1 = nI L.length → mAll ma m q1 L → (none, L) = R9 → ab_W X M_Mo_reads (52, [(0, .ref 31), (1, .int 1)], [.int 0], (hf pd sh tr ru qu to al (hm mt (ma, nI m) mr q1 mo mx z)), 0, 0) := by
    intro q1 L e1 e2 hN
    subst hN
    obtain ⟨br, bk, bf, bs, bd, ba⟩ := q1
    exact t_Mo_reads_52_3 hX rfl (t_Mo_reads_14_2 hX (by decide) rfl (t_Mo_reads_133_1 hX (r_Mo_reads_134 hX hC (Or.inr rfl) (by decide) ⟨(br, bk, bf, bs, bd, ba), rfl, fun b hb => (by cases hb), fun _ => ⟨e1, e2⟩⟩)))
  have hsk : ∀ (j b : Nat) (br : Int32) (bk bf bs bd : Nat → Int32), b + j = m → ab_W X M_Mo_reads (28, [(0, .ref 31), (1, .int 1)], [.int 0], (hf pd sh tr ru qu to al (hm mt (ma, nI m) mr (br, bk, bf, bs, bd, nI (skS ma m j b)) mo mx z)), 0, 0) → ab_W X M_Mo_reads (22, [(0, .ref 31), (1, .int 1)], [], (hf pd sh tr ru qu to al (hm mt (ma, nI m) mr (br, bk, bf, bs, bd, nI b) mo mx z)), 0, 0) := by
    intro j
    induction j with
    | zero =>
      intro b br bk bf bs bd hb hw
      refine t_Mo_reads_22_1 hX (q_Mo_reads_25 hX (ab_conT hC) (k_Mo_takes (s := 32) hl2 h60 (show b ≤ m by omega) (by decide) (by decide)) (by rw [hR]; decide) (fun v h' e => ?_) (fun E h' e => by first | (cases e; done) | (split at e <;> cases e)))
      have h0 : ¬ sgN ma m b = 32 := by rw [sgN_ge (by omega)]; decide
      rw [if_neg h0] at e
      cases e
      exact hw
    | succ j ih =>
      intro b br bk bf bs bd hb hw
      refine t_Mo_reads_22_1 hX (q_Mo_reads_25 hX (ab_conT hC) (k_Mo_takes (s := 32) hl2 h60 (show b ≤ m by omega) (by decide) (by decide)) (by rw [hR]; decide) (fun v h' e => ?_) (fun E h' e => by first | (cases e; done) | (split at e <;> cases e)))
      rw [skS] at hw
      by_cases h : sgN ma m b = 32
      · rw [if_pos h] at e hw
        cases e
        exact t_Mo_reads_28_1 hX (by decide) (ih (b + 1) br bk bf bs bd (by omega) hw)
      · rw [if_neg h] at e hw
        cases e
        exact hw
  have hloop : ∀ (k a : Nat) (q1 : gt_mq) (L : List gTm), L.length + k = 8 → a ≤ m → q1.2.2.2.2.2 = nI a → q1.1 = nI L.length → mAll ma m q1 L → rdS ma m k (skP ma m a) L = R9 → ab_W X M_Mo_reads (14, [(0, .ref 31), (1, .int 1), (2, .int 1)], [], (hf pd sh tr ru qu to al (hm mt (ma, nI m) mr q1 mo mx z)), 0, 0) := by
    intro k
    induction k with
    | zero =>
      intro a q1 L hk ha e1 e2 e3 hN
      obtain ⟨br, bk, bf, bs, bd, ba⟩ := q1
      dsimp only at e1 e2
      subst e1 e2
      have hc := (skS_le (pf := ma) (n := m) (m - a) a ha).2
      refine t_Mo_reads_14_1 hX (by decide) (by decide) (hsk (m - a) a _ _ _ _ _ (by omega) ?_)
      change ab_W X M_Mo_reads (28, _, _, (hf pd sh tr ru qu to al (hm mt (ma, nI m) mr (nI L.length, bk, bf, bs, bd, nI (skP ma m a)) mo mx z)), _, _)
      rw [rdS] at hN
      by_cases h : skP ma m a < m
      · rw [if_pos h] at hN
        exact t_Mo_reads_28_2 hX rfl (nI_ge h (by omega)) (t_Mo_reads_52_2 hX (by decide) (nI_le (a := 8) (by omega) (by omega)) (hbad3 _ L _ rfl hN))
      · rw [if_neg h] at hN
        exact t_Mo_reads_28_3 hX rfl (nI_le (by omega) (by unfold skP; omega)) (hfin _ L rfl e3 hN)
    | succ k ih =>
      intro a q1 L hk ha e1 e2 e3 hN
      obtain ⟨br, bk, bf, bs, bd, ba⟩ := q1
      dsimp only at e1 e2
      subst e1 e2
      have hc := (skS_le (pf := ma) (n := m) (m - a) a ha).2
      refine t_Mo_reads_14_1 hX (by decide) (by decide) (hsk (m - a) a _ _ _ _ _ (by omega) ?_)
      change ab_W X M_Mo_reads (28, _, _, (hf pd sh tr ru qu to al (hm mt (ma, nI m) mr (nI L.length, bk, bf, bs, bd, nI (skP ma m a)) mo mx z)), _, _)
      rw [rdS] at hN
      by_cases h : skP ma m a < m
      · rw [if_pos h] at hN
        have hpt := pT_le (pf := ma) h
        refine t_Mo_reads_28_2 hX rfl (nI_ge h (by omega)) (t_Mo_reads_52_1 hX (by decide) (nI_ge (b := 8) (by omega) (by omega)) (q_Mo_reads_67 hX (ab_conT hC) (k_Mo_term hl2 h60 h hs (by omega)) (by rw [hR]; decide) (fun v h' e => ?_) (fun E h' e => by obtain ⟨q1, e, -⟩ := e; cases e)))
        obtain ⟨q2, e, ⟨g1, g2, g3, g4⟩, g5⟩ := e
        cases e
        have hall : mAll ma m q2 L := fun t tm hq => mTm_keep (e3 t tm hq) (by have := (List.getElem?_eq_some_iff.mp hq).1; omega) g3 g4
        obtain ⟨br2, bk2, bf2, bs2, bd2, ba2⟩ := q2
        dsimp only at g1 g2
        subst g1 g2
        cases hp : (pT ma m (skP ma m a)).1 with
        | false =>
          rw [hp, if_neg (by decide)] at hN
          exact t_Mo_reads_70_2 hX rfl (hbad3 _ L _ rfl hN)
        | true =>
          rw [hp, if_pos rfl] at hN
          refine t_Mo_reads_70_1 hX (by decide) (t_Mo_reads_78_1 hX (by decide) ?_)
          have hnext : bhd ma m (pT ma m (skP ma m a)).2.1 = true → ab_W X M_Mo_reads (124, [(0, .ref 31), (2, .int 1)], [], (hf pd sh tr ru qu to al (hm mt (ma, nI m) mr (nI L.length + 1, bk2, bf2, bs2, bd2, nI (pT ma m (skP ma m a)).2.1) mo mx z)), 0, 0) := by
            intro hb
            rw [if_pos hb] at hN
            refine t_Mo_reads_124_1 hX (t_Mo_reads_129_1 hX (ih _ _ (L ++ [(pT ma m (skP ma m a)).2.2]) (by rw [List.length_append]; show L.length + 1 + k = 8; omega) hpt.2 rfl ?_ ?_ hN))
            · show nI L.length + 1 = nI (L ++ [(pT ma m (skP ma m a)).2.2]).length
              rw [nI_1, List.length_append]
              rfl
            · intro t tm hq
              by_cases ht : t < L.length
              · rw [List.getElem?_append_left ht] at hq
                exact hall t tm hq
              · have hlt := (List.getElem?_eq_some_iff.mp hq).1
                rw [List.length_append] at hlt
                have hte : t = L.length := by
                  have : ([(pT ma m (skP ma m a)).2.2] : List gTm).length = 1 := rfl
                  omega
                subst hte
                rw [List.getElem?_append_right (Nat.le_refl _), Nat.sub_self] at hq
                cases hq
                exact g5 hp
          obtain ⟨c, hc1, hc2, hc3⟩ := sgN_c (a := (pT ma m (skP ma m a)).2.1) hs
          by_cases hend : (pT ma m (skP ma m a)).2.1 = m
          · refine t_Mo_reads_97_2 hX (by decide) (by rw [hend]) (hnext ?_)
            unfold bhd
            rw [show sgN ma m (pT ma m (skP ma m a)).2.1 = 0 from sgN_ge (by omega)]
            rfl
          · refine t_Mo_reads_97_1 hX (by decide) (fun q => hend ((nI_eq (by omega) (by omega)).mp q)) (q_Mo_reads_116 hX (ab_conT hC) (k_Mo_sign hl2 h60 hpt.2) (by rw [hR]; decide) (fun v h' e => ?_) (fun E h' e => by first | (cases e; done) | (split at e <;> cases e)))
            cases e
            by_cases h32 : sgN ma m (pT ma m (skP ma m a)).2.1 = 32
            · exact t_Mo_reads_119_1 hX ((sgM_eq (by decide) (by decide)).mpr h32) (hnext (by unfold bhd; rw [decide_eq_true h32]; rfl))
            · have hbf : bhd ma m (pT ma m (skP ma m a)).2.1 = false := by
                unfold bhd
                rw [decide_eq_false h32, decide_eq_false (fun q => by rw [hc2] at q; exact nI_ne0 (n := c) (by omega) (by omega) q)]
                rfl
              rw [hbf, if_neg (by decide)] at hN
              exact t_Mo_reads_119_2 hX (fun q => h32 ((sgM_eq (by decide) (by decide)).mp q)) (hbad2 _ L _ 1 rfl hN)
      · rw [if_neg h] at hN
        exact t_Mo_reads_28_3 hX rfl (nI_le (by omega) (by unfold skP; omega)) (hfin _ L rfl e3 hN)
  exact hloop 8 0 (nI 0, bk, bf, bs, bd, nI 0) [] rfl (Nat.zero_le m) rfl rfl (fun t tm hq => by cases hq) hR9.symm
end M2
