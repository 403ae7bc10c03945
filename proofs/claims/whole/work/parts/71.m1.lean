/-! CONTRACTS OF THE REFERENCE: word, facet, parent, span, right (a template: gen/tpl.py) -/
theorem ab_lin2 (k a b : Nat) : nI k * nI a + nI b = nI (k * a + b) := by rw [pk_mul, nI_add]
theorem ab_mul2 (k a : Nat) : nI k * nI a = nI (k * a) := pk_mul k a
def lwB (ma : Nat → Int32) (b : Bool) : Nat → Bool
  | 0 => b
  | i + 1 => lwB ma b i && isLt (ma i)
def mIsW (ma : Nat → Int32) (m : Nat) : Bool := lwB ma (wi (nI m) 1 10) m
theorem lwB_t {ma : Nat → Int32} {b : Bool} : ∀ m, lwB ma b m = true ↔ b = true ∧ ∀ j, j < m → isLt (ma j) = true
  | 0 => ⟨fun h => ⟨h, fun j hj => absurd hj (Nat.not_lt_zero j)⟩, fun h => h.1⟩
  | m + 1 => by
    unfold lwB
    rw [Bool.and_eq_true, lwB_t m]
    constructor
    · rintro ⟨⟨h1, h2⟩, h3⟩
      refine ⟨h1, fun j hj => ?_⟩
      by_cases e : j = m
      · rw [e]; exact h3
      · exact h2 j (by omega)
    · rintro ⟨h1, h2⟩
      exact ⟨⟨h1, fun j hj => h2 j (by omega)⟩, h2 m (by omega)⟩
theorem mIsW_t {ma : Nat → Int32} {m : Nat} (hm0 : m < 2 ^ 31) : mIsW ma m = true ↔ (1 ≤ m ∧ m ≤ 10) ∧ ∀ j, j < m → isLt (ma j) = true := by
  unfold mIsW
  rw [lwB_t, show wi (nI m) 1 10 = decide (1 ≤ m ∧ m ≤ 10) from wi_nI (lo := 1) (hi := 10) hm0 (by omega) (by omega), decide_eq_true_eq]
/-- the first j letters of word w are the pad's -/
def smS (nt ma : Nat → Int32) (w : Nat) (b : Bool) : Nat → Bool
  | 0 => b
  | j + 1 => smS nt ma w b j && decide (nt (10 * w + j) = ma j)
theorem smS_f {nt ma : Nat → Int32} {w : Nat} {b : Bool} {j : Nat} (h : smS nt ma w b j = false) : ∀ k, smS nt ma w b (j + k) = false
  | 0 => h
  | k + 1 => by
    show (smS nt ma w b (j + k) && _) = false
    rw [smS_f h k, Bool.false_and]
theorem smS_t {nt ma : Nat → Int32} {w : Nat} {b : Bool} : ∀ m, smS nt ma w b m = true ↔ b = true ∧ ∀ j, j < m → nt (10 * w + j) = ma j
  | 0 => ⟨fun h => ⟨h, fun j hj => absurd hj (Nat.not_lt_zero j)⟩, fun h => h.1⟩
  | m + 1 => by
    unfold smS
    rw [Bool.and_eq_true, smS_t m, decide_eq_true_eq]
    constructor
    · rintro ⟨⟨h1, h2⟩, h3⟩
      refine ⟨h1, fun j hj => ?_⟩
      by_cases e : j = m
      · rw [e]; exact h3
      · exact h2 j (by omega)
    · rintro ⟨h1, h2⟩
      exact ⟨⟨h1, fun j hj => h2 j (by omega)⟩, h2 m (by omega)⟩
def mHas (nl nt ma : Nat → Int32) (m r : Nat) : Nat → Bool
  | 0 => false
  | i + 1 => mHas nl nt ma m r i || smS nt ma (12 * r + i) (decide (nl (12 * r + i) = nI m)) m
theorem mHas_t {nl nt ma : Nat → Int32} {m r : Nat} : ∀ c, mHas nl nt ma m r c = true ↔ ∃ i, i < c ∧ nl (12 * r + i) = nI m ∧ ∀ j, j < m → nt (10 * (12 * r + i) + j) = ma j
  | 0 => ⟨fun h => (by cases h), fun ⟨i, hi, _⟩ => absurd hi (Nat.not_lt_zero i)⟩
  | c + 1 => by
    unfold mHas
    rw [Bool.or_eq_true, mHas_t c, smS_t, decide_eq_true_eq]
    constructor
    · rintro (⟨i, h1, h2⟩ | h)
      · exact ⟨i, by omega, h2⟩
      · exact ⟨c, by omega, h⟩
    · rintro ⟨i, h1, h2⟩
      by_cases e : i = c
      · rw [e] at h2; exact Or.inr h2
      · exact Or.inl ⟨i, by omega, h2⟩
/-- the pad's first j letters, laid into word w -/
def cpL (nt ma : Nat → Int32) (w : Nat) : Nat → (Nat → Int32)
  | 0 => nt
  | j + 1 => upd (cpL nt ma w j) (10 * w + j) (ma j)
def chE (p : Int32 → Int32) : Nat → Int32 → Prop
  | 0, v => v = -1
  | k + 1, v => v = -1 ∨ chE p k (p v)
section M1
variable {l : Launch} {pd : gt_pd} {sh : gt_sh} {tr : gt_tr} {ru : gt_ru} {qu : gt_qu} {to : gt_to} {al : gt_al} {mt : gt_mt} {mp : gt_mp} {mr : gt_mr} {mq : gt_mq} {mo : gt_mo} {mx : gt_mx} {z : List ab_C} {ma ny nl nt nv np nf nu nh bk bf bs bd vr vs vp vo vx vn wt wo : Nat → Int32} {me mn nr br ba vt vh : Int32}
theorem k_Mo_isWord (hl : l.stackTraces = false) {m : Nat} (h60 : m ≤ 60) : ab_K l M_Mo_isWord (ab_r 2) (0, 0) [.ref 31] (hf pd sh tr ru qu to al (hm mt (ma, nI m) mr mq mo mx z)) (fun q => q = (.inl (some (.int (bI (mIsW ma m)))), (hf pd sh tr ru qu to al (hm mt (ma, nI m) mr mq mo mx z)))) := by
  refine e_Mo_isWord hl (by decide) (fun X hl1 hR hX hC => ?_)
  have hl2 : (X.2.1).stackTraces = false := by rw [hl1]; exact hl
  refine t_Mo_isWord_0_1 hX (q_Mo_isWord_7 hX (ab_conT hC) (k_Mo_within hl2) (by rw [hR]; decide) (fun v h' e => ?_) (fun E h' e => by cases e))
  cases e
  refine t_Mo_isWord_10_1 hX ?_
  obtain ⟨b, hb⟩ : ∃ b, b = wi (nI m) 1 10 := ⟨_, rfl⟩
  unfold mIsW at hC
  rw [← hb] at hC ⊢
  have hloop : ∀ k i : Nat, i + k = m → ab_W X M_Mo_isWord (13, [(0, .ref 31), (1, .int (bI (lwB ma b i))), (2, .int (nI i))], [], (hf pd sh tr ru qu to al (hm mt (ma, nI m) mr mq mo mx z)), 0, 0) := by
    intro k
    induction k with
    | zero =>
      intro i hi
      have e : i = m := by omega
      subst e
      exact t_Mo_isWord_13_3 hX (nI_le (Nat.le_refl _) (by omega)) (r_Mo_isWord_50 hX hC (bI_01 _) (by decide) rfl)
    | succ k ih =>
      intro i hi
      have h9 := ih (i + 1) (by omega)
      have hlt : ¬ nI m ≤ nI i := nI_ge (by omega) (by omega)
      have hgo : ∀ B : Bool, B = lwB ma b (i + 1) → ab_W X M_Mo_isWord (42, [(0, .ref 31), (2, .int (nI i))], [.int (bI B)], (hf pd sh tr ru qu to al (hm mt (ma, nI m) mr mq mo mx z)), 0, 0) := by
        intro B hB
        refine t_Mo_isWord_42_1 hX ?_
        rw [nI_1, hB]
        exact h9
      cases hw : lwB ma b i with
      | false => exact t_Mo_isWord_13_2 hX hlt rfl (t_Mo_isWord_41_1 hX (hgo false (by rw [lwB, hw]; rfl)))
      | true =>
        refine t_Mo_isWord_13_1 hX hlt (by decide) (vp_in_nI (by omega) (by omega)) ?_
        rw [nI_clamp (by omega)]
        refine q_Mo_isWord_31 hX (ab_conT hC) (k_Mo_isLetter hl2) (by rw [hR]; decide) (fun v h' e => ?_) (fun E h' e => by cases e)
        cases e
        cases hlt2 : isLt (ma i) with
        | false => exact t_Mo_isWord_34_2 hX rfl (t_Mo_isWord_41_1 hX (hgo false (by rw [lwB, hw, hlt2]; rfl)))
        | true => exact t_Mo_isWord_34_1 hX (by decide) (hgo true (by rw [lwB, hw, hlt2]; rfl))
  exact hloop m 0 (by omega)
set_option maxHeartbeats 1000000 in
theorem k_Mo_word (hl : l.stackTraces = false) {x : Int32} {n m : Nat} {cnt : Nat → Nat} (hn : n ≤ 32) (h60 : m ≤ 60) (hc : ∀ r, r < n → cnt r ≤ 12 ∧ ny r = nI (cnt r)) (hlen : ∀ r, r < n → ∀ i, i < cnt r → ∃ k : Nat, k ≤ 10 ∧ nl (12 * r + i) = nI k) :
    ab_K l M_Mo_word (ab_r 3) (0, 0) [.ref 31, .int x] (hf pd sh tr ru qu to al (hm mt (ma, nI m) (nI n, ny, nl, nt, nv, np, nf, nu, nh) mq mo mx z))
      (fun q => q = if isR x n = true then (if mIsW ma m = true then (if mHas nl nt ma m x.toNatClampNeg (cnt x.toNatClampNeg) = true then (.inl (some (.int (nI (cnt x.toNatClampNeg)))), (hf pd sh tr ru qu to al (hm 0 (ma, 0) (nI n, ny, nl, nt, nv, np, nf, nu, nh) mq mo mx z)))
        else if cnt x.toNatClampNeg < 12 then (.inl (some (.int (nI (cnt x.toNatClampNeg + 1)))), (hf pd sh tr ru qu to al (hm 0 (ma, 0) (nI n, upd ny x.toNatClampNeg (nI (cnt x.toNatClampNeg + 1)), upd nl (12 * x.toNatClampNeg + cnt x.toNatClampNeg) (nI m), cpL nt ma (12 * x.toNatClampNeg + cnt x.toNatClampNeg) m, nv, np, nf, nu, nh) mq mo mx z)))
        else (.inl (some (.int 0)), (hf pd sh tr ru qu to al (hm 3 (ma, nI m) (nI n, ny, nl, nt, nv, np, nf, nu, nh) mq mo mx z)))) else (.inl (some (.int 0)), (hf pd sh tr ru qu to al (hm 2 (ma, nI m) (nI n, ny, nl, nt, nv, np, nf, nu, nh) mq mo mx z)))) else (.inl (some (.int 0)), (hf pd sh tr ru qu to al (hm 1 (ma, nI m) (nI n, ny, nl, nt, nv, np, nf, nu, nh) mq mo mx z)))) := by
  refine e_Mo_word hl (by decide) (fun X hl1 hR hX hC => ?_)
  have hl2 : (X.2.1).stackTraces = false := by rw [hl1]; exact hl
  refine t_Mo_word_0_1 hX (q_Mo_word_2 hX (ab_conT hC) (k_Mo_isRecord hl2) (by rw [hR]; decide) (fun v h' e => ?_) (fun E h' e => by cases e))
  cases e
  refine t_Mo_word_5_1 hX ?_
  cases hk : isR x n with
  | false =>
    rw [hk, if_neg (by decide)] at hC
    refine t_Mo_word_14_4 hX rfl (t_Mo_word_129_1 hX (q_Mo_word_132 hX (ab_conT hC) (k_Mo_isWord hl2 h60) (by rw [hR]; decide) (fun v h' e => ?_) (fun E h' e => by cases e)))
    cases e
    refine t_Mo_word_135_3 hX rfl rfl (t_Mo_word_158_1 hX (q_Mo_word_159 hX (ab_conT hC) (k_Mo_goes (a := false) (c := false) hl2) (by rw [hR]; decide) (fun v h' e => ?_) (fun E h' e => by cases e)))
    cases e
    exact t_Mo_word_162_1 hX rfl (r_Mo_word_166 hX hC (by decide) rfl)
  | true =>
    rw [hk, if_pos rfl] at hC
    obtain ⟨k1, k2⟩ := ab_and hk
    obtain ⟨r, hr, rfl⟩ := ab_ofI (of_decide_eq_true k1) (of_decide_eq_true k2) (by omega)
    have hcl : (nI r).toNatClampNeg = r := nI_clamp (by omega)
    have hin : vp_in (nI r) 32 := vp_in_nI (by omega) (by omega)
    obtain ⟨w1, w2⟩ := hc r hr
    have e12 : (12 : Int32) * nI r = nI (12 * r) := ab_mul2 12 r
    rw [hcl] at hC
    rw [e12]
    have hends : ∀ B : Bool, B = mHas nl nt ma m r (cnt r) → ab_W X M_Mo_word (129, [(0, .ref 31), (1, .int (nI r)), (2, .int 1), (3, .int (bI B))], [], (hf pd sh tr ru qu to al (hm mt (ma, nI m) (nI n, ny, nl, nt, nv, np, nf, nu, nh) mq mo mx z)), 0, 0) := by
      intro B hB
      refine t_Mo_word_129_1 hX (q_Mo_word_132 hX (ab_conT hC) (k_Mo_isWord hl2 h60) (by rw [hR]; decide) (fun v h' e => ?_) (fun E h' e => by cases e))
      cases e
      have hgo : ∀ C : Bool, C = (B || decide (cnt r < 12)) → ab_W X M_Mo_word (159, [(0, .ref 31), (1, .int (nI r)), (3, .int (bI B))], [.int (bI C), .int (bI (mIsW ma m)), .int 1, .ref 31], (hf pd sh tr ru qu to al (hm mt (ma, nI m) (nI n, ny, nl, nt, nv, np, nf, nu, nh) mq mo mx z)), 0, 0) := by
        intro C hCC
        refine q_Mo_word_159 hX (ab_conT hC) (k_Mo_goes (a := true) hl2) (by rw [hR]; decide) (fun v h' e => ?_) (fun E h' e => by cases e)
        cases e
        cases hw : mIsW ma m with
        | false =>
          rw [hw, if_neg (by decide)] at hC
          exact t_Mo_word_162_1 hX rfl (r_Mo_word_166 hX hC (by decide) rfl)
        | true =>
          rw [hw, if_pos rfl, ← hB] at hC
          cases B with
          | true =>
            rw [if_pos rfl] at hC
            have hCt : C = true := hCC
            subst hCt
            refine t_Mo_word_162_3 hX (by decide) (by decide) (t_Mo_word_243_1 hX hin (r_Mo_word_254 hX hC (by decide) ?_))
            rw [hcl, w2]
            rfl
          | false =>
            rw [if_neg (by decide)] at hC
            by_cases h12 : cnt r < 12
            · rw [if_pos h12] at hC
              rw [decide_eq_true h12] at hCC
              have hCt : C = true := hCC
              subst hCt
              have e13 : nI (12 * r) + nI (cnt r) = nI (12 * r + cnt r) := nI_add _ _
              have hm10 := ((mIsW_t (by omega)).mp hw).1
              refine t_Mo_word_162_2 hX (by decide) rfl hin (by rw [hcl, w2, e12, e13]; exact vp_in_nI (by omega) (by omega)) ?_
              rw [hcl, w2, e12, e13, nI_clamp (show 12 * r + cnt r < 2 ^ 31 by omega)]
              have hloop : ∀ k j : Nat, j + k = m → ab_W X M_Mo_word (198, [(0, .ref 31), (1, .int (nI r)), (4, .int (nI (12 * r + cnt r))), (5, .int (nI j))], [], (hf pd sh tr ru qu to al (hm 0 (ma, nI m) (nI n, ny, upd nl (12 * r + cnt r) (nI m), cpL nt ma (12 * r + cnt r) j, nv, np, nf, nu, nh) mq mo mx z)), 0, 0) := by
                intro k
                induction k with
                | zero =>
                  intro j hj
                  have e : j = m := by omega
                  subst e
                  refine t_Mo_word_198_2 hX (nI_le (Nat.le_refl _) (by omega)) hin hin (t_Mo_word_243_1 hX hin (r_Mo_word_254 hX hC (by decide) ?_))
                  rw [hcl, pk_us, w2, nI_1]
                | succ k ih =>
                  intro j hj
                  have e10 : (10 : Int32) * nI (12 * r + cnt r) + nI j = nI (10 * (12 * r + cnt r) + j) := ab_lin2 10 _ _
                  refine t_Mo_word_198_1 hX (nI_ge (by omega) (by omega)) (vp_in_nI (by omega) (by omega)) (by rw [e10]; exact vp_in_nI (by omega) (by omega)) ?_
                  rw [e10, nI_clamp (show 10 * (12 * r + cnt r) + j < 2 ^ 31 by omega), nI_clamp (show j < 2 ^ 31 by omega), nI_1]
                  exact ih (j + 1) (by omega)
              exact hloop m 0 (by omega)
            · rw [if_neg h12] at hC
              rw [decide_eq_false h12] at hCC
              have hCf : C = false := hCC
              subst hCf
              exact t_Mo_word_162_1 hX rfl (r_Mo_word_166 hX hC (by decide) rfl)
      cases B with
      | true => exact t_Mo_word_135_4 hX (by decide) (t_Mo_word_154_1 hX (hgo true rfl))
      | false =>
        by_cases h12 : cnt r < 12
        · exact t_Mo_word_135_1 hX rfl (by decide) hin (by rw [hcl, w2]; exact nI_ge (b := 12) h12 (by omega)) (t_Mo_word_154_1 hX (hgo true (by rw [decide_eq_true h12]; rfl)))
        · exact t_Mo_word_135_2 hX rfl (by decide) hin (by rw [hcl, w2]; exact nI_le (a := 12) (by omega) (by omega)) (t_Mo_word_158_1 hX (hgo false (by rw [decide_eq_false h12]; rfl)))
    have hloop : ∀ k i : Nat, i + k = cnt r → ab_W X M_Mo_word (14, [(0, .ref 31), (1, .int (nI r)), (2, .int 1), (3, .int (bI (mHas nl nt ma m r i))), (4, .int (nI (12 * r + i)))], [], (hf pd sh tr ru qu to al (hm mt (ma, nI m) (nI n, ny, nl, nt, nv, np, nf, nu, nh) mq mo mx z)), 0, 0) := by
      intro k
      induction k with
      | zero =>
        intro i hi
        have e : i = cnt r := by omega
        subst e
        exact t_Mo_word_14_3 hX (by decide) hin (by rw [hcl, w2, e12, nI_add]; exact nI_le (Nat.le_refl _) (by omega)) (hends _ rfl)
      | succ k ih =>
        intro i hi
        have h9 := ih (i + 1) (by omega)
        have hlt : ¬ (12 : Int32) * nI r + ny (nI r).toNatClampNeg ≤ nI (12 * r + i) := by rw [hcl, w2, e12, nI_add]; exact nI_ge (by omega) (by omega)
        have hinw : vp_in (nI (12 * r + i)) 384 := vp_in_nI (by omega) (by omega)
        have hclw : (nI (12 * r + i)).toNatClampNeg = 12 * r + i := nI_clamp (by omega)
        obtain ⟨kl, hkl, hkl2⟩ := hlen r hr i (by omega)
        have h122 : ∀ B : Bool, B = mHas nl nt ma m r (i + 1) → ab_W X M_Mo_word (122, [(0, .ref 31), (1, .int (nI r)), (2, .int 1), (4, .int (nI (12 * r + i)))], [.int (bI B)], (hf pd sh tr ru qu to al (hm mt (ma, nI m) (nI n, ny, nl, nt, nv, np, nf, nu, nh) mq mo mx z)), 0, 0) := by
          intro B hB
          refine t_Mo_word_122_1 hX ?_
          rw [hB, nI_1]
          exact h9
        have h108 : ∀ S : Bool, S = smS nt ma (12 * r + i) (decide (nl (12 * r + i) = nI m)) m → ab_W X M_Mo_word (108, [(0, .ref 31), (1, .int (nI r)), (2, .int 1), (3, .int (bI (mHas nl nt ma m r i))), (4, .int (nI (12 * r + i))), (5, .int (bI S))], [], (hf pd sh tr ru qu to al (hm mt (ma, nI m) (nI n, ny, nl, nt, nv, np, nf, nu, nh) mq mo mx z)), 0, 0) := by
          intro S hS
          cases hh : mHas nl nt ma m r i with
          | true => exact t_Mo_word_108_3 hX (by decide) (t_Mo_word_117_1 hX (h122 true (by rw [mHas, hh]; rfl)))
          | false =>
            cases S with
            | true => exact t_Mo_word_108_1 hX rfl (by decide) (t_Mo_word_117_1 hX (h122 true (by rw [mHas, hh, ← hS]; rfl)))
            | false => exact t_Mo_word_108_2 hX rfl rfl (h122 false (by rw [mHas, hh, ← hS]; rfl))
        have hinner : ∀ (b : Bool), b = decide (nl (12 * r + i) = nI m) → ∀ k j : Nat, j + k = m → ab_W X M_Mo_word (58, [(0, .ref 31), (1, .int (nI r)), (2, .int 1), (3, .int (bI (mHas nl nt ma m r i))), (4, .int (nI (12 * r + i))), (5, .int (bI (smS nt ma (12 * r + i) b j))), (6, .int (nI j))], [], (hf pd sh tr ru qu to al (hm mt (ma, nI m) (nI n, ny, nl, nt, nv, np, nf, nu, nh) mq mo mx z)), 0, 0) := by
          intro b hb k
          induction k with
          | zero =>
            intro j hj
            have e : j = m := by omega
            subst e
            exact t_Mo_word_58_4 hX (nI_le (Nat.le_refl _) (by omega)) (h108 _ (by rw [hb]))
          | succ k ih2 =>
            intro j hj
            have h8 := ih2 (j + 1) (by omega)
            have hltj : ¬ nI m ≤ nI j := nI_ge (by omega) (by omega)
            cases hs : smS nt ma (12 * r + i) b j with
            | false =>
              refine t_Mo_word_58_3 hX hltj rfl (h108 false ?_)
              have h7 := smS_f hs (m - j)
              rw [show j + (m - j) = m by omega, hb] at h7
              exact h7.symm
            | true =>
              have hbt := ((smS_t j).mp hs).1
              rw [hb] at hbt
              have hml := of_decide_eq_true hbt
              rw [hkl2, nI_eq (by omega) (by omega)] at hml
              have e10 : (10 : Int32) * nI (12 * r + i) + nI j = nI (10 * (12 * r + i) + j) := ab_lin2 10 _ _
              have hin1 : vp_in ((10 : Int32) * nI (12 * r + i) + nI j) 3840 := by rw [e10]; exact vp_in_nI (by omega) (by omega)
              have hin2 : vp_in (nI j) 60 := vp_in_nI (by omega) (by omega)
              have hcl1 : ((10 : Int32) * nI (12 * r + i) + nI j).toNatClampNeg = 10 * (12 * r + i) + j := by rw [e10]; exact nI_clamp (by omega)
              have hcl2 : (nI j).toNatClampNeg = j := nI_clamp (by omega)
              by_cases hq : nt (10 * (12 * r + i) + j) = ma j
              · refine t_Mo_word_58_1 hX hltj (by decide) hin1 hin2 (by rw [hcl1, hcl2]; exact hq) (t_Mo_word_100_1 hX ?_)
                rw [smS, hs, decide_eq_true hq] at h8
                rw [nI_1]
                exact h8
              · refine t_Mo_word_58_2 hX hltj (by decide) hin1 hin2 (by rw [hcl1, hcl2]; exact hq) (t_Mo_word_100_1 hX ?_)
                rw [smS, hs, decide_eq_false hq] at h8
                rw [nI_1]
                exact h8
        by_cases hq : nl (12 * r + i) = nI m
        · have h8 := hinner true (by rw [decide_eq_true hq]) m 0 (by omega)
          exact t_Mo_word_14_1 hX (by decide) hin hlt hinw (by rw [hclw]; exact hq) (t_Mo_word_53_1 hX h8)
        · have h8 := hinner false (by rw [decide_eq_false hq]) m 0 (by omega)
          exact t_Mo_word_14_2 hX (by decide) hin hlt hinw (by rw [hclw]; exact hq) (t_Mo_word_53_1 hX h8)
    exact hloop (cnt r) 0 (by omega)
theorem k_Mo_facet (hl : l.stackTraces = false) {x1 x2 x3 : Int32} {n : Nat} (hn : n ≤ 32) : ab_K l M_Mo_facet (ab_r 1) (0, 0) [.ref 31, .int x1, .int x2, .int x3] (hf pd sh tr ru qu to al (hm mt mp (nI n, ny, nl, nt, nv, np, nf, nu, nh) mq mo mx z))
    (fun q => q = if (isR x1 n && (wi x2 0 3 && wi x3 (-1) 15)) = true then (.inl (some (.int (nv (x1.toNatClampNeg * 4 + x2.toNatClampNeg)))), (hf pd sh tr ru qu to al (hm 0 mp (nI n, ny, nl, nt, upd nv (x1.toNatClampNeg * 4 + x2.toNatClampNeg) x3, np, nf, nu, nh) mq mo mx z))) else (.inl (some (.int 0)), (hf pd sh tr ru qu to al (hm 1 mp (nI n, ny, nl, nt, nv, np, nf, nu, nh) mq mo mx z)))) := by
  refine e_Mo_facet hl (by decide) (fun X hl1 hR hX hC => ?_)
  have hl2 : (X.2.1).stackTraces = false := by rw [hl1]; exact hl
  have hgo : ∀ B : Bool, B = (isR x1 n && (wi x2 0 3 && wi x3 (-1) 15)) → ab_W X M_Mo_facet (33, [(0, .ref 31), (1, .int x1), (2, .int x2), (3, .int x3)], [.int (bI B), .ref 31], (hf pd sh tr ru qu to al (hm mt mp (nI n, ny, nl, nt, nv, np, nf, nu, nh) mq mo mx z)), 0, 0) := by
    intro B hB
    refine t_Mo_facet_33_1 hX (q_Mo_facet_35 hX (ab_conT hC) (k_Mo_goes (b := true) (c := true) hl2) (by rw [hR]; decide) (fun v h' e => ?_) (fun E h' e => by cases e))
    cases e
    rw [← hB] at hC
    cases B with
    | false =>
      rw [if_neg (by decide)] at hC
      exact t_Mo_facet_38_1 hX rfl (r_Mo_facet_42 hX hC (by decide) rfl)
    | true =>
      rw [if_pos rfl] at hC
      obtain ⟨k1, k2⟩ := ab_and hB.symm
      obtain ⟨k2, -⟩ := ab_and k2
      obtain ⟨k3, k4⟩ := ab_and k1
      obtain ⟨k5, k6⟩ := ab_and k2
      obtain ⟨r, hr, rfl⟩ := ab_ofI (of_decide_eq_true k3) (of_decide_eq_true k4) (by omega)
      obtain ⟨f, hf4, rfl⟩ : ∃ f : Nat, f < 4 ∧ x2 = nI f := by
        obtain ⟨f, h1, h2⟩ := nI_of (of_decide_eq_true k5)
        refine ⟨f, ?_, h2⟩
        rw [h2] at k6
        by_cases q : f < 4
        · exact q
        · exact absurd (nI_lt (a := 3) (by omega) h1) (of_decide_eq_true k6)
      have e4 : (4 : Int32) * nI r + nI f = nI (4 * r + f) := ab_lin2 4 _ _
      have hin : vp_in ((4 : Int32) * nI r + nI f) 128 := by rw [e4]; exact vp_in_nI (by omega) (by omega)
      have hcl : ((4 : Int32) * nI r + nI f).toNatClampNeg = r * 4 + f := by rw [e4, nI_clamp (by omega)]; omega
      refine t_Mo_facet_38_2 hX (by decide) hin hin (r_Mo_facet_68 hX hC (by decide) ?_)
      rw [hcl, nI_clamp (show r < 2 ^ 31 by omega), nI_clamp (show f < 2 ^ 31 by omega)]
      rfl
  have hno : (isR x1 n && (wi x2 0 3 && wi x3 (-1) 15)) = false → ab_W X M_Mo_facet (32, [(0, .ref 31), (1, .int x1), (2, .int x2), (3, .int x3)], [.ref 31], (hf pd sh tr ru qu to al (hm mt mp (nI n, ny, nl, nt, nv, np, nf, nu, nh) mq mo mx z)), 0, 0) := fun h => t_Mo_facet_32_1 hX (hgo false h.symm)
  refine t_Mo_facet_0_1 hX (q_Mo_facet_3 hX (ab_conT hC) (k_Mo_isRecord hl2) (by rw [hR]; decide) (fun v h' e => ?_) (fun E h' e => by cases e))
  cases e
  cases h1 : isR x1 n with
  | false => exact t_Mo_facet_6_2 hX rfl (hno (by rw [h1]; rfl))
  | true =>
    refine t_Mo_facet_6_1 hX (by decide) (q_Mo_facet_12 hX (ab_conT hC) (k_Mo_within hl2) (by rw [hR]; decide) (fun v h' e => ?_) (fun E h' e => by cases e))
    cases e
    cases h2 : wi x2 0 3 with
    | false => exact t_Mo_facet_15_2 hX rfl (hno (by rw [h1, h2]; rfl))
    | true =>
      refine t_Mo_facet_15_1 hX (by decide) (q_Mo_facet_22 hX (ab_conT hC) (k_Mo_within hl2) (by rw [hR]; decide) (fun v h' e => ?_) (fun E h' e => by cases e))
      cases e
      cases h3 : wi x3 (-1) 15 with
      | false => exact t_Mo_facet_25_2 hX rfl (hno (by rw [h1, h2, h3]; rfl))
      | true => exact t_Mo_facet_25_1 hX (by decide) (hgo true (by rw [h1, h2, h3]; rfl))
theorem k_Mo_isIn (hl : l.stackTraces = false) {f K : Nat} {v top : Int32} (h4 : f < 4) (hq : ∀ j, j < 64 → okv (np j)) (hv : okv v) (hch : chE (pO np f) K v) : ab_K l M_Mo_isIn (ab_r 0) (0, 0) [.ref 31, .int (nI f), .int v, .int top] (hf pd sh tr ru qu to al (hm mt mp (nr, ny, nl, nt, nv, np, nf, nu, nh) mq mo mx z)) (fun q => q = (.inl (some (.int (bI (uN (pO np f) top (K + 1) v)))), (hf pd sh tr ru qu to al (hm mt mp (nr, ny, nl, nt, nv, np, nf, nu, nh) mq mo mx z)))) := by
  refine e_Mo_isIn hl (by decide) (fun X hl1 hR hX hC => ?_)
  obtain ⟨R9, hR9⟩ : ∃ R9, R9 = uN (pO np f) top (K + 1) v := ⟨_, rfl⟩
  rw [← hR9] at hC
  refine t_Mo_isIn_0_1 hX ?_
  have hloop : ∀ (k : Nat) (a : Int32), okv a → chE (pO np f) k a → uN (pO np f) top (k + 1) a = R9 → ab_W X M_Mo_isIn (3, [(0, .ref 31), (1, .int (nI f)), (3, .int top), (4, .int a)], [], (hf pd sh tr ru qu to al (hm mt mp (nr, ny, nl, nt, nv, np, nf, nu, nh) mq mo mx z)), 0, 0) := by
    have hnone : ∀ a : Int32, a = -1 → false = R9 → ab_W X M_Mo_isIn (3, [(0, .ref 31), (1, .int (nI f)), (3, .int top), (4, .int a)], [], (hf pd sh tr ru qu to al (hm mt mp (nr, ny, nl, nt, nv, np, nf, nu, nh) mq mo mx z)), 0, 0) := by
      intro a h1 hN
      refine t_Mo_isIn_3_3 hX h1 ?_
      subst hN
      by_cases h2 : a = top
      · exact t_Mo_isIn_32_2 hX h2 h1 (t_Mo_isIn_48_1 hX (r_Mo_isIn_49 hX hC (Or.inl rfl) (by decide) rfl))
      · exact t_Mo_isIn_32_3 hX h2 (t_Mo_isIn_48_1 hX (r_Mo_isIn_49 hX hC (Or.inl rfl) (by decide) rfl))
    have htop : ∀ a : Int32, ¬ a = -1 → a = top → true = R9 → ab_W X M_Mo_isIn (3, [(0, .ref 31), (1, .int (nI f)), (3, .int top), (4, .int a)], [], (hf pd sh tr ru qu to al (hm mt mp (nr, ny, nl, nt, nv, np, nf, nu, nh) mq mo mx z)), 0, 0) := by
      intro a h1 h2 hN
      subst hN
      exact t_Mo_isIn_3_2 hX h1 h2 (t_Mo_isIn_32_1 hX h2 h1 (r_Mo_isIn_49 hX hC (Or.inr rfl) (by decide) rfl))
    intro k
    induction k with
    | zero =>
      intro a ha hc hN
      have h1 : a = -1 := hc
      rw [uN, if_pos h1] at hN
      exact hnone a h1 hN
    | succ k ih =>
      intro a ha hc hN
      rw [uN] at hN
      by_cases h1 : a = -1
      · rw [if_pos h1] at hN
        exact hnone a h1 hN
      · rw [if_neg h1] at hN
        by_cases h2 : a = top
        · rw [if_pos h2] at hN
          exact htop a h1 h2 hN
        · rw [if_neg h2] at hN
          have hc2 : chE (pO np f) k (pO np f a) := hc.resolve_left h1
          obtain ⟨b, hb, rfl⟩ := ha.resolve_left h1
          have e16 : (16 : Int32) * nI f + nI b = nI (16 * f + b) := ab_lin2 16 _ _
          have hcl : ((16 : Int32) * nI f + nI b).toNatClampNeg = f * 16 + (nI b).toNatClampNeg := by rw [e16, nI_clamp (by omega), nI_clamp (by omega)]; omega
          have hp : pO np f (nI b) = np (f * 16 + (nI b).toNatClampNeg) := if_neg h1
          refine t_Mo_isIn_3_1 hX h1 h2 (by rw [e16]; exact vp_in_nI (by omega) (by omega)) ?_
          rw [hcl, ← hp]
          exact ih _ (okv_pO h4 hq (Or.inr ⟨b, hb, rfl⟩)) hc2 hN
  exact hloop K v hv hch hR9.symm
theorem k_Mo_parent (hl : l.stackTraces = false) {x1 x2 x3 : Int32} (hq : ∀ j, j < 64 → okv (np j)) (hch : ∀ f, f < 4 → ∀ v, okv v → chE (pO np f) 16 v) : ab_K l M_Mo_parent (ab_r 1) (0, 0) [.ref 31, .int x1, .int x2, .int x3] (hf pd sh tr ru qu to al (hm mt mp (nr, ny, nl, nt, nv, np, nf, nu, nh) mq mo mx z))
    (fun q => q = if (wi x1 0 3 && (wi x2 0 15 && wi x3 (-1) 15)) = true then (if ¬ x3 = -1 ∧ uN (pO np x1.toNatClampNeg) x2 17 x3 = true then (.inl (some (.int 0)), (hf pd sh tr ru qu to al (hm 0 mp (nr, ny, nl, nt, nv, np, nf, nu, nh) mq mo mx z))) else (.inl (some (.int 1)), (hf pd sh tr ru qu to al (hm 0 mp (nr, ny, nl, nt, nv, upd np (x1.toNatClampNeg * 16 + x2.toNatClampNeg) x3, nf, nu, nh) mq mo mx z)))) else (.inl (some (.int 0)), (hf pd sh tr ru qu to al (hm 1 mp (nr, ny, nl, nt, nv, np, nf, nu, nh) mq mo mx z)))) := by
  refine e_Mo_parent hl (by decide) (fun X hl1 hR hX hC => ?_)
  have hl2 : (X.2.1).stackTraces = false := by rw [hl1]; exact hl
  have hgo : ∀ B : Bool, B = (wi x1 0 3 && (wi x2 0 15 && wi x3 (-1) 15)) → ab_W X M_Mo_parent (35, [(0, .ref 31), (1, .int x1), (2, .int x2), (3, .int x3)], [.int (bI B), .ref 31], (hf pd sh tr ru qu to al (hm mt mp (nr, ny, nl, nt, nv, np, nf, nu, nh) mq mo mx z)), 0, 0) := by
    intro B hB
    refine t_Mo_parent_35_1 hX (q_Mo_parent_37 hX (ab_conT hC) (k_Mo_goes (b := true) (c := true) hl2) (by rw [hR]; decide) (fun v h' e => ?_) (fun E h' e => by cases e))
    cases e
    rw [← hB] at hC
    cases B with
    | false =>
      rw [if_neg (by decide)] at hC
      exact t_Mo_parent_40_1 hX rfl (r_Mo_parent_44 hX hC (Or.inl rfl) (by decide) rfl)
    | true =>
      rw [if_pos rfl] at hC
      obtain ⟨k1, k2⟩ := ab_and hB.symm
      obtain ⟨k2, k3⟩ := ab_and k2
      obtain ⟨f, hf4, rfl⟩ : ∃ f : Nat, f < 4 ∧ x1 = nI f := by
        obtain ⟨k5, k6⟩ := ab_and k1
        obtain ⟨f, h1, h2⟩ := nI_of (of_decide_eq_true k5)
        refine ⟨f, ?_, h2⟩
        rw [h2] at k6
        by_cases q : f < 4
        · exact q
        · exact absurd (nI_lt (a := 3) (by omega) h1) (of_decide_eq_true k6)
      obtain ⟨b, hb16, rfl⟩ : ∃ b : Nat, b < 16 ∧ x2 = nI b := by
        obtain ⟨k5, k6⟩ := ab_and k2
        obtain ⟨f, h1, h2⟩ := nI_of (of_decide_eq_true k5)
        refine ⟨f, ?_, h2⟩
        rw [h2] at k6
        by_cases q : f < 16
        · exact q
        · exact absurd (nI_lt (a := 15) (by omega) h1) (of_decide_eq_true k6)
      have hv3 : okv x3 := by
        obtain ⟨k5, k6⟩ := ab_and k3
        have k5 := of_decide_eq_true k5
        have k6 := of_decide_eq_true k6
        rw [Int32.lt_iff_toInt_lt] at k5 k6
        have e1 : (-1 : Int32).toInt = -1 := rfl
        have e15 : (15 : Int32).toInt = 15 := rfl
        by_cases h : x3 < 0
        · left
          apply Int32.toInt_inj.mp
          rw [Int32.lt_iff_toInt_lt] at h
          have e0 : (0 : Int32).toInt = 0 := rfl
          omega
        · obtain ⟨c, h1, h2⟩ := nI_of h
          right
          refine ⟨c, ?_, h2⟩
          have h3 := nI_toInt h1
          rw [← h2] at h3
          omega
      have hclf : (nI f).toNatClampNeg = f := nI_clamp (by omega)
      have hclb : (nI b).toNatClampNeg = b := nI_clamp (by omega)
      rw [hclf, hclb] at hC
      have e16 : (16 : Int32) * nI f + nI b = nI (16 * f + b) := ab_lin2 16 _ _
      have hcl : ((16 : Int32) * nI f + nI b).toNatClampNeg = f * 16 + b := by rw [e16, nI_clamp (by omega)]; omega
      have hset : ¬ (¬ x3 = -1 ∧ uN (pO np f) (nI b) 17 x3 = true) → ab_W X M_Mo_parent (62, [(0, .ref 31), (1, .int (nI f)), (2, .int (nI b)), (3, .int x3)], [], (hf pd sh tr ru qu to al (hm 0 mp (nr, ny, nl, nt, nv, np, nf, nu, nh) mq mo mx z)), 0, 0) := by
        intro hno
        rw [if_neg hno] at hC
        refine t_Mo_parent_62_1 hX (by rw [e16]; exact vp_in_nI (by omega) (by omega)) (r_Mo_parent_75 hX hC (Or.inr rfl) (by decide) ?_)
        rw [hcl]
      by_cases h3 : x3 = -1
      · exact t_Mo_parent_40_3 hX (by decide) h3 (hset (fun q => q.1 h3))
      · refine t_Mo_parent_40_2 hX (by decide) h3 (q_Mo_parent_54 hX (ab_conT hC) (k_Mo_isIn (K := 16) hl2 hf4 hq hv3 (hch f hf4 x3 hv3)) (by rw [hR]; decide) (fun v h' e => ?_) (fun E h' e => by cases e))
        cases e
        cases hu : uN (pO np f) (nI b) 17 x3 with
        | true =>
          rw [if_pos ⟨h3, hu⟩] at hC
          exact t_Mo_parent_57_1 hX (by decide) (r_Mo_parent_61 hX hC (Or.inl rfl) (by decide) rfl)
        | false =>
          exact t_Mo_parent_57_2 hX rfl (hset (fun q => by rw [hu] at q; cases q.2))
  have hno : (wi x1 0 3 && (wi x2 0 15 && wi x3 (-1) 15)) = false → ab_W X M_Mo_parent (34, [(0, .ref 31), (1, .int x1), (2, .int x2), (3, .int x3)], [.ref 31], (hf pd sh tr ru qu to al (hm mt mp (nr, ny, nl, nt, nv, np, nf, nu, nh) mq mo mx z)), 0, 0) := fun h => t_Mo_parent_34_1 hX (hgo false h.symm)
  refine t_Mo_parent_0_1 hX (q_Mo_parent_4 hX (ab_conT hC) (k_Mo_within hl2) (by rw [hR]; decide) (fun v h' e => ?_) (fun E h' e => by cases e))
  cases e
  cases h1 : wi x1 0 3 with
  | false => exact t_Mo_parent_7_2 hX rfl (hno (by rw [h1]; rfl))
  | true =>
    refine t_Mo_parent_7_1 hX (by decide) (q_Mo_parent_14 hX (ab_conT hC) (k_Mo_within hl2) (by rw [hR]; decide) (fun v h' e => ?_) (fun E h' e => by cases e))
    cases e
    cases h2 : wi x2 0 15 with
    | false => exact t_Mo_parent_17_2 hX rfl (hno (by rw [h1, h2]; rfl))
    | true =>
      refine t_Mo_parent_17_1 hX (by decide) (q_Mo_parent_24 hX (ab_conT hC) (k_Mo_within hl2) (by rw [hR]; decide) (fun v h' e => ?_) (fun E h' e => by cases e))
      cases e
      cases h3 : wi x3 (-1) 15 with
      | false => exact t_Mo_parent_27_2 hX rfl (hno (by rw [h1, h2, h3]; rfl))
      | true => exact t_Mo_parent_27_1 hX (by decide) (hgo true (by rw [h1, h2, h3]; rfl))
def spB (x2 x3 : Int32) : Bool := decide (¬ x3 < x2) && (wi x2 0 9999 && wi x3 0 9999)
theorem k_Mo_span (hl : l.stackTraces = false) {x1 x2 x3 : Int32} {n : Nat} (hn : n ≤ 32) : ab_K l M_Mo_span (ab_r 1) (0, 0) [.ref 31, .int x1, .int x2, .int x3] (hf pd sh tr ru qu to al (hm mt mp (nI n, ny, nl, nt, nv, np, nf, nu, nh) mq mo mx z))
    (fun q => q = (.inl none, if (isR x1 n && spB x2 x3) = true then (hf pd sh tr ru qu to al (hm 0 mp (nI n, ny, nl, nt, nv, np, upd nf x1.toNatClampNeg x2, upd nu x1.toNatClampNeg x3, nh) mq mo mx z)) else (hf pd sh tr ru qu to al (hm (gV (isR x1 n) (spB x2 x3) true) mp (nI n, ny, nl, nt, nv, np, nf, nu, nh) mq mo mx z)))) := by
  refine e_Mo_span hl (by decide) (fun X hl1 hR hX hC => ?_)
  have hl2 : (X.2.1).stackTraces = false := by rw [hl1]; exact hl
  refine t_Mo_span_0_1 hX (q_Mo_span_3 hX (ab_conT hC) (k_Mo_isRecord hl2) (by rw [hR]; decide) (fun v h' e => ?_) (fun E h' e => by cases e))
  cases e
  have hgo : ∀ B : Bool, B = spB x2 x3 → ab_W X M_Mo_span (38, [(0, .ref 31), (1, .int x1), (2, .int x2), (3, .int x3)], [.int (bI B), .int (bI (isR x1 n)), .ref 31], (hf pd sh tr ru qu to al (hm mt mp (nI n, ny, nl, nt, nv, np, nf, nu, nh) mq mo mx z)), 0, 0) := by
    intro B hB
    refine t_Mo_span_38_1 hX (q_Mo_span_39 hX (ab_conT hC) (k_Mo_goes (c := true) hl2) (by rw [hR]; decide) (fun v h' e => ?_) (fun E h' e => by cases e))
    cases e
    rw [← hB] at hC
    cases hr : isR x1 n with
    | false =>
      rw [hr, if_neg (by rw [Bool.false_and]; decide)] at hC
      exact t_Mo_span_42_2 hX rfl (r_Mo_span_59 hX hC (by decide) rfl)
    | true =>
      cases B with
      | false =>
        rw [hr, if_neg (by decide)] at hC
        exact t_Mo_span_42_2 hX rfl (r_Mo_span_59 hX hC (by decide) rfl)
      | true =>
        rw [hr, if_pos (show (true && true) = true from rfl)] at hC
        obtain ⟨k3, k4⟩ := ab_and hr
        obtain ⟨r, hr32, rfl⟩ := ab_ofI (of_decide_eq_true k3) (of_decide_eq_true k4) (by omega)
        have hin : vp_in (nI r) 32 := vp_in_nI (by omega) (by omega)
        exact t_Mo_span_42_1 hX (by decide) hin hin (r_Mo_span_59 hX hC (by decide) rfl)
  have hno : spB x2 x3 = false → ab_W X M_Mo_span (37, [(0, .ref 31), (1, .int x1), (2, .int x2), (3, .int x3)], [.int (bI (isR x1 n)), .ref 31], (hf pd sh tr ru qu to al (hm mt mp (nI n, ny, nl, nt, nv, np, nf, nu, nh) mq mo mx z)), 0, 0) := fun h => t_Mo_span_37_1 hX (hgo false h.symm)
  unfold spB at hno hgo
  by_cases h1 : x3 < x2
  · exact t_Mo_span_6_2 hX h1 (hno (by rw [decide_eq_false (fun q => q h1)]; rfl))
  · refine t_Mo_span_6_1 hX h1 (q_Mo_span_16 hX (ab_conT hC) (k_Mo_within hl2) (by rw [hR]; decide) (fun v h' e => ?_) (fun E h' e => by cases e))
    cases e
    cases h2 : wi x2 0 9999 with
    | false => exact t_Mo_span_19_2 hX rfl (hno (by rw [h2, Bool.false_and, Bool.and_false]))
    | true =>
      refine t_Mo_span_19_1 hX (by decide) (q_Mo_span_27 hX (ab_conT hC) (k_Mo_within hl2) (by rw [hR]; decide) (fun v h' e => ?_) (fun E h' e => by cases e))
      cases e
      cases h3 : wi x3 0 9999 with
      | false => exact t_Mo_span_30_2 hX rfl (hno (by rw [h3, Bool.and_false, Bool.and_false]))
      | true => exact t_Mo_span_30_1 hX (by decide) (hgo true (by rw [decide_eq_true h1, h2, h3]; rfl))
theorem k_Mo_right (hl : l.stackTraces = false) {x1 x2 : Int32} {on : Bool} {n : Nat} (hn : n ≤ 32) : ab_K l M_Mo_right (ab_r 1) (0, 0) [.ref 31, .int x1, .int x2, .int (bI on)] (hf pd sh tr ru qu to al (hm mt mp (nI n, ny, nl, nt, nv, np, nf, nu, nh) mq mo mx z))
    (fun q => q = if (isR x1 n && wi x2 0 7) = true then (.inl (some (.int (bI (decide (nh (8 * x1.toNatClampNeg + x2.toNatClampNeg) = bI on))))), (hf pd sh tr ru qu to al (hm 0 mp (nI n, ny, nl, nt, nv, np, nf, nu, upd nh (8 * x1.toNatClampNeg + x2.toNatClampNeg) (bI (!on))) mq mo mx z))) else (.inl (some (.int 0)), (hf pd sh tr ru qu to al (hm 1 mp (nI n, ny, nl, nt, nv, np, nf, nu, nh) mq mo mx z)))) := by
  refine e_Mo_right hl (by decide) (fun X hl1 hR hX hC => ?_)
  have hl2 : (X.2.1).stackTraces = false := by rw [hl1]; exact hl
  have hgo : ∀ B : Bool, B = (isR x1 n && wi x2 0 7) → ab_W X M_Mo_right (24, [(0, .ref 31), (1, .int x1), (2, .int x2), (3, .int (bI on))], [.int (bI B), .ref 31], (hf pd sh tr ru qu to al (hm mt mp (nI n, ny, nl, nt, nv, np, nf, nu, nh) mq mo mx z)), 0, 0) := by
    intro B hB
    refine t_Mo_right_24_1 hX (q_Mo_right_26 hX (ab_conT hC) (k_Mo_goes (b := true) (c := true) hl2) (by rw [hR]; decide) (fun v h' e => ?_) (fun E h' e => by cases e))
    cases e
    rw [← hB] at hC
    cases B with
    | false =>
      rw [if_neg (by decide)] at hC
      exact t_Mo_right_29_1 hX rfl (r_Mo_right_33 hX hC (Or.inl rfl) (by decide) rfl)
    | true =>
      rw [if_pos rfl] at hC
      obtain ⟨k1, k2⟩ := ab_and hB.symm
      obtain ⟨k3, k4⟩ := ab_and k1
      obtain ⟨k5, k6⟩ := ab_and k2
      obtain ⟨r, hr, rfl⟩ := ab_ofI (of_decide_eq_true k3) (of_decide_eq_true k4) (by omega)
      obtain ⟨f, hf8, rfl⟩ : ∃ f : Nat, f < 8 ∧ x2 = nI f := by
        obtain ⟨f, h1, h2⟩ := nI_of (of_decide_eq_true k5)
        refine ⟨f, ?_, h2⟩
        rw [h2] at k6
        by_cases q : f < 8
        · exact q
        · exact absurd (nI_lt (a := 7) (by omega) h1) (of_decide_eq_true k6)
      have e8 : (8 : Int32) * nI r + nI f = nI (8 * r + f) := ab_lin2 8 _ _
      have hin : vp_in ((8 : Int32) * nI r + nI f) 256 := by rw [e8]; exact vp_in_nI (by omega) (by omega)
      have hcl : ((8 : Int32) * nI r + nI f).toNatClampNeg = 8 * r + f := by rw [e8, nI_clamp (by omega)]
      rw [nI_clamp (show r < 2 ^ 31 by omega), nI_clamp (show f < 2 ^ 31 by omega)] at hC
      have h54 : ∀ D : Bool, D = decide (nh (8 * r + f) = bI on) → ab_W X M_Mo_right (54, [(0, .ref 31), (1, .int (nI r)), (2, .int (nI f)), (3, .int (bI on))], [.int (bI D)], (hf pd sh tr ru qu to al (hm 0 mp (nI n, ny, nl, nt, nv, np, nf, nu, nh) mq mo mx z)), 0, 0) := by
        intro D hD
        rw [← hD] at hC
        cases on with
        | false =>
          refine t_Mo_right_54_1 hX rfl (t_Mo_right_75_1 hX hin (r_Mo_right_78 hX hC (bI_01 _) (by decide) ?_))
          rw [hcl]
          rfl
        | true =>
          refine t_Mo_right_54_2 hX (by decide) (t_Mo_right_75_1 hX hin (r_Mo_right_78 hX hC (bI_01 _) (by decide) ?_))
          rw [hcl]
          rfl
      by_cases h : nh (8 * r + f) = bI on
      · exact t_Mo_right_29_2 hX (by decide) hin (by rw [hcl]; exact h) (h54 true (by rw [decide_eq_true h]))
      · exact t_Mo_right_29_3 hX (by decide) hin (by rw [hcl]; exact h) (h54 false (by rw [decide_eq_false h]))
  have hno : (isR x1 n && wi x2 0 7) = false → ab_W X M_Mo_right (23, [(0, .ref 31), (1, .int x1), (2, .int x2), (3, .int (bI on))], [.ref 31], (hf pd sh tr ru qu to al (hm mt mp (nI n, ny, nl, nt, nv, np, nf, nu, nh) mq mo mx z)), 0, 0) := fun h => t_Mo_right_23_1 hX (hgo false h.symm)
  refine t_Mo_right_0_1 hX (q_Mo_right_3 hX (ab_conT hC) (k_Mo_isRecord hl2) (by rw [hR]; decide) (fun v h' e => ?_) (fun E h' e => by cases e))
  cases e
  cases h1 : isR x1 n with
  | false => exact t_Mo_right_6_2 hX rfl (hno (by rw [h1]; rfl))
  | true =>
    refine t_Mo_right_6_1 hX (by decide) (q_Mo_right_13 hX (ab_conT hC) (k_Mo_within hl2) (by rw [hR]; decide) (fun v h' e => ?_) (fun E h' e => by cases e))
    cases e
    cases h2 : wi x2 0 7 with
    | false => exact t_Mo_right_16_2 hX rfl (hno (by rw [h1, h2]; rfl))
    | true => exact t_Mo_right_16_1 hX (by decide) (hgo true (by rw [h1, h2]; rfl))
end M1
