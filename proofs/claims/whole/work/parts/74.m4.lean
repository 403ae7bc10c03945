/-! CONTRACTS OF THE REFERENCE: hit, score, counted, far, like, letter, count (a template: gen/tpl.py) -/
def smM (nt : Nat → Int32) (v w : Nat) (b : Bool) : Nat → Bool
  | 0 => b
  | j + 1 => smM nt v w b j && decide (nt (10 * v + j) = nt (10 * w + j))
theorem smM_f {nt : Nat → Int32} {v w : Nat} {b : Bool} {j : Nat} (h : smM nt v w b j = false) : ∀ k, smM nt v w b (j + k) = false
  | 0 => h
  | k + 1 => by
    show (smM nt v w b (j + k) && _) = false
    rw [smM_f h k, Bool.false_and]
theorem smM_t {nt : Nat → Int32} {v w : Nat} {b : Bool} : ∀ m, smM nt v w b m = true ↔ b = true ∧ ∀ j, j < m → nt (10 * v + j) = nt (10 * w + j)
  | 0 => ⟨fun h => ⟨h, fun j hj => absurd hj (Nat.not_lt_zero j)⟩, fun h => h.1⟩
  | m + 1 => by
    unfold smM
    rw [Bool.and_eq_true, smM_t m, decide_eq_true_eq]
    constructor
    · rintro ⟨⟨h1, h2⟩, h3⟩
      refine ⟨h1, fun j hj => ?_⟩
      by_cases e : j = m
      · rw [e]; exact h3
      · exact h2 j (by omega)
    · rintro ⟨h1, h2⟩
      exact ⟨⟨h1, fun j hj => h2 j (by omega)⟩, h2 m (by omega)⟩
def isS (nt : Nat → Int32) (ln : Nat → Nat) (v w : Nat) : Bool := smM nt v w (decide (ln v = ln w)) (ln v)
def sh1 (nt : Nat → Int32) (ln : Nat → Nat) (v b : Nat) : Nat → Nat
  | 0 => 0
  | j + 1 => sh1 nt ln v b j + (if isS nt ln v (12 * b + j) = true then 1 else 0)
def sh2 (nt : Nat → Int32) (ln : Nat → Nat) (a b cb : Nat) : Nat → Nat
  | 0 => 0
  | i + 1 => sh2 nt ln a b cb i + sh1 nt ln (12 * a + i) b cb
theorem sh1_le (nt : Nat → Int32) (ln : Nat → Nat) (v b : Nat) : ∀ j, sh1 nt ln v b j ≤ j
  | 0 => Nat.le_refl _
  | j + 1 => by
    have := sh1_le nt ln v b j
    unfold sh1
    split <;> omega
theorem sh2_le (nt : Nat → Int32) (ln : Nat → Nat) (a b : Nat) {cb : Nat} (h : cb ≤ 12) : ∀ i, sh2 nt ln a b cb i ≤ 12 * i
  | 0 => Nat.le_refl _
  | i + 1 => by
    have h1 := sh2_le nt ln a b h i
    have h2 := sh1_le nt ln (12 * a + i) b cb
    unfold sh2
    omega
def oI (o : Option Nat) : Int32 := match o with
  | none => -1
  | some x => nI x
def mi (o : Option Nat) (d : Nat) : Option Nat := match o with
  | none => some d
  | some x => some (min d x)
def fI (nt : Nat → Int32) (ln : Nat → Nat) (v b : Nat) (o : Option Nat) : Nat → Option Nat
  | 0 => o
  | j + 1 => mi (fI nt ln v b o j) (dM (fun i => nt (10 * v + i)) nt (ln v) (12 * b + j) (ln (12 * b + j)))
def fA (nt : Nat → Int32) (ln : Nat → Nat) (a b cb : Nat) : Nat → Option Nat
  | 0 => none
  | i + 1 => fI nt ln (12 * a + i) b (fA nt ln a b cb i) cb
def oB (o : Option Nat) : Prop := ∀ x, o = some x → x ≤ 10
theorem oB_mi {o : Option Nat} {d : Nat} (h : oB o) (hd : d ≤ 10) : oB (mi o d) := by
  intro x hx
  cases o with
  | none => cases hx; exact hd
  | some y => cases hx; omega
/-- in the order in which they are come upon -/
def en (F : Nat → Option Nat) (b : Nat) : Nat → List Nat
  | 0 => []
  | o + 1 => en F b o ++ (if F o = some b then [o] else [])
def enA (F : Nat → Option Nat) (n B : Nat) : Nat → List Nat
  | 0 => []
  | k + 1 => enA F n B k ++ en F (B - k) n
def ahS (nt : Nat → Int32) (ln : Nat → Nat) (v w : Nat) : Nat → Nat → Bool
  | 0, _ => decide (ln v < ln w)
  | k + 1, i => if i < ln v ∧ i < ln w then (if nt (10 * v + i) = nt (10 * w + i) then ahS nt ln v w k (i + 1) else decide (nt (10 * v + i) < nt (10 * w + i))) else decide (ln v < ln w)
def isA (nt : Nat → Int32) (ln : Nat → Nat) (v w : Nat) : Bool := ahS nt ln v w 10 0
def bfS (nt : Nat → Int32) (ln : Nat → Nat) (r w : Nat) : Nat → Nat
  | 0 => 0
  | j + 1 => bfS nt ln r w j + (if isA nt ln (12 * r + j) w = true then 1 else 0)
theorem bfS_le (nt : Nat → Int32) (ln : Nat → Nat) (r w : Nat) : ∀ j, bfS nt ln r w j ≤ j
  | 0 => Nat.le_refl _
  | j + 1 => by
    have := bfS_le nt ln r w j
    unfold bfS
    split <;> omega
def wdS (nt : Nat → Int32) (ln : Nat → Nat) (r c k : Nat) : Nat → Nat
  | 0 => 0
  | i + 1 => if bfS nt ln r (12 * r + i) c = k then 12 * r + i else wdS nt ln r c k i
theorem wdS_lt (nt : Nat → Int32) (ln : Nat → Nat) {r : Nat} (c k : Nat) (hr : r < 32) : ∀ i, i ≤ 12 → wdS nt ln r c k i < 384
  | 0, _ => by unfold wdS; omega
  | i + 1, h => by
    have := wdS_lt nt ln c k hr i (by omega)
    unfold wdS
    split <;> omega
def useW (cnt : Nat → Nat) (w : Nat) : Bool := decide (w % 12 < cnt (w / 12))
def fsS (nt : Nat → Int32) (ln cnt : Nat → Nat) (w : Nat) (b : Bool) : Nat → Bool
  | 0 => b
  | v + 1 => fsS nt ln cnt w b v && !(useW cnt v && isS nt ln v w)
theorem fsS_f {nt : Nat → Int32} {ln cnt : Nat → Nat} {w : Nat} {b : Bool} {j : Nat} (h : fsS nt ln cnt w b j = false) : ∀ k, fsS nt ln cnt w b (j + k) = false
  | 0 => h
  | k + 1 => by
    show (fsS nt ln cnt w b (j + k) && _) = false
    rw [fsS_f h k, Bool.false_and]
def dfS (nt : Nat → Int32) (ln cnt : Nat → Nat) : Nat → Nat
  | 0 => 0
  | w + 1 => dfS nt ln cnt w + (if fsS nt ln cnt w (useW cnt w) w = true then 1 else 0)
theorem dfS_le (nt : Nat → Int32) (ln cnt : Nat → Nat) : ∀ w, dfS nt ln cnt w ≤ w
  | 0 => Nat.le_refl _
  | w + 1 => by
    have := dfS_le nt ln cnt w
    unfold dfS
    split <;> omega
def lnOk (nl : Nat → Int32) (ln : Nat → Nat) (v : Nat) : Prop := v < 384 ∧ ln v ≤ 10 ∧ nl v = nI (ln v)
section M4
variable {l : Launch} {pd : gt_pd} {sh : gt_sh} {tr : gt_tr} {ru : gt_ru} {qu : gt_qu} {to : gt_to} {al : gt_al} {mt : gt_mt} {mp : gt_mp} {mr : gt_mr} {mq : gt_mq} {mo : gt_mo} {mx : gt_mx} {z : List ab_C} {ma ny nl nt nv np nf nu nh bk bf bs bd vr vs vp vo vx vn wt wo : Nat → Int32} {me mn nr br ba vt vh : Int32}
theorem k_Mo_hit (hl : l.stackTraces = false) {x1 x2 : Int32} {k : Nat} (hk : k ≤ 32) : ab_K l M_Mo_hit (ab_r 1) (0, 0) [.ref 31, .int x1, .int x2] (hf pd sh tr ru qu to al (hm mt mp mr mq (vt, nI k, vr, vs, vp, vo, vx, vn) mx z))
    (fun q => q = if (isR x1 k && wi x2 0 1) = true then (.inl (some (.int (if x2 = 0 then vr x1.toNatClampNeg else vs x1.toNatClampNeg))), (hf pd sh tr ru qu to al (hm 0 mp mr mq (vt, nI k, vr, vs, vp, vo, vx, vn) mx z))) else (.inl (some (.int 0)), (hf pd sh tr ru qu to al (hm 1 mp mr mq (vt, nI k, vr, vs, vp, vo, vx, vn) mx z)))) := by
  refine e_Mo_hit hl (by decide) (fun X hl1 hR hX hC => ?_)
  have hl2 : (X.2.1).stackTraces = false := by rw [hl1]; exact hl
  have hgo : ∀ B : Bool, B = (isR x1 k && wi x2 0 1) → ab_W X M_Mo_hit (27, [(0, .ref 31), (1, .int x1), (2, .int x2)], [.int (bI B), .ref 31], (hf pd sh tr ru qu to al (hm mt mp mr mq (vt, nI k, vr, vs, vp, vo, vx, vn) mx z)), 0, 0) := by
    intro B hB
    refine t_Mo_hit_27_1 hX (q_Mo_hit_29 hX (ab_conT hC) (k_Mo_goes (b := true) (c := true) hl2) (by rw [hR]; decide) (fun v h' e => ?_) (fun E h' e => by first | (cases e; done) | (split at e <;> cases e)))
    cases e
    rw [← hB] at hC
    cases B with
    | false =>
      rw [if_neg (by decide)] at hC
      exact t_Mo_hit_32_1 hX rfl (r_Mo_hit_36 hX hC (by decide) rfl)
    | true =>
      rw [if_pos rfl] at hC
      obtain ⟨k1, k2⟩ := ab_and hB.symm
      obtain ⟨k3, k4⟩ := ab_and k1
      obtain ⟨j, hj, rfl⟩ := ab_ofI (of_decide_eq_true k3) (of_decide_eq_true k4) (by omega)
      have hin : vp_in (nI j) 32 := vp_in_nI (by omega) (by omega)
      by_cases h : x2 = 0
      · rw [if_pos h] at hC
        exact t_Mo_hit_32_2 hX (by decide) h hin (r_Mo_hit_56 hX hC (by decide) rfl)
      · rw [if_neg h] at hC
        exact t_Mo_hit_32_3 hX (by decide) h hin (r_Mo_hit_56 hX hC (by decide) rfl)
  have hno : (isR x1 k && wi x2 0 1) = false → ab_W X M_Mo_hit (26, [(0, .ref 31), (1, .int x1), (2, .int x2)], [.ref 31], (hf pd sh tr ru qu to al (hm mt mp mr mq (vt, nI k, vr, vs, vp, vo, vx, vn) mx z)), 0, 0) := fun h => t_Mo_hit_26_1 hX (hgo false h.symm)
  unfold isR at hno hgo
  by_cases h1 : x1 < 0
  · exact t_Mo_hit_0_3 hX h1 (hno (by rw [decide_eq_false (fun q => q h1)]; rfl))
  · by_cases h2 : x1 < nI k
    · refine t_Mo_hit_0_1 hX h1 (i32_nle.mpr h2) (q_Mo_hit_16 hX (ab_conT hC) (k_Mo_within hl2) (by rw [hR]; decide) (fun v h' e => ?_) (fun E h' e => by first | (cases e; done) | (split at e <;> cases e)))
      cases e
      cases h3 : wi x2 0 1 with
      | false => exact t_Mo_hit_19_2 hX rfl (hno (by rw [h3, Bool.and_false]))
      | true => exact t_Mo_hit_19_1 hX (by decide) (hgo true (by rw [h3, decide_eq_true h1, decide_eq_true h2]; rfl))
    · exact t_Mo_hit_0_2 hX h1 (Decidable.byContradiction (fun q => h2 (i32_nle.mp q))) (hno (by rw [decide_eq_false h2, Bool.and_false, Bool.false_and]))
theorem k_Mo_score (hl : l.stackTraces = false) {x1 x2 : Int32} {k t : Nat} (hk : k ≤ 32) (ht : t ≤ 8) : ab_K l M_Mo_score (ab_r 1) (0, 0) [.ref 31, .int x1, .int x2] (hf pd sh tr ru qu to al (hm mt mp mr mq (nI t, nI k, vr, vs, vp, vo, vx, vn) mx z))
    (fun q => q = if (isR x1 k && isR x2 t) = true then (.inl (some (.int (vp (8 * x1.toNatClampNeg + x2.toNatClampNeg)))), (hf pd sh tr ru qu to al (hm 0 mp mr mq (nI t, nI k, vr, vs, vp, vo, vx, vn) mx z))) else (.inl (some (.int 0)), (hf pd sh tr ru qu to al (hm 1 mp mr mq (nI t, nI k, vr, vs, vp, vo, vx, vn) mx z)))) := by
  refine e_Mo_score hl (by decide) (fun X hl1 hR hX hC => ?_)
  have hl2 : (X.2.1).stackTraces = false := by rw [hl1]; exact hl
  have hgo : ∀ B : Bool, B = (isR x1 k && isR x2 t) → ab_W X M_Mo_score (30, [(0, .ref 31), (1, .int x1), (2, .int x2)], [.int (bI B), .ref 31], (hf pd sh tr ru qu to al (hm mt mp mr mq (nI t, nI k, vr, vs, vp, vo, vx, vn) mx z)), 0, 0) := by
    intro B hB
    refine t_Mo_score_30_1 hX (q_Mo_score_32 hX (ab_conT hC) (k_Mo_goes (b := true) (c := true) hl2) (by rw [hR]; decide) (fun v h' e => ?_) (fun E h' e => by first | (cases e; done) | (split at e <;> cases e)))
    cases e
    rw [← hB] at hC
    cases B with
    | false =>
      rw [if_neg (by decide)] at hC
      exact t_Mo_score_35_2 hX rfl (r_Mo_score_53 hX hC (by decide) rfl)
    | true =>
      rw [if_pos rfl] at hC
      obtain ⟨k1, k2⟩ := ab_and hB.symm
      obtain ⟨k3, k4⟩ := ab_and k1
      obtain ⟨k5, k6⟩ := ab_and k2
      obtain ⟨j, hj, rfl⟩ := ab_ofI (of_decide_eq_true k3) (of_decide_eq_true k4) (by omega)
      obtain ⟨b, hb, rfl⟩ := ab_ofI (of_decide_eq_true k5) (of_decide_eq_true k6) (by omega)
      have e8 : (8 : Int32) * nI j + nI b = nI (8 * j + b) := ab_lin2 8 j b
      refine t_Mo_score_35_1 hX (by decide) (by rw [e8]; exact vp_in_nI (by omega) (by omega)) (r_Mo_score_53 hX hC (by decide) ?_)
      rw [e8, nI_clamp (by omega), nI_clamp (by omega), nI_clamp (by omega)]
      rfl
  have hno : (isR x1 k && isR x2 t) = false → ab_W X M_Mo_score (29, [(0, .ref 31), (1, .int x1), (2, .int x2)], [.ref 31], (hf pd sh tr ru qu to al (hm mt mp mr mq (nI t, nI k, vr, vs, vp, vo, vx, vn) mx z)), 0, 0) := fun h => t_Mo_score_29_1 hX (hgo false h.symm)
  unfold isR at hno hgo
  by_cases h1 : x1 < 0
  · exact t_Mo_score_0_5 hX h1 (hno (by rw [decide_eq_false (fun q => q h1)]; rfl))
  · by_cases h2 : x1 < nI k
    · by_cases h3 : x2 < 0
      · exact t_Mo_score_0_3 hX h1 (i32_nle.mpr h2) h3 (hno (by rw [decide_eq_false (p := ¬ x2 < 0) (fun q => q h3), Bool.false_and, Bool.and_false]))
      · by_cases h4 : x2 < nI t
        · exact t_Mo_score_0_1 hX h1 (i32_nle.mpr h2) h3 (i32_nle.mpr h4) (hgo true (by rw [decide_eq_true h1, decide_eq_true h2, decide_eq_true h3, decide_eq_true h4]; rfl))
        · exact t_Mo_score_0_2 hX h1 (i32_nle.mpr h2) h3 (Decidable.byContradiction (fun q => h4 (i32_nle.mp q))) (hno (by rw [decide_eq_false h4, Bool.and_false, Bool.and_false]))
    · exact t_Mo_score_0_4 hX h1 (Decidable.byContradiction (fun q => h2 (i32_nle.mp q))) (hno (by rw [decide_eq_false h2, Bool.and_false, Bool.false_and]))
theorem k_Mo_counted (hl : l.stackTraces = false) {x1 x2 : Int32} : ab_K l M_Mo_counted (ab_r 1) (0, 0) [.ref 31, .int x1, .int x2] (hf pd sh tr ru qu to al (hm mt mp mr mq (vt, vh, vr, vs, vp, vo, vx, vn) mx z))
    (fun q => q = if (wi x1 0 3 && wi x2 0 15) = true then (.inl (some (.int (vn (x1.toNatClampNeg * 16 + x2.toNatClampNeg)))), (hf pd sh tr ru qu to al (hm 0 mp mr mq (vt, vh, vr, vs, vp, vo, vx, vn) mx z))) else (.inl (some (.int 0)), (hf pd sh tr ru qu to al (hm 1 mp mr mq (vt, vh, vr, vs, vp, vo, vx, vn) mx z)))) := by
  refine e_Mo_counted hl (by decide) (fun X hl1 hR hX hC => ?_)
  have hl2 : (X.2.1).stackTraces = false := by rw [hl1]; exact hl
  have hgo : ∀ B : Bool, B = (wi x1 0 3 && wi x2 0 15) → ab_W X M_Mo_counted (25, [(0, .ref 31), (1, .int x1), (2, .int x2)], [.int (bI B), .ref 31], (hf pd sh tr ru qu to al (hm mt mp mr mq (vt, vh, vr, vs, vp, vo, vx, vn) mx z)), 0, 0) := by
    intro B hB
    refine t_Mo_counted_25_1 hX (q_Mo_counted_27 hX (ab_conT hC) (k_Mo_goes (b := true) (c := true) hl2) (by rw [hR]; decide) (fun v h' e => ?_) (fun E h' e => by first | (cases e; done) | (split at e <;> cases e)))
    cases e
    rw [← hB] at hC
    cases B with
    | false =>
      rw [if_neg (by decide)] at hC
      exact t_Mo_counted_30_2 hX rfl (r_Mo_counted_48 hX hC (by decide) rfl)
    | true =>
      rw [if_pos rfl] at hC
      obtain ⟨k1, k2⟩ := ab_and hB.symm
      obtain ⟨f, hf4, rfl⟩ : ∃ f : Nat, f < 4 ∧ x1 = nI f := by
        obtain ⟨k5, k6⟩ := ab_and k1
        obtain ⟨f, h1, h2⟩ := nI_of (of_decide_eq_true k5)
        refine ⟨f, ?_, h2⟩
        rw [h2] at k6
        by_cases q : f < 4
        · exact q
        · exact absurd (nI_lt (a := 3) (by omega) h1) (of_decide_eq_true k6)
      obtain ⟨b, hb16, rfl⟩ : ∃ b : Nat, b < 16 ∧ x2 = nI b := by
        obtain ⟨k5, k6⟩ := ab_and k2
        obtain ⟨f, h1, h2⟩ := nI_of (of_decide_eq_true k5)
        refine ⟨f, ?_, h2⟩
        rw [h2] at k6
        by_cases q : f < 16
        · exact q
        · exact absurd (nI_lt (a := 15) (by omega) h1) (of_decide_eq_true k6)
      have e16 : (16 : Int32) * nI f + nI b = nI (16 * f + b) := ab_lin2 16 f b
      refine t_Mo_counted_30_1 hX (by decide) (by rw [e16]; exact vp_in_nI (by omega) (by omega)) (r_Mo_counted_48 hX hC (by decide) ?_)
      rw [e16, nI_clamp (by omega), nI_clamp (by omega), nI_clamp (by omega), Nat.mul_comm 16 f]
      rfl
  have hno : (wi x1 0 3 && wi x2 0 15) = false → ab_W X M_Mo_counted (24, [(0, .ref 31), (1, .int x1), (2, .int x2)], [.ref 31], (hf pd sh tr ru qu to al (hm mt mp mr mq (vt, vh, vr, vs, vp, vo, vx, vn) mx z)), 0, 0) := fun h => t_Mo_counted_24_1 hX (hgo false h.symm)
  refine t_Mo_counted_0_1 hX (q_Mo_counted_4 hX (ab_conT hC) (k_Mo_within hl2) (by rw [hR]; decide) (fun v h' e => ?_) (fun E h' e => by first | (cases e; done) | (split at e <;> cases e)))
  cases e
  cases h1 : wi x1 0 3 with
  | false => exact t_Mo_counted_7_2 hX rfl (hno (by rw [h1]; rfl))
  | true =>
    refine t_Mo_counted_7_1 hX (by decide) (q_Mo_counted_14 hX (ab_conT hC) (k_Mo_within hl2) (by rw [hR]; decide) (fun v h' e => ?_) (fun E h' e => by first | (cases e; done) | (split at e <;> cases e)))
    cases e
    cases h2 : wi x2 0 15 with
    | false => exact t_Mo_counted_17_2 hX rfl (hno (by rw [h1, h2]; rfl))
    | true => exact t_Mo_counted_17_1 hX (by decide) (hgo true (by rw [h1, h2]; rfl))
theorem k_Mo_isSame (hl : l.stackTraces = false) {v w : Nat} {ln : Nat → Nat} (hv : lnOk nl ln v) (hw : lnOk nl ln w) : ab_K l M_Mo_isSame (ab_r 0) (0, 0) [.ref 31, .int (nI v), .int (nI w)] (hf pd sh tr ru qu to al (hm mt mp (nr, ny, nl, nt, nv, np, nf, nu, nh) mq mo mx z)) (fun q => q = (.inl (some (.int (bI (isS nt ln v w)))), (hf pd sh tr ru qu to al (hm mt mp (nr, ny, nl, nt, nv, np, nf, nu, nh) mq mo mx z)))) := by
  refine e_Mo_isSame hl (by decide) (fun X hl1 hR hX hC => ?_)
  obtain ⟨v1, v2, v3⟩ := hv
  obtain ⟨w1, w2, w3⟩ := hw
  have hinv : vp_in (nI v) 384 := vp_in_nI v1 (by omega)
  have hinw : vp_in (nI w) 384 := vp_in_nI w1 (by omega)
  have hclv : (nI v).toNatClampNeg = v := nI_clamp (by omega)
  have hclw : (nI w).toNatClampNeg = w := nI_clamp (by omega)
  obtain ⟨b, hb⟩ : ∃ b, b = decide (ln v = ln w) := ⟨_, rfl⟩
  unfold isS at hC
  rw [← hb] at hC
  have hloop : ∀ k j : Nat, j + k = ln v → ab_W X M_Mo_isSame (24, [(0, .ref 31), (1, .int (nI v)), (2, .int (nI w)), (3, .int (bI (smM nt v w b j))), (4, .int (nI j))], [], (hf pd sh tr ru qu to al (hm mt mp (nr, ny, nl, nt, nv, np, nf, nu, nh) mq mo mx z)), 0, 0) := by
    intro k
    induction k with
    | zero =>
      intro j hj
      have e : j = ln v := by omega
      subst e
      exact t_Mo_isSame_24_4 hX hinv (by rw [hclv, v3]; exact nI_le (Nat.le_refl _) (by omega)) (t_Mo_isSame_78_1 hX (r_Mo_isSame_79 hX hC (bI_01 _) (by decide) rfl))
    | succ k ih =>
      intro j hj
      have h8 := ih (j + 1) (by omega)
      have hlt : ¬ nl (nI v).toNatClampNeg ≤ nI j := by rw [hclv, v3]; exact nI_ge (by omega) (by omega)
      cases hs : smM nt v w b j with
      | false =>
        have h7 := smM_f hs (ln v - j)
        rw [show j + (ln v - j) = ln v by omega] at h7
        rw [h7] at hC
        exact t_Mo_isSame_24_3 hX hinv hlt rfl (t_Mo_isSame_78_1 hX (r_Mo_isSame_79 hX hC (Or.inl rfl) (by decide) rfl))
      | true =>
        have e1 : (10 : Int32) * nI v + nI j = nI (10 * v + j) := ab_lin2 10 v j
        have e2 : (10 : Int32) * nI w + nI j = nI (10 * w + j) := ab_lin2 10 w j
        have i1 : vp_in ((10 : Int32) * nI v + nI j) 3840 := by rw [e1]; exact vp_in_nI (by omega) (by omega)
        have i2 : vp_in ((10 : Int32) * nI w + nI j) 3840 := by rw [e2]; exact vp_in_nI (by omega) (by omega)
        have c1 : ((10 : Int32) * nI v + nI j).toNatClampNeg = 10 * v + j := by rw [e1]; exact nI_clamp (by omega)
        have c2 : ((10 : Int32) * nI w + nI j).toNatClampNeg = 10 * w + j := by rw [e2]; exact nI_clamp (by omega)
        by_cases hq : nt (10 * v + j) = nt (10 * w + j)
        · refine t_Mo_isSame_24_1 hX hinv hlt (by decide) i1 i2 (by rw [c1, c2]; exact hq) (t_Mo_isSame_71_1 hX ?_)
          rw [smM, hs, decide_eq_true hq] at h8
          rw [nI_1]
          exact h8
        · refine t_Mo_isSame_24_2 hX hinv hlt (by decide) i1 i2 (by rw [c1, c2]; exact hq) (t_Mo_isSame_71_1 hX ?_)
          rw [smM, hs, decide_eq_false hq] at h8
          rw [nI_1]
          exact h8
  have h0 := hloop (ln v) 0 (by omega)
  by_cases h : ln v = ln w
  · rw [decide_eq_true h] at hb
    subst hb
    exact t_Mo_isSame_0_1 hX hinv hinw (by rw [hclv, hclw, v3, w3, h]) (t_Mo_isSame_20_1 hX h0)
  · rw [decide_eq_false h] at hb
    subst hb
    exact t_Mo_isSame_0_2 hX hinv hinw (by rw [hclv, hclw, v3, w3]; exact fun q => h ((nI_eq (by omega) (by omega)).mp q)) (t_Mo_isSame_20_1 hX h0)
set_option maxHeartbeats 1000000 in
theorem k_Mo_shared (hl : l.stackTraces = false) {a b n : Nat} {ln cnt : Nat → Nat} (hn : n ≤ 32) (ha : a < n) (hb : b < n) (hc : ∀ r, r < n → cnt r ≤ 12 ∧ ny r = nI (cnt r)) (hln : ∀ r, r < n → ∀ i, i < cnt r → lnOk nl ln (12 * r + i)) : ab_K l M_Mo_shared (ab_r 1) (0, 0) [.ref 31, .int (nI a), .int (nI b)] (hf pd sh tr ru qu to al (hm mt mp (nr, ny, nl, nt, nv, np, nf, nu, nh) mq mo mx z)) (fun q => q = (.inl (some (.int (nI (sh2 nt ln a b (cnt b) (cnt a) + ffS nv a b 4)))), (hf pd sh tr ru qu to al (hm mt mp (nr, ny, nl, nt, nv, np, nf, nu, nh) mq mo mx z)))) := by
  refine e_Mo_shared hl (by decide) (fun X hl1 hR hX hC => ?_)
  have hl2 : (X.2.1).stackTraces = false := by rw [hl1]; exact hl
  obtain ⟨a1, a2⟩ := hc a ha
  obtain ⟨b1, b2⟩ := hc b hb
  have hina : vp_in (nI a) 32 := vp_in_nI (by omega) (by omega)
  have hinb : vp_in (nI b) 32 := vp_in_nI (by omega) (by omega)
  have hcla : (nI a).toNatClampNeg = a := nI_clamp (by omega)
  have hclb : (nI b).toNatClampNeg = b := nI_clamp (by omega)
  have ea : (12 : Int32) * nI a = nI (12 * a) := ab_mul2 12 a
  have eb : (12 : Int32) * nI b = nI (12 * b) := ab_mul2 12 b
  refine t_Mo_shared_0_1 hX ?_
  rw [ea]
  have hloop3 : ∀ k f x : Nat, f + k = 4 → x = sh2 nt ln a b (cnt b) (cnt a) + ffS nv a b f → ab_W X M_Mo_shared (80, [(0, .ref 31), (1, .int (nI a)), (2, .int (nI b)), (3, .int (nI x)), (4, .int (nI f))], [], (hf pd sh tr ru qu to al (hm mt mp (nr, ny, nl, nt, nv, np, nf, nu, nh) mq mo mx z)), 0, 0) := by
    intro k
    induction k with
    | zero =>
      intro f x hf4 hx
      have e : f = 4 := by omega
      subst e
      subst hx
      exact t_Mo_shared_80_4 hX (nI_le (a := 4) (by omega) (by omega)) (r_Mo_shared_141 hX hC (by decide) rfl)
    | succ k ih =>
      intro f x hf4 hx
      have e1 : (4 : Int32) * nI a + nI f = nI (4 * a + f) := ab_lin2 4 a f
      have e2 : (4 : Int32) * nI b + nI f = nI (4 * b + f) := ab_lin2 4 b f
      have i1 : vp_in ((4 : Int32) * nI a + nI f) 128 := by rw [e1]; exact vp_in_nI (by omega) (by omega)
      have i2 : vp_in ((4 : Int32) * nI b + nI f) 128 := by rw [e2]; exact vp_in_nI (by omega) (by omega)
      have c1 : ((4 : Int32) * nI a + nI f).toNatClampNeg = a * 4 + f := by rw [e1, nI_clamp (by omega)]; omega
      have c2 : ((4 : Int32) * nI b + nI f).toNatClampNeg = b * 4 + f := by rw [e2, nI_clamp (by omega)]; omega
      have hlt : ¬ (4 : Int32) ≤ nI f := nI_ge (b := 4) (by omega) (by omega)
      have hgo : ∀ y : Nat, y = sh2 nt ln a b (cnt b) (cnt a) + ffS nv a b (f + 1) → ab_W X M_Mo_shared (133, [(0, .ref 31), (1, .int (nI a)), (2, .int (nI b)), (4, .int (nI f))], [.int (nI y)], (hf pd sh tr ru qu to al (hm mt mp (nr, ny, nl, nt, nv, np, nf, nu, nh) mq mo mx z)), 0, 0) := by
        intro y hy
        refine t_Mo_shared_133_1 hX ?_
        rw [nI_1]
        exact ih (f + 1) y (by omega) hy
      by_cases h1 : nv (a * 4 + f) = -1
      · exact t_Mo_shared_80_3 hX hlt i1 (by rw [c1]; exact h1) (t_Mo_shared_132_1 hX (hgo x (by rw [hx, ffS, if_neg (fun q => q.1 h1)]; rfl)))
      · by_cases h2 : nv (a * 4 + f) = nv (b * 4 + f)
        · refine t_Mo_shared_80_1 hX hlt i1 (by rw [c1]; exact h1) i1 i2 (by rw [c1, c2]; exact h2) ?_
          rw [nI_1]
          exact hgo (x + 1) (by rw [hx, ffS, if_pos ⟨h1, h2⟩]; rfl)
        · exact t_Mo_shared_80_2 hX hlt i1 (by rw [c1]; exact h1) i1 i2 (by rw [c1, c2]; exact h2) (t_Mo_shared_132_1 hX (hgo x (by rw [hx, ffS, if_neg (fun q => h2 q.2)]; rfl)))
  have hloop : ∀ k i x : Nat, i + k = cnt a → x = sh2 nt ln a b (cnt b) i → ab_W X M_Mo_shared (8, [(0, .ref 31), (1, .int (nI a)), (2, .int (nI b)), (3, .int (nI x)), (4, .int (nI (12 * a + i)))], [], (hf pd sh tr ru qu to al (hm mt mp (nr, ny, nl, nt, nv, np, nf, nu, nh) mq mo mx z)), 0, 0) := by
    intro k
    induction k with
    | zero =>
      intro i x hi hx
      have e : i = cnt a := by omega
      subst e
      exact t_Mo_shared_8_2 hX hina (by rw [hcla, a2, ea, nI_add]; exact nI_le (Nat.le_refl _) (by omega)) (hloop3 4 0 x rfl hx)
    | succ k ih =>
      intro i x hi hx
      have hlt : ¬ (12 : Int32) * nI a + ny (nI a).toNatClampNeg ≤ nI (12 * a + i) := by rw [hcla, a2, ea, nI_add]; exact nI_ge (by omega) (by omega)
      refine t_Mo_shared_8_1 hX hina hlt ?_
      rw [eb]
      have hinner : ∀ k2 j y : Nat, j + k2 = cnt b → y = x + sh1 nt ln (12 * a + i) b j → ab_W X M_Mo_shared (30, [(0, .ref 31), (1, .int (nI a)), (2, .int (nI b)), (3, .int (nI y)), (4, .int (nI (12 * a + i))), (5, .int (nI (12 * b + j)))], [], (hf pd sh tr ru qu to al (hm mt mp (nr, ny, nl, nt, nv, np, nf, nu, nh) mq mo mx z)), 0, 0) := by
        intro k2
        induction k2 with
        | zero =>
          intro j y hj hy
          have e : j = cnt b := by omega
          subst e
          refine t_Mo_shared_30_2 hX hinb (by rw [hclb, b2, eb, nI_add]; exact nI_le (Nat.le_refl _) (by omega)) ?_
          rw [nI_1]
          exact ih (i + 1) y (by omega) (by rw [hy, hx]; rfl)
        | succ k2 ih2 =>
          intro j y hj hy
          have hltb : ¬ (12 : Int32) * nI b + ny (nI b).toNatClampNeg ≤ nI (12 * b + j) := by rw [hclb, b2, eb, nI_add]; exact nI_ge (by omega) (by omega)
          refine t_Mo_shared_30_1 hX hinb hltb (q_Mo_shared_51 hX (ab_conT hC) (k_Mo_isSame hl2 (hln a ha i (by omega)) (hln b hb j (by omega))) (by rw [hR]; decide) (fun v h' e => ?_) (fun E h' e => by first | (cases e; done) | (split at e <;> cases e)))
          cases e
          cases hs : isS nt ln (12 * a + i) (12 * b + j) with
          | true =>
            refine t_Mo_shared_54_1 hX (by decide) (t_Mo_shared_64_1 hX ?_)
            rw [nI_1, nI_1]
            exact ih2 (j + 1) (y + 1) (by omega) (by rw [hy, sh1, if_pos hs]; rfl)
          | false =>
            refine t_Mo_shared_54_2 hX rfl (t_Mo_shared_64_1 hX ?_)
            rw [nI_1]
            exact ih2 (j + 1) y (by omega) (by rw [hy, sh1, if_neg (by rw [hs]; decide)]; rfl)
      exact hinner (cnt b) 0 x (by omega) rfl
  exact hloop (cnt a) 0 0 (by omega) rfl
set_option maxHeartbeats 1000000 in
theorem k_Mo_far (hl : l.stackTraces = false) {x1 x2 : Int32} {n : Nat} {ln cnt : Nat → Nat} (hn : n ≤ 32) (hc : ∀ r, r < n → cnt r ≤ 12 ∧ ny r = nI (cnt r)) (hln : ∀ r, r < n → ∀ i, i < cnt r → lnOk nl ln (12 * r + i)) : ab_K l M_Mo_far (ab_r 2) (0, 0) [.ref 31, .int x1, .int x2] (hf pd sh tr ru qu to al (hm mt mp (nI n, ny, nl, nt, nv, np, nf, nu, nh) mq mo mx z))
    (fun q => ∃ mx' : gt_mx, q = (.inl (some (.int (if (isR x1 n && isR x2 n) = true then oI (fA nt ln x1.toNatClampNeg x2.toNatClampNeg (cnt x2.toNatClampNeg) (cnt x1.toNatClampNeg)) else 0))), (hf pd sh tr ru qu to al (hm (if (isR x1 n && isR x2 n) = true then 0 else 1) mp (nI n, ny, nl, nt, nv, np, nf, nu, nh) mq mo mx' z)))) := by
  obtain ⟨br, bk, bf, bs, bd, ba⟩ := mq
  refine e_Mo_far hl (by decide) (fun X hl1 hR hX hC => ?_)
  have hl2 : (X.2.1).stackTraces = false := by rw [hl1]; exact hl
  have hgo : ∀ B : Bool, B = (isR x1 n && isR x2 n) → ab_W X M_Mo_far (22, [(0, .ref 31), (1, .int x1), (2, .int x2)], [.int (bI B), .ref 31], (hf pd sh tr ru qu to al (hm mt mp (nI n, ny, nl, nt, nv, np, nf, nu, nh) (br, bk, bf, bs, bd, ba) mo mx z)), 0, 0) := by
    intro B hB
    refine t_Mo_far_22_1 hX (q_Mo_far_24 hX (ab_conT hC) (k_Mo_goes (b := true) (c := true) hl2) (by rw [hR]; decide) (fun v h' e => ?_) (fun E h' e => by first | (cases e; done) | (split at e <;> cases e)))
    cases e
    rw [← hB] at hC
    cases B with
    | false =>
      rw [if_neg (by decide), if_neg (by decide)] at hC
      exact t_Mo_far_27_1 hX rfl (r_Mo_far_31 hX hC (by decide) ⟨mx, rfl⟩)
    | true =>
      rw [if_pos rfl, if_pos rfl] at hC
      obtain ⟨k1, k2⟩ := ab_and hB.symm
      obtain ⟨k3, k4⟩ := ab_and k1
      obtain ⟨k5, k6⟩ := ab_and k2
      obtain ⟨a, ha, rfl⟩ := ab_ofI (of_decide_eq_true k3) (of_decide_eq_true k4) (by omega)
      obtain ⟨b, hb, rfl⟩ := ab_ofI (of_decide_eq_true k5) (of_decide_eq_true k6) (by omega)
      obtain ⟨a1, a2⟩ := hc a ha
      obtain ⟨b1, b2⟩ := hc b hb
      have hina : vp_in (nI a) 32 := vp_in_nI (by omega) (by omega)
      have hinb : vp_in (nI b) 32 := vp_in_nI (by omega) (by omega)
      have hcla : (nI a).toNatClampNeg = a := nI_clamp (by omega)
      have hclb : (nI b).toNatClampNeg = b := nI_clamp (by omega)
      have ea : (12 : Int32) * nI a = nI (12 * a) := ab_mul2 12 a
      have eb : (12 : Int32) * nI b = nI (12 * b) := ab_mul2 12 b
      rw [hcla, hclb] at hC
      refine t_Mo_far_27_2 hX (by decide) ?_
      rw [ea]
      have hloop : ∀ (k i : Nat) (o : Option Nat) (mx9 : gt_mx), i + k = cnt a → oB o → o = fA nt ln a b (cnt b) i → ab_W X M_Mo_far (40, [(0, .ref 31), (1, .int (nI a)), (2, .int (nI b)), (3, .int (oI o)), (4, .int (nI (12 * a + i)))], [], (hf pd sh tr ru qu to al (hm 0 mp (nI n, ny, nl, nt, nv, np, nf, nu, nh) (br, bk, bf, bs, bd, ba) mo mx9 z)), 0, 0) := by
        intro k
        induction k with
        | zero =>
          intro i o mx9 hi hoB ho
          have e : i = cnt a := by omega
          subst e
          subst ho
          exact t_Mo_far_40_2 hX hina (by rw [hcla, a2, ea, nI_add]; exact nI_le (Nat.le_refl _) (by omega)) (r_Mo_far_128 hX hC (by decide) ⟨mx9, rfl⟩)
        | succ k ih =>
          intro i o mx9 hi hoB ho
          have hlt : ¬ (12 : Int32) * nI a + ny (nI a).toNatClampNeg ≤ nI (12 * a + i) := by rw [hcla, a2, ea, nI_add]; exact nI_ge (by omega) (by omega)
          refine t_Mo_far_40_1 hX hina hlt ?_
          rw [eb]
          obtain ⟨v1, v2, v3⟩ := hln a ha i (by omega)
          have hinner : ∀ (k2 j : Nat) (p : Option Nat) (mx8 : gt_mx), j + k2 = cnt b → oB p → p = fI nt ln (12 * a + i) b o j → ab_W X M_Mo_far (62, [(0, .ref 31), (1, .int (nI a)), (2, .int (nI b)), (3, .int (oI p)), (4, .int (nI (12 * a + i))), (5, .int (nI (12 * b + j)))], [], (hf pd sh tr ru qu to al (hm 0 mp (nI n, ny, nl, nt, nv, np, nf, nu, nh) (br, bk, bf, bs, bd, ba) mo mx8 z)), 0, 0) := by
            intro k2
            induction k2 with
            | zero =>
              intro j p mx8 hj hpB hp
              have e : j = cnt b := by omega
              subst e
              refine t_Mo_far_62_2 hX hinb (by rw [hclb, b2, eb, nI_add]; exact nI_le (Nat.le_refl _) (by omega)) ?_
              rw [nI_1]
              exact ih (i + 1) p mx8 (by omega) hpB (by rw [hp, ho]; rfl)
            | succ k2 ih2 =>
              intro j p mx8 hj hpB hp
              have hltb : ¬ (12 : Int32) * nI b + ny (nI b).toNatClampNeg ≤ nI (12 * b + j) := by rw [hclb, b2, eb, nI_add]; exact nI_ge (by omega) (by omega)
              obtain ⟨w1, w2, w3⟩ := hln b hb j (by omega)
              have hd := dM_le (fun i' => nt (10 * (12 * a + i) + i')) nt (n := ln (12 * a + i)) (w := 12 * b + j) (lw := ln (12 * b + j)) v2 w2
              refine t_Mo_far_62_1 hX hinb hltb (vp_in_nI v1 (by omega)) ?_
              rw [nI_clamp (show 12 * a + i < 2 ^ 31 by omega), v3]
              refine q_Mo_far_92 hX (ab_conT hC) (k_Mo_distance (A := fun i' => nt (10 * (12 * a + i) + i')) hl2 (Or.inr ⟨12 * a + i, v1, rfl, fun _ _ => rfl⟩) w1 v2 w2 w3) (by rw [hR]; decide) (fun v h' e => ?_) (fun E h' e => by obtain ⟨g, e⟩ := e; cases e)
              obtain ⟨g, e⟩ := e
              cases e
              have hp2 : fI nt ln (12 * a + i) b o (j + 1) = mi p (dM (fun i' => nt (10 * (12 * a + i) + i')) nt (ln (12 * a + i)) (12 * b + j) (ln (12 * b + j))) := by rw [hp]; rfl
              generalize dM (fun i' => nt (10 * (12 * a + i) + i')) nt (ln (12 * a + i)) (12 * b + j) (ln (12 * b + j)) = d at hd hp2 ⊢
              have hfin : ∀ y : Nat, mi p d = some y → ab_W X M_Mo_far (114, [(0, .ref 31), (1, .int (nI a)), (2, .int (nI b)), (4, .int (nI (12 * a + i))), (5, .int (nI (12 * b + j)))], [.int (nI y)], (hf pd sh tr ru qu to al (hm 0 mp (nI n, ny, nl, nt, nv, np, nf, nu, nh) (br, bk, bf, bs, bd, ba) mo g z)), 0, 0) := by
                intro y hy
                refine t_Mo_far_114_1 hX ?_
                rw [nI_1]
                exact ih2 (j + 1) (some y) g (by omega) (by rw [← hy]; exact oB_mi hpB hd) (by rw [hp2, hy])
              cases p with
              | none => exact t_Mo_far_95_3 hX rfl (t_Mo_far_108_1 hX (hfin d rfl))
              | some x =>
                have hx := hpB x rfl
                have hxn : ¬ nI x = -1 := fun q => by have h7 := m1_lt (n := x) (by omega); rw [q] at h7; revert h7; decide
                by_cases hle : x ≤ d
                · exact t_Mo_far_95_2 hX hxn (nI_le hle (by omega)) (hfin x (by show some (min d x) = some x; rw [Nat.min_eq_right hle]))
                · exact t_Mo_far_95_1 hX hxn (nI_ge (by omega) (by omega)) (t_Mo_far_108_1 hX (hfin d (by show some (min d x) = some d; rw [Nat.min_eq_left (by omega)])))
          exact hinner (cnt b) 0 o mx9 (by omega) hoB rfl
      exact hloop (cnt a) 0 none mx (by omega) (fun x hx => by cases hx) rfl
  have hno : (isR x1 n && isR x2 n) = false → ab_W X M_Mo_far (21, [(0, .ref 31), (1, .int x1), (2, .int x2)], [.ref 31], (hf pd sh tr ru qu to al (hm mt mp (nI n, ny, nl, nt, nv, np, nf, nu, nh) (br, bk, bf, bs, bd, ba) mo mx z)), 0, 0) := fun h => t_Mo_far_21_1 hX (hgo false h.symm)
  refine t_Mo_far_0_1 hX (q_Mo_far_3 hX (ab_conT hC) (k_Mo_isRecord hl2) (by rw [hR]; decide) (fun v h' e => ?_) (fun E h' e => by first | (cases e; done) | (split at e <;> cases e)))
  cases e
  cases h1 : isR x1 n with
  | false => exact t_Mo_far_6_2 hX rfl (hno (by rw [h1]; rfl))
  | true =>
    refine t_Mo_far_6_1 hX (by decide) (q_Mo_far_11 hX (ab_conT hC) (k_Mo_isRecord hl2) (by rw [hR]; decide) (fun v h' e => ?_) (fun E h' e => by first | (cases e; done) | (split at e <;> cases e)))
    cases e
    cases h2 : isR x2 n with
    | false => exact t_Mo_far_14_2 hX rfl (hno (by rw [h1, h2]; rfl))
    | true => exact t_Mo_far_14_1 hX (by decide) (hgo true (by rw [h1, h2]; rfl))
end M4
