/-! CONTRACTS OF THE REFERENCE: small ones, feed, record (a template: gen/tpl.py) -/
def wi (x lo hi : Int32) : Bool := decide (¬ x < lo) && decide (¬ hi < x)
def isR (x : Int32) (n : Nat) : Bool := decide (¬ x < 0) && decide (x < nI n)
def gV (a b c : Bool) : Int32 := if a = true then (if b = true then (if c = true then 0 else 3) else 2) else 1
theorem bI_0 {b : Bool} : bI b = 0 ↔ b = false := by cases b <;> decide
theorem bI_n0 {b : Bool} : ¬ bI b = 0 ↔ b = true := by cases b <;> decide
theorem bI_inj {a b : Bool} : bI a = bI b ↔ a = b := by cases a <;> cases b <;> decide
theorem wi_nI {x : Nat} {lo hi : Nat} (hx : x < 2 ^ 31) (h1 : lo < 2 ^ 31) (h2 : hi < 2 ^ 31) : wi (nI x) (nI lo) (nI hi) = decide (lo ≤ x ∧ x ≤ hi) := by
  unfold wi
  rw [Bool.eq_iff_iff, Bool.and_eq_true, decide_eq_true_eq, decide_eq_true_eq, decide_eq_true_eq, nI_ltI hx h1, nI_ltI h2 hx]
  omega
def byU (x : Int32) (k : Int32) : Int32 := (UInt32.toInt32 (Int32.toUInt32 x >>> (Int32.toUInt32 (8 * k) &&& Int32.toUInt32 31))) &&& 255
theorem byA {N M : Nat} {P : Nat} (hP : P = 1 ∨ P = 256 ∨ P = 65536 ∨ P = 16777216) (hN : N < 4294967296) (hM : M < 4294967296) (e : (if 2 * M < 4294967296 then (M : Int) else (M : Int) - 4294967296) = (if 2 * N < 4294967296 then (N : Int) else (N : Int) - 4294967296) / (P : Int)) : N / P % 256 = M % 256 := by
  rcases hP with rfl | rfl | rfl | rfl <;> split at e <;> split at e <;> omega
theorem byK (x s1 s2 : Int32) (k P : Nat) (hk : 2 ^ k = P) (hP : P = 1 ∨ P = 256 ∨ P = 65536 ∨ P = 16777216) (h1 : ((s1.toUInt32 &&& Int32.toUInt32 31).toBitVec % 32).toNat = k) (h2 : (s2.toBitVec.smod 32).toNat = k) : (UInt32.toInt32 (Int32.toUInt32 x >>> (Int32.toUInt32 s1 &&& Int32.toUInt32 31))) &&& 255 = (x >>> s2) &&& 255 := by
  rw [pk_and _ 8 (by decide), pk_and _ 8 (by decide)]
  congr 1
  have e1 := pk_ushr x s1 k h1
  have e2 := pk_shr x s2 k h2
  rw [e1, hk]
  have e3 : (x >>> s2).toInt = (x >>> s2).toBitVec.toInt := rfl
  have e4 : x.toInt = x.toBitVec.toInt := rfl
  rw [e3, e4, BitVec.toInt_eq_toNat_cond, BitVec.toInt_eq_toNat_cond, Int.shiftRight_eq_div_pow, hk] at e2
  exact byA hP x.toBitVec.isLt (x >>> s2).toBitVec.isLt e2
theorem byU_eq (x : Int32) {k : Nat} (hk : k < 4) : byU x (nI k) = byt x k := by
  unfold byU byt
  match k, hk with
  | 0, _ => exact byK x _ _ 0 1 rfl (Or.inl rfl) (by decide +kernel) (by decide +kernel)
  | 1, _ => exact byK x _ _ 8 256 rfl (Or.inr (Or.inl rfl)) (by decide +kernel) (by decide +kernel)
  | 2, _ => exact byK x _ _ 16 65536 rfl (Or.inr (Or.inr (Or.inl rfl))) (by decide +kernel) (by decide +kernel)
  | 3, _ => exact byK x _ _ 24 16777216 rfl (Or.inr (Or.inr (Or.inr rfl))) (by decide +kernel) (by decide +kernel)
  | k + 4, h => exact absurd h (by omega)
theorem lowS_wi (s : Int32) : lowS s = if wi s 65 90 = true then s + 32 else s := by
  unfold lowS wi
  by_cases h1 : s < 65
  · rw [if_pos h1, decide_eq_false (fun q => q h1)]
    rfl
  · rw [if_neg h1, decide_eq_true h1]
    by_cases h2 : 90 < s
    · rw [if_pos h2, decide_eq_false (fun q => q h2)]
      rfl
    · rw [if_neg h2, decide_eq_true h2, if_pos (show (true && true) = true from rfl), Int32.sub_eq_add_neg, Int32.add_assoc]
      rfl
def pl5 (a b c d e : Int32) : Bool := decide (a &&& (-2139062144) = 0) && (decide (b &&& (-2139062144) = 0) && (decide (c &&& (-2139062144) = 0) && (decide (d &&& (-2139062144) = 0) && decide (e &&& (-2139062144) = 0))))
section M0
variable {l : Launch} {pd : gt_pd} {sh : gt_sh} {tr : gt_tr} {ru : gt_ru} {qu : gt_qu} {to : gt_to} {al : gt_al} {mt : gt_mt} {mp : gt_mp} {mr : gt_mr} {mq : gt_mq} {mo : gt_mo} {mx : gt_mx} {z : List ab_C} {ma ny nl nt nv np nf nu nh bk bf bs bd vr vs vp vo vx vn wt wo : Nat → Int32} {me mn nr br ba vt vh : Int32}
theorem k_Mo_thrown (hl : l.stackTraces = false) : ab_K l M_Mo_thrown (ab_r 0) (0, 0) [.ref 31] (hf pd sh tr ru qu to al (hm me mp mr mq mo mx z)) (fun q => q = (.inl (some (.int me)), (hf pd sh tr ru qu to al (hm me mp mr mq mo mx z)))) := by
  refine e_Mo_thrown hl (by decide) (fun X hl1 hR hX hC => ?_)
  exact t_Mo_thrown_0_1 hX (r_Mo_thrown_4 hX hC (by decide) rfl)
theorem k_Mo_goes (hl : l.stackTraces = false) {a b c : Bool} : ab_K l M_Mo_goes (ab_r 0) (0, 0) [.ref 31, .int (bI a), .int (bI b), .int (bI c)] (hf pd sh tr ru qu to al (hm mt mp mr mq mo mx z)) (fun q => q = (.inl (some (.int (bI (a && b && c)))), (hf pd sh tr ru qu to al (hm (gV a b c) mp mr mq mo mx z)))) := by
  refine e_Mo_goes hl (by decide) (fun X hl1 hR hX hC => ?_)
  cases a
  · exact t_Mo_goes_0_1 hX rfl (t_Mo_goes_26_2 hX (by decide) (r_Mo_goes_41 hX hC (Or.inl rfl) (by decide) rfl))
  · cases b
    · exact t_Mo_goes_0_2 hX (by decide) rfl (t_Mo_goes_26_2 hX (by decide) (r_Mo_goes_41 hX hC (Or.inl rfl) (by decide) rfl))
    · cases c
      · exact t_Mo_goes_0_3 hX (by decide) (by decide) rfl (t_Mo_goes_26_2 hX (by decide) (r_Mo_goes_41 hX hC (Or.inl rfl) (by decide) rfl))
      · exact t_Mo_goes_0_4 hX (by decide) (by decide) (by decide) (t_Mo_goes_26_1 hX (by decide) (r_Mo_goes_41 hX hC (Or.inr rfl) (by decide) rfl))
theorem k_Mo_within (hl : l.stackTraces = false) {x lo hi : Int32} : ab_K l M_Mo_within (ab_r 0) (0, 0) [.int x, .int lo, .int hi] (hf pd sh tr ru qu to al (hm mt mp mr mq mo mx z)) (fun q => q = (.inl (some (.int (bI (wi x lo hi)))), (hf pd sh tr ru qu to al (hm mt mp mr mq mo mx z)))) := by
  refine e_Mo_within hl (by decide) (fun X hl1 hR hX hC => ?_)
  unfold wi at hC
  by_cases h1 : x < lo
  · rw [decide_eq_false (fun q => q h1)] at hC
    exact t_Mo_within_0_3 hX h1 (t_Mo_within_14_1 hX (r_Mo_within_15 hX hC (Or.inl rfl) (by decide) rfl))
  · rw [decide_eq_true h1] at hC
    by_cases h2 : hi < x
    · rw [decide_eq_false (fun q => q h2)] at hC
      exact t_Mo_within_0_2 hX h1 h2 (t_Mo_within_14_1 hX (r_Mo_within_15 hX hC (Or.inl rfl) (by decide) rfl))
    · rw [decide_eq_true h2] at hC
      exact t_Mo_within_0_1 hX h1 h2 (r_Mo_within_15 hX hC (Or.inr rfl) (by decide) rfl)
theorem k_Mo_isRecord (hl : l.stackTraces = false) {x : Int32} {n : Nat} : ab_K l M_Mo_isRecord (ab_r 0) (0, 0) [.ref 31, .int x] (hf pd sh tr ru qu to al (hm mt mp (nI n, ny, nl, nt, nv, np, nf, nu, nh) mq mo mx z)) (fun q => q = (.inl (some (.int (bI (isR x n)))), (hf pd sh tr ru qu to al (hm mt mp (nI n, ny, nl, nt, nv, np, nf, nu, nh) mq mo mx z)))) := by
  refine e_Mo_isRecord hl (by decide) (fun X hl1 hR hX hC => ?_)
  unfold isR at hC
  by_cases h1 : x < 0
  · rw [decide_eq_false (fun q => q h1)] at hC
    exact t_Mo_isRecord_0_3 hX h1 (t_Mo_isRecord_16_1 hX (r_Mo_isRecord_17 hX hC (Or.inl rfl) (by decide) rfl))
  · rw [decide_eq_true h1] at hC
    by_cases h2 : x < nI n
    · rw [decide_eq_true h2] at hC
      exact t_Mo_isRecord_0_1 hX h1 (i32_nle.mpr h2) (r_Mo_isRecord_17 hX hC (Or.inr rfl) (by decide) rfl)
    · rw [decide_eq_false h2] at hC
      exact t_Mo_isRecord_0_2 hX h1 (Decidable.byContradiction (fun q => h2 (i32_nle.mp q))) (t_Mo_isRecord_16_1 hX (r_Mo_isRecord_17 hX hC (Or.inl rfl) (by decide) rfl))
theorem k_Mo_isPlain (hl : l.stackTraces = false) {x : Int32} : ab_K l M_Mo_isPlain (ab_r 0) (0, 0) [.int x] (hf pd sh tr ru qu to al (hm mt mp mr mq mo mx z)) (fun q => q = (.inl (some (.int (bI (decide (x &&& (-2139062144) = 0))))), (hf pd sh tr ru qu to al (hm mt mp mr mq mo mx z)))) := by
  refine e_Mo_isPlain hl (by decide) (fun X hl1 hR hX hC => ?_)
  by_cases h : x &&& (-2139062144) = 0
  · rw [decide_eq_true h] at hC
    exact t_Mo_isPlain_0_1 hX h (r_Mo_isPlain_12 hX hC (Or.inr rfl) (by decide) rfl)
  · rw [decide_eq_false h] at hC
    exact t_Mo_isPlain_0_2 hX h (r_Mo_isPlain_12 hX hC (Or.inl rfl) (by decide) rfl)
theorem k_Mo_isLetter (hl : l.stackTraces = false) {x : Int32} : ab_K l M_Mo_isLetter (ab_r 1) (0, 0) [.int x] (hf pd sh tr ru qu to al (hm mt mp mr mq mo mx z)) (fun q => q = (.inl (some (.int (bI (isLt x)))), (hf pd sh tr ru qu to al (hm mt mp mr mq mo mx z)))) := by
  refine e_Mo_isLetter hl (by decide) (fun X hl1 hR hX hC => ?_)
  have hl2 : (X.2.1).stackTraces = false := by rw [hl1]; exact hl
  have e9 : wi x 97 122 = isLt x := by
    unfold wi isLt
    congr 1
    by_cases h : x ≤ 122
    · rw [decide_eq_true h, decide_eq_true (show ¬ (122 : Int32) < x from fun q => i32_nle.mpr q h)]
    · rw [decide_eq_false h, decide_eq_false (fun q => q (i32_nle.mp h))]
  refine t_Mo_isLetter_0_1 hX (q_Mo_isLetter_5 hX (ab_conT hC) (k_Mo_within hl2) (by rw [hR]; decide) (fun v h' e => ?_) (fun E h' e => by cases e))
  cases e
  rw [e9]
  exact r_Mo_isLetter_8 hX hC (bI_01 _) (by decide) rfl
theorem k_Mo_signs (hl : l.stackTraces = false) {x : Int32} : ab_K l M_Mo_signs (ab_r 0) (0, 0) [.int x] (hf pd sh tr ru qu to al (hm mt mp mr mq mo mx z)) (fun q => q = (.inl (some (.int (nI (cnt4 x 4)))), (hf pd sh tr ru qu to al (hm mt mp mr mq mo mx z)))) := by
  refine e_Mo_signs hl (by decide) (fun X hl1 hR hX hC => ?_)
  refine t_Mo_signs_0_1 hX ?_
  have hloop : ∀ k i : Nat, i + k = 4 → ab_W X M_Mo_signs (4, [(0, .int x), (1, .int (nI (cnt4 x i))), (2, .int (nI i))], [], (hf pd sh tr ru qu to al (hm mt mp mr mq mo mx z)), 0, 0) := by
    intro k
    induction k with
    | zero =>
      intro i hi
      have h4 : i = 4 := by omega
      subst h4
      exact t_Mo_signs_4_3 hX (nI_le (a := 4) (by omega) (by omega)) (r_Mo_signs_37 hX hC (by decide) rfl)
    | succ k ih =>
      intro i hi
      have h9 := ih (i + 1) (by omega)
      have h4 : ¬ (4 : Int32) ≤ nI i := nI_ge (b := 4) (by omega) (by omega)
      by_cases h : byt x i = 0
      · refine t_Mo_signs_4_1 hX h4 (by show byU x (nI i) = 0; rw [byU_eq x (by omega)]; exact h) (t_Mo_signs_29_1 hX ?_)
        rw [nI_1]
        rw [cnt4, if_pos h] at h9
        exact h9
      · refine t_Mo_signs_4_2 hX h4 (by show ¬ byU x (nI i) = 0; rw [byU_eq x (by omega)]; exact h) (t_Mo_signs_29_1 hX ?_)
        rw [nI_1, nI_1]
        rw [cnt4, if_neg h] at h9
        exact h9
  exact hloop 4 0 rfl
theorem k_Mo_take (hl : l.stackTraces = false) {x : Int32} {p : (Nat → Int32) × Nat} (hn : p.2 + cnt4 x 4 ≤ 60) : ab_K l M_Mo_take (ab_r 1) (0, 0) [.ref 31, .int x] (hf pd sh tr ru qu to al (hm mt (p.1, nI p.2) mr mq mo mx z)) (fun q => q = (.inl none, (hf pd sh tr ru qu to al (hm mt ((apS x p 4).1, nI (apS x p 4).2) mr mq mo mx z)))) := by
  refine e_Mo_take hl (by decide) (fun X hl1 hR hX hC => ?_)
  have hl2 : (X.2.1).stackTraces = false := by rw [hl1]; exact hl
  refine t_Mo_take_0_1 hX ?_
  have hloop : ∀ k i : Nat, i + k = 4 → ab_W X M_Mo_take (2, [(0, .ref 31), (1, .int x), (2, .int (nI i))], [], (hf pd sh tr ru qu to al (hm mt ((apS x p i).1, nI (apS x p i).2) mr mq mo mx z)), 0, 0) := by
    intro k
    induction k with
    | zero =>
      intro i hi
      have h4 : i = 4 := by omega
      subst h4
      exact t_Mo_take_2_3 hX (nI_le (a := 4) (by omega) (by omega)) (r_Mo_take_66 hX hC (by decide) rfl)
    | succ k ih =>
      intro i hi
      have h9 := ih (i + 1) (by omega)
      have h4 : ¬ (4 : Int32) ≤ nI i := nI_ge (b := 4) (by omega) (by omega)
      have hmo := cnt4_mono x (show i + 1 ≤ 4 by omega)
      have hb := byU_eq x (k := i) (by omega)
      by_cases h : byt x i = 0
      · refine t_Mo_take_2_2 hX h4 (by show byU x (nI i) = 0; rw [hb]; exact h) (t_Mo_take_60_1 hX ?_)
        rw [nI_1]
        rw [apS, if_pos h] at h9
        exact h9
      · have hc : cnt4 x (i + 1) = cnt4 x i + 1 := by rw [cnt4, if_neg h]
        have hn2 := apS_n x p i
        refine t_Mo_take_2_1 hX h4 (by show ¬ byU x (nI i) = 0; rw [hb]; exact h) ?_
        change ab_W X M_Mo_take (35, [(0, .ref 31), (1, .int x), (2, .int (nI i)), (3, .int (byU x (nI i)))], [.int 90, .int 65, .int (byU x (nI i)), .int (nI (apS x p i).2), .ref 32], _, 0, 0)
        rw [hb]
        refine q_Mo_take_35 hX (ab_conT hC) (k_Mo_within hl2) (by rw [hR]; decide) (fun v h' e => ?_) (fun E h' e => by cases e)
        cases e
        have hgo : ab_W X M_Mo_take (49, [(0, .ref 31), (1, .int x), (2, .int (nI i))], [.int (lowS (byt x i)), .int (nI (apS x p i).2), .ref 32], (hf pd sh tr ru qu to al (hm mt ((apS x p i).1, nI (apS x p i).2) mr mq mo mx z)), 0, 0) := by
          refine t_Mo_take_49_1 hX (vp_in_nI (by omega) (by omega)) (t_Mo_take_60_1 hX ?_)
          rw [nI_1, nI_1, nI_clamp (by omega)]
          rw [apS, if_neg h] at h9
          exact h9
        rw [lowS_wi] at hgo
        cases hw : wi (byt x i) 65 90 with
        | true =>
          rw [hw, if_pos rfl] at hgo
          exact t_Mo_take_38_1 hX (by decide) hgo
        | false =>
          rw [hw, if_neg (by decide)] at hgo
          exact t_Mo_take_38_2 hX rfl hgo
  exact hloop 4 0 rfl
theorem k_Mo_clear (hl : l.stackTraces = false) : ab_K l M_Mo_clear (ab_r 0) (0, 0) [.ref 31] (hf pd sh tr ru qu to al (hm mt (ma, mn) mr mq mo mx z)) (fun q => q = (.inl (some (.int mn)), (hf pd sh tr ru qu to al (hm 0 (ma, 0) mr mq mo mx z)))) := by
  refine e_Mo_clear hl (by decide) (fun X hl1 hR hX hC => ?_)
  exact t_Mo_clear_0_1 hX (r_Mo_clear_16 hX hC (by decide) rfl)
theorem k_Mo_record (hl : l.stackTraces = false) {n : Nat} (hn : n ≤ 32) : ab_K l M_Mo_record (ab_r 1) (0, 0) [.ref 31] (hf pd sh tr ru qu to al (hm mt mp (nI n, ny, nl, nt, nv, np, nf, nu, nh) mq mo mx z)) (fun q => q = if n < 32 then (.inl (some (.int (nI n))), (hf pd sh tr ru qu to al (hm 0 mp (nI (n + 1), ny, nl, nt, nv, np, nf, nu, nh) mq mo mx z))) else (.inl (some (.int 0)), (hf pd sh tr ru qu to al (hm 1 mp (nI n, ny, nl, nt, nv, np, nf, nu, nh) mq mo mx z)))) := by
  refine e_Mo_record hl (by decide) (fun X hl1 hR hX hC => ?_)
  have hl2 : (X.2.1).stackTraces = false := by rw [hl1]; exact hl
  by_cases h : n < 32
  · rw [if_pos h] at hC
    refine t_Mo_record_0_1 hX (nI_ge (b := 32) h (by omega)) (t_Mo_record_15_1 hX (q_Mo_record_17 hX (ab_conT hC) (k_Mo_goes (a := true) (b := true) (c := true) hl2) (by rw [hR]; decide) (fun v h' e => ?_) (fun E h' e => by cases e)))
    cases e
    refine t_Mo_record_20_2 hX (by decide) (r_Mo_record_41 hX hC (by decide) ?_)
    rw [Int32.add_sub_cancel, nI_1]
    rfl
  · rw [if_neg h] at hC
    refine t_Mo_record_0_2 hX (nI_le (a := 32) (by omega) (by omega)) (t_Mo_record_15_1 hX (q_Mo_record_17 hX (ab_conT hC) (k_Mo_goes (a := false) (b := true) (c := true) hl2) (by rw [hR]; decide) (fun v h' e => ?_) (fun E h' e => by cases e)))
    cases e
    exact t_Mo_record_20_1 hX rfl (r_Mo_record_24 hX hC (by decide) rfl)
theorem k_Mo_feed (hl : l.stackTraces = false) {a b c d e : Int32} {p : (Nat → Int32) × Nat} (hn : p.2 ≤ 60) : ab_K l M_Mo_feed (ab_r 2) (0, 0) [.ref 31, .int a, .int b, .int c, .int d, .int e] (hf pd sh tr ru qu to al (hm mt (p.1, nI p.2) mr mq mo mx z))
    (fun q => q = if pl5 a b c d e = true then (if 60 < p.2 + cn5 a b c d e then (.inl (some (.int 0)), (hf pd sh tr ru qu to al (hm 2 (p.1, nI p.2) mr mq mo mx z))) else (.inl (some (.int (nI (p.2 + cn5 a b c d e)))), (hf pd sh tr ru qu to al (hm 0 ((ap5 a b c d e p).1, nI (p.2 + cn5 a b c d e)) mr mq mo mx z)))) else (.inl (some (.int 0)), (hf pd sh tr ru qu to al (hm 1 (p.1, nI p.2) mr mq mo mx z)))) := by
  refine e_Mo_feed hl (by decide) (fun X hl1 hR hX hC => ?_)
  have hl2 : (X.2.1).stackTraces = false := by rw [hl1]; exact hl
  have ca := cnt4_le a 4
  have cb := cnt4_le b 4
  have cc := cnt4_le c 4
  have cd := cnt4_le d 4
  have ce := cnt4_le e 4
  have hcn : cn5 a b c d e ≤ 20 := by unfold cn5; omega
  have hrest : ∀ B : Bool, B = pl5 a b c d e → ab_W X M_Mo_feed (42, [(0, .ref 31), (1, .int a), (2, .int b), (3, .int c), (4, .int d), (5, .int e)], [.int (bI B)], (hf pd sh tr ru qu to al (hm mt (p.1, nI p.2) mr mq mo mx z)), 0, 0) := by
    intro B hB
    refine t_Mo_feed_42_1 hX (q_Mo_feed_52 hX (ab_conT hC) (k_Mo_signs hl2) (by rw [hR]; decide) (fun v h' e => ?_) (fun E h' e => by cases e))
    cases e
    refine t_Mo_feed_55_1 hX (q_Mo_feed_57 hX (ab_conT hC) (k_Mo_signs hl2) (by rw [hR]; decide) (fun v h' e => ?_) (fun E h' e => by cases e))
    cases e
    refine t_Mo_feed_60_1 hX (q_Mo_feed_62 hX (ab_conT hC) (k_Mo_signs hl2) (by rw [hR]; decide) (fun v h' e => ?_) (fun E h' e => by cases e))
    cases e
    refine t_Mo_feed_65_1 hX (q_Mo_feed_68 hX (ab_conT hC) (k_Mo_signs hl2) (by rw [hR]; decide) (fun v h' e => ?_) (fun E h' e => by cases e))
    cases e
    refine t_Mo_feed_71_1 hX (q_Mo_feed_74 hX (ab_conT hC) (k_Mo_signs hl2) (by rw [hR]; decide) (fun v h' e => ?_) (fun E h' e => by cases e))
    cases e
    have hsum : nI p.2 + nI (cnt4 a 4) + nI (cnt4 b 4) + nI (cnt4 c 4) + nI (cnt4 d 4) + nI (cnt4 e 4) = nI (p.2 + cn5 a b c d e) := by
      rw [nI_add, nI_add, nI_add, nI_add, nI_add]
      congr 1
      unfold cn5
      omega
    have h88 : ∀ C : Bool, C = decide (¬ 60 < p.2 + cn5 a b c d e) → ab_W X M_Mo_feed (88, [(0, .ref 31), (1, .int a), (2, .int b), (3, .int c), (4, .int d), (5, .int e)], [.int (bI C), .int (bI B), .ref 31], (hf pd sh tr ru qu to al (hm mt (p.1, nI p.2) mr mq mo mx z)), 0, 0) := by
      intro C hCC
      refine t_Mo_feed_88_1 hX (q_Mo_feed_89 hX (ab_conT hC) (k_Mo_goes (c := true) hl2) (by rw [hR]; decide) (fun v h' e => ?_) (fun E h' e => by cases e))
      cases e
      cases B with
      | false =>
        rw [← hB, if_neg (by decide)] at hC
        exact t_Mo_feed_92_1 hX rfl (r_Mo_feed_96 hX hC (by decide) rfl)
      | true =>
        rw [← hB, if_pos rfl] at hC
        cases C with
        | false =>
          rw [if_pos (Decidable.byContradiction (fun q => by rw [decide_eq_true q] at hCC; cases hCC))] at hC
          exact t_Mo_feed_92_1 hX rfl (r_Mo_feed_96 hX hC (by decide) rfl)
        | true =>
          have h2 := of_decide_eq_true hCC.symm
          rw [if_neg h2] at hC
          unfold cn5 at h2
          have n1 := apS_n a p 4
          have n2 := apS_n b (apS a p 4) 4
          have n3 := apS_n c (apS b (apS a p 4) 4) 4
          have n4 := apS_n d (apS c (apS b (apS a p 4) 4) 4) 4
          refine t_Mo_feed_92_2 hX (by decide) (q_Mo_feed_99 hX (ab_conT hC) (k_Mo_take hl2 (by omega)) (by rw [hR]; decide) (fun v h' e => ?_) (fun E h' e => by cases e))
          cases e
          refine t_Mo_feed_102_1 hX (q_Mo_feed_104 hX (ab_conT hC) (k_Mo_take hl2 (by omega)) (by rw [hR]; decide) (fun v h' e => ?_) (fun E h' e => by cases e))
          cases e
          refine t_Mo_feed_107_1 hX (q_Mo_feed_109 hX (ab_conT hC) (k_Mo_take hl2 (by omega)) (by rw [hR]; decide) (fun v h' e => ?_) (fun E h' e => by cases e))
          cases e
          refine t_Mo_feed_112_1 hX (q_Mo_feed_115 hX (ab_conT hC) (k_Mo_take hl2 (by omega)) (by rw [hR]; decide) (fun v h' e => ?_) (fun E h' e => by cases e))
          cases e
          refine t_Mo_feed_118_1 hX (q_Mo_feed_121 hX (ab_conT hC) (k_Mo_take hl2 (by omega)) (by rw [hR]; decide) (fun v h' e => ?_) (fun E h' e => by cases e))
          cases e
          refine t_Mo_feed_124_1 hX (r_Mo_feed_128 hX hC (by decide) ?_)
          have n5 := ap5_n a b c d e p
          unfold ap5 at n5 ⊢
          rw [n5]
          rfl
    by_cases h : 60 < p.2 + cn5 a b c d e
    · exact t_Mo_feed_77_2 hX (by rw [hsum]; exact nI_lt (a := 60) h (by omega)) (h88 false (by rw [decide_eq_false (fun q => q h)]))
    · exact t_Mo_feed_77_1 hX (by rw [hsum]; exact nI_nlt (a := 60) (by omega) (by omega)) (h88 true (by rw [decide_eq_true h]))
  have hno : pl5 a b c d e = false → ab_W X M_Mo_feed (41, [(0, .ref 31), (1, .int a), (2, .int b), (3, .int c), (4, .int d), (5, .int e)], [], (hf pd sh tr ru qu to al (hm mt (p.1, nI p.2) mr mq mo mx z)), 0, 0) := fun h => t_Mo_feed_41_1 hX (hrest false h.symm)
  unfold pl5 at hno hrest
  refine t_Mo_feed_0_1 hX (q_Mo_feed_1 hX (ab_conT hC) (k_Mo_isPlain hl2) (by rw [hR]; decide) (fun v h' e => ?_) (fun E h' e => by cases e))
  cases e
  by_cases h1 : a &&& (-2139062144) = 0
  · rw [decide_eq_true h1] at hno hrest ⊢
    refine t_Mo_feed_4_1 hX (by decide) (q_Mo_feed_8 hX (ab_conT hC) (k_Mo_isPlain hl2) (by rw [hR]; decide) (fun v h' e => ?_) (fun E h' e => by cases e))
    cases e
    by_cases h2 : b &&& (-2139062144) = 0
    · rw [decide_eq_true h2] at hno hrest ⊢
      refine t_Mo_feed_11_1 hX (by decide) (q_Mo_feed_15 hX (ab_conT hC) (k_Mo_isPlain hl2) (by rw [hR]; decide) (fun v h' e => ?_) (fun E h' e => by cases e))
      cases e
      by_cases h3 : c &&& (-2139062144) = 0
      · rw [decide_eq_true h3] at hno hrest ⊢
        refine t_Mo_feed_18_1 hX (by decide) (q_Mo_feed_23 hX (ab_conT hC) (k_Mo_isPlain hl2) (by rw [hR]; decide) (fun v h' e => ?_) (fun E h' e => by cases e))
        cases e
        by_cases h4 : d &&& (-2139062144) = 0
        · rw [decide_eq_true h4] at hno hrest ⊢
          refine t_Mo_feed_26_1 hX (by decide) (q_Mo_feed_31 hX (ab_conT hC) (k_Mo_isPlain hl2) (by rw [hR]; decide) (fun v h' e => ?_) (fun E h' e => by cases e))
          cases e
          by_cases h5 : e &&& (-2139062144) = 0
          · rw [decide_eq_true h5] at hno hrest ⊢
            exact t_Mo_feed_34_1 hX (by decide) (hrest true rfl)
          · rw [decide_eq_false h5] at hno ⊢
            exact t_Mo_feed_34_2 hX rfl (hno rfl)
        · rw [decide_eq_false h4] at hno ⊢
          exact t_Mo_feed_26_2 hX rfl (hno rfl)
      · rw [decide_eq_false h3] at hno ⊢
        exact t_Mo_feed_18_2 hX rfl (hno rfl)
    · rw [decide_eq_false h2] at hno ⊢
      exact t_Mo_feed_11_2 hX rfl (hno rfl)
  · rw [decide_eq_false h1] at hno ⊢
    exact t_Mo_feed_4_2 hX rfl (hno rfl)
end M0
