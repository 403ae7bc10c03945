/-! CONTRACTS OF THE REFERENCE: how far, what is scored (a template: gen/tpl.py) -/
theorem m1_sub (v : Int32) : (-1 : Int32) - (-1 - v) = v := by
  rw [Int32.sub_eq_add_neg, Int32.neg_sub, Int32.add_comm, Int32.sub_add_cancel]
theorem m1_neg {v : Nat} (h : v < 2 ^ 30) : ¬ (0 : Int32) ≤ -1 - nI v := by
  rw [Int32.le_iff_toInt_le, Int32.toInt_sub, nI_toInt (by omega), show (-1 : Int32).toInt = -1 from rfl, show (0 : Int32).toInt = 0 from rfl, Int.bmod_eq_of_le (by omega) (by omega)]
  omega
/-- the letters that k names: asked ones, or a record's -/
def lfK (bd nt A : Nat → Int32) (kk : Int32) : Prop := (∃ k : Nat, k < 8 ∧ kk = nI k ∧ ∀ i, i < 10 → A i = bd (10 * k + i)) ∨ ∃ v : Nat, v < 384 ∧ kk = -1 - nI v ∧ ∀ i, i < 10 → A i = nt (10 * v + i)
def cM (A nt : Nat → Int32) (w a b : Nat) : Nat := if nt (10 * w + b) = A a then 0 else 1
theorem cM_le (A nt : Nat → Int32) (w a b : Nat) : cM A nt w a b ≤ 1 := by unfold cM; split <;> omega
theorem cM_congr {A B nt : Nat → Int32} {w a b : Nat} (h : A a = B a) : cM A nt w a b = cM B nt w a b := by unfold cM; rw [h]
def dM (A nt : Nat → Int32) (n w lw : Nat) : Nat := gD (cM A nt w) n lw
theorem dM_le (A nt : Nat → Int32) {n w lw : Nat} (hn : n ≤ 10) (hl : lw ≤ 10) : dM A nt n w lw ≤ 10 := by
  have := (gD_bounds (cM_le A nt w) n lw).2.2
  unfold dM
  omega
def nM (A nt : Nat → Int32) (n : Nat) (ln : Nat → Nat) (r : Nat) : Nat → Nat
  | 0 => 99
  | i + 1 => min (dM A nt n (12 * r + i) (ln (12 * r + i))) (nM A nt n ln r i)
theorem nM_le (A nt : Nat → Int32) (n : Nat) (ln : Nat → Nat) (r : Nat) : ∀ i, nM A nt n ln r i ≤ 99
  | 0 => Nat.le_refl _
  | i + 1 => Nat.le_trans (Nat.min_le_right _ _) (nM_le A nt n ln r i)
def yM (f u a b : Int32) : Bool := decide (¬ f = -1) && (decide (¬ b < a) && (decide (¬ b < f) && decide (¬ u < a)))
def vM (nv np : Nat → Int32) (r f : Nat) (s : Int32) : Nat := if nv (4 * r + f) = s then 3 else if ¬ nv (4 * r + f) = -1 ∧ uN (pO np f) s 17 (nv (4 * r + f)) = true then 1 else 0
/-- what a term scores for the record r, by the reference -/
def mS (ma : Nat → Int32) (m : Nat) (nt nv np nf nu : Nat → Int32) (ln : Nat → Nat) (r c : Nat) (tm : gTm) : Nat :=
  if tm.1 = 3 then (if yM (nf r) (nu r) tm.2.2.1 tm.2.2.2 = true then 2 else 0)
  else if tm.1 = 2 then vM nv np r tm.2.2.1.toNatClampNeg tm.2.2.2
  else if tm.1 = 0 then (if nM (fun i => sgN ma m (tm.2.1 + i)) nt (lnP ma m tm.2.1) ln r c = 0 then 10 else 0)
  else (if 2 < nM (fun i => sgN ma m (tm.2.1 + i)) nt (lnP ma m tm.2.1) ln r c then 0 else 6 - 2 * nM (fun i => sgN ma m (tm.2.1 + i)) nt (lnP ma m tm.2.1) ln r c)
theorem gD_congrL {c d : Nat → Nat → Nat} {n k : Nat} (h : ∀ a b, a < n → b < k → c a b = d a b) : gD c n k = gD d n k := gD_congr n k h
/-- a term as it is read, for the reference -/
def tmOkM (ma : Nat → Int32) (m : Nat) (tm : gTm) : Prop := (tm.1 = 0 ∧ tm.2.2.1 = nI (lnP ma m tm.2.1)) ∨ (tm.1 = 1 ∧ tm.2.2.1 = nI (lnP ma m tm.2.1)) ∨ (tm.1 = 2 ∧ ∃ f : Nat, f < 4 ∧ tm.2.2.1 = nI f) ∨ tm.1 = 3
section M3
variable {l : Launch} {pd : gt_pd} {sh : gt_sh} {tr : gt_tr} {ru : gt_ru} {qu : gt_qu} {to : gt_to} {al : gt_al} {mt : gt_mt} {mp : gt_mp} {mr : gt_mr} {mq : gt_mq} {mo : gt_mo} {mx : gt_mx} {z : List ab_C} {ma ny nl nt nv np nf nu nh bk bf bs bd vr vs vp vo vx vn wt wo : Nat → Int32} {me mn nr br ba vt vh : Int32}
theorem k_Mo_least (hl : l.stackTraces = false) {a b c : Nat} (ha : a < 2 ^ 31) (hb : b < 2 ^ 31) (hc : c < 2 ^ 31) : ab_K l M_Mo_least (ab_r 0) (0, 0) [.int (nI a), .int (nI b), .int (nI c)] (hf pd sh tr ru qu to al (hm mt mp mr mq mo mx z)) (fun q => q = (.inl (some (.int (nI (min (min a b) c)))), (hf pd sh tr ru qu to al (hm mt mp mr mq mo mx z)))) := by
  refine e_Mo_least hl (by decide) (fun X hl1 hR hX hC => ?_)
  have hgo : ∀ x : Nat, x < 2 ^ 31 → x = min a b → ab_W X M_Mo_least (10, [(2, .int (nI c))], [.int (nI x)], (hf pd sh tr ru qu to al (hm mt mp mr mq mo mx z)), 0, 0) := by
    intro x hx e
    rw [← e] at hC
    by_cases h : c ≤ x
    · rw [Nat.min_eq_right h] at hC
      exact t_Mo_least_10_2 hX (nI_le h hx) (r_Mo_least_21 hX hC (by decide) rfl)
    · rw [Nat.min_eq_left (by omega)] at hC
      exact t_Mo_least_10_1 hX (nI_ge (by omega) hc) (r_Mo_least_21 hX hC (by decide) rfl)
  by_cases h : b ≤ a
  · exact t_Mo_least_0_2 hX (nI_le h ha) (hgo b hb (by omega))
  · exact t_Mo_least_0_1 hX (nI_ge (by omega) hb) (hgo a ha (by omega))
theorem k_Mo_asks (hl : l.stackTraces = false) {kk : Int32} {A : Nat → Int32} {w i j : Nat} (hk : lfK bd nt A kk) (hw : w < 384) (hi : i < 10) (hj : j < 10) : ab_K l M_Mo_asks (ab_r 0) (0, 0) [.ref 31, .int kk, .int (nI w), .int (nI i), .int (nI j)] (hf pd sh tr ru qu to al (hm mt mp (nr, ny, nl, nt, nv, np, nf, nu, nh) (br, bk, bf, bs, bd, ba) mo mx z)) (fun q => q = (.inl (some (.int (nI (cM A nt w i j)))), (hf pd sh tr ru qu to al (hm mt mp (nr, ny, nl, nt, nv, np, nf, nu, nh) (br, bk, bf, bs, bd, ba) mo mx z)))) := by
  refine e_Mo_asks hl (by decide) (fun X hl1 hR hX hC => ?_)
  have e1 : (10 : Int32) * nI w + nI j = nI (10 * w + j) := ab_lin2 10 w j
  have hin1 : vp_in ((10 : Int32) * nI w + nI j) 3840 := by rw [e1]; exact vp_in_nI (by omega) (by omega)
  have hgo : ab_W X M_Mo_asks (43, [], [.int (A i), .int (nt (10 * w + j))], (hf pd sh tr ru qu to al (hm mt mp (nr, ny, nl, nt, nv, np, nf, nu, nh) (br, bk, bf, bs, bd, ba) mo mx z)), 0, 0) := by
    unfold cM at hC
    by_cases h : nt (10 * w + j) = A i
    · rw [if_pos h] at hC
      exact t_Mo_asks_43_1 hX h (r_Mo_asks_51 hX hC (by decide) rfl)
    · rw [if_neg h] at hC
      exact t_Mo_asks_43_2 hX h (r_Mo_asks_51 hX hC (by decide) rfl)
  rcases hk with ⟨k, hk, rfl, hA⟩ | ⟨v, hv, rfl, hA⟩
  · have e2 : (10 : Int32) * nI k + nI i = nI (10 * k + i) := ab_lin2 10 k i
    refine t_Mo_asks_0_2 hX hin1 (nI_pos' (by omega)) (by rw [e2]; exact vp_in_nI (by omega) (by omega)) ?_
    rw [e1, e2, nI_clamp (by omega), nI_clamp (by omega), ← hA i hi]
    exact hgo
  · have e2 : (10 : Int32) * ((-1) - (-1 - nI v)) + nI i = nI (10 * v + i) := by rw [m1_sub]; exact ab_lin2 10 v i
    refine t_Mo_asks_0_1 hX hin1 (m1_neg (by omega)) (by rw [e2]; exact vp_in_nI (by omega) (by omega)) ?_
    rw [e1, e2, nI_clamp (by omega), nI_clamp (by omega), ← hA i hi]
    exact hgo
set_option maxHeartbeats 1000000 in
theorem k_Mo_distance (hl : l.stackTraces = false) {kk : Int32} {A : Nat → Int32} {n w lw : Nat} (hk : lfK bd nt A kk) (hw : w < 384) (hn : n ≤ 10) (hlw : lw ≤ 10) (hnl : nl w = nI lw) : ab_K l M_Mo_distance (ab_r 1) (0, 0) [.ref 31, .int kk, .int (nI n), .int (nI w)] (hf pd sh tr ru qu to al (hm mt mp (nr, ny, nl, nt, nv, np, nf, nu, nh) (br, bk, bf, bs, bd, ba) mo mx z)) (fun q => ∃ mx' : gt_mx, q = (.inl (some (.int (nI (dM A nt n w lw)))), (hf pd sh tr ru qu to al (hm mt mp (nr, ny, nl, nt, nv, np, nf, nu, nh) (br, bk, bf, bs, bd, ba) mo mx' z)))) := by
  obtain ⟨wt, wo⟩ := mx
  refine e_Mo_distance hl (by decide) (fun X hl1 hR hX hC => ?_)
  have hl2 : (X.2.1).stackTraces = false := by rw [hl1]; exact hl
  obtain ⟨F, hF⟩ : ∃ F, F = gD (fun a b => cM A nt w (n - 1 - a) (lw - 1 - b)) := ⟨_, rfl⟩
  have hFb : ∀ p q, p ≤ 10 → q ≤ 10 → F p q ≤ 10 := fun p q hp hq => by
    have := (gD_bounds (c := fun a b => cM A nt w (n - 1 - a) (lw - 1 - b)) (fun a b => cM_le ..) p q).2.2
    rw [hF]
    omega
  have hfin : dM A nt n w lw = F n lw := by
    unfold dM
    rw [hF, gD_flip]
  rw [hfin] at hC
  refine t_Mo_distance_0_1 hX (vp_in_nI hw (by omega)) ?_
  rw [nI_clamp (show w < 2 ^ 31 by omega), hnl]
  have hcell : ∀ (i j : Nat), i ≤ 10 → j ≤ 10 → (11 : Int32) * nI i + nI j = nI (11 * i + j) := fun i j _ _ => ab_lin2 11 i j
  have hinner : ∀ (J i : Nat) (wt9 : Nat → Int32), i ≤ n → J ≤ lw + 1 →
      (∀ a b, i < a → a ≤ n → b ≤ lw → wt9 (11 * a + b) = nI (F (n - a) (lw - b))) → (∀ b, J ≤ b → b ≤ lw → wt9 (11 * i + b) = nI (F (n - i) (lw - b))) →
      (∀ wt8 : Nat → Int32, (∀ a b, i ≤ a → a ≤ n → b ≤ lw → wt8 (11 * a + b) = nI (F (n - a) (lw - b))) → ab_W X M_Mo_distance (11, [(0, .ref 31), (1, .int kk), (2, .int (nI n)), (3, .int (nI w)), (4, .int (nI lw)), (5, .int (nI i + (-1)))], [], (hf pd sh tr ru qu to al (hm mt mp (nr, ny, nl, nt, nv, np, nf, nu, nh) (br, bk, bf, bs, bd, ba) mo (wt8, wo) z)), 0, 0)) →
      ab_W X M_Mo_distance (20, [(0, .ref 31), (1, .int kk), (2, .int (nI n)), (3, .int (nI w)), (4, .int (nI lw)), (5, .int (nI i)), (6, .int (nI J + (-1)))], [], (hf pd sh tr ru qu to al (hm mt mp (nr, ny, nl, nt, nv, np, nf, nu, nh) (br, bk, bf, bs, bd, ba) mo (wt9, wo) z)), 0, 0) := by
    intro J
    induction J with
    | zero =>
      intro i wt9 hi hJ h1 h2 hk9
      refine t_Mo_distance_20_4 hX (by decide) (hk9 wt9 (fun a b ha hb hc => ?_))
      by_cases e : a = i
      · rw [e]; exact h2 b (Nat.zero_le _) hc
      · exact h1 a b (by omega) hb hc
    | succ J ih =>
      intro i wt9 hi hJ h1 h2 hk9
      rw [pk_m1]
      have hge : ¬ nI J < 0 := nI_pos (by omega)
      have ec := hcell i J (by omega) (by omega)
      have hin : vp_in ((11 : Int32) * nI i + nI J) 121 := by rw [ec]; exact vp_in_nI (by omega) (by omega)
      have hcl : ((11 : Int32) * nI i + nI J).toNatClampNeg = 11 * i + J := by rw [ec]; exact nI_clamp (by omega)
      have hstep : ∀ x : Nat, x = F (n - i) (lw - J) → ab_W X M_Mo_distance (142, [(0, .ref 31), (1, .int kk), (2, .int (nI n)), (3, .int (nI w)), (4, .int (nI lw)), (5, .int (nI i)), (6, .int (nI J))], [], (hf pd sh tr ru qu to al (hm mt mp (nr, ny, nl, nt, nv, np, nf, nu, nh) (br, bk, bf, bs, bd, ba) mo (upd wt9 (11 * i + J) (nI x), wo) z)), 0, 0) := by
        intro x hx
        refine t_Mo_distance_142_1 hX (ih i _ hi (by omega) (fun a b ha hb hc => ?_) (fun b hb hc => ?_) hk9)
        · rw [pk_un (by omega)]; exact h1 a b ha hb hc
        · by_cases e : b = J
          · rw [e, pk_us, hx]
          · rw [pk_un (by omega)]; exact h2 b (by omega) hc
      by_cases he : i = n
      · refine t_Mo_distance_20_3 hX hge (by rw [he]) (t_Mo_distance_38_1 hX hin ?_)
        rw [hcl]
        have hx : nI n - nI i + nI lw - nI J = nI (lw - J) := by rw [he, pk_sub (Nat.le_refl _), Nat.sub_self, nI_add, Nat.zero_add, pk_sub (by omega)]
        rw [hx]
        exact hstep _ (by rw [he, Nat.sub_self, hF, gD_0])
      · by_cases hj : J = lw
        · refine t_Mo_distance_20_1 hX hge (fun q => he ((nI_eq (by omega) (by omega)).mp q)) (by rw [hj]) (t_Mo_distance_38_1 hX hin ?_)
          rw [hcl]
          have hx : nI n - nI i + nI lw - nI J = nI (n - i) := by rw [hj, pk_sub (by omega), nI_add, pk_sub (by omega), Nat.add_sub_cancel]
          rw [hx]
          exact hstep _ (by rw [hj, Nat.sub_self, hF, gD_i0])
        · have e12 : (11 : Int32) * nI i + nI J + 12 = nI (11 * (i + 1) + (J + 1)) := by
            rw [ec, show nI (11 * i + J) + 12 = nI (11 * i + J + 12) from nI_add _ 12]
            congr 1
            omega
          have e11 : (11 : Int32) * nI i + nI J + 11 = nI (11 * (i + 1) + J) := by
            rw [ec, show nI (11 * i + J) + 11 = nI (11 * i + J + 11) from nI_add _ 11]
            congr 1
            omega
          have e01 : (11 : Int32) * nI i + nI J + 1 = nI (11 * i + (J + 1)) := by
            rw [ec, nI_1]
            congr 1
          have f1 := h1 (i + 1) (J + 1) (by omega) (by omega) (by omega)
          have f2 := h1 (i + 1) J (by omega) (by omega) (by omega)
          have f3 := h2 (J + 1) (by omega) (by omega)
          have b1 := hFb (n - (i + 1)) (lw - (J + 1)) (by omega) (by omega)
          have b2 := hFb (n - (i + 1)) (lw - J) (by omega) (by omega)
          have b3 := hFb (n - i) (lw - (J + 1)) (by omega) (by omega)
          have bc := cM_le A nt w i J
          refine t_Mo_distance_20_2 hX hge (fun q => he ((nI_eq (by omega) (by omega)).mp q)) (fun q => hj ((nI_eq (by omega) (by omega)).mp q)) (by rw [e12]; exact vp_in_nI (by omega) (by omega)) ?_
          rw [e12, nI_clamp (show 11 * (i + 1) + (J + 1) < 2 ^ 31 by omega), f1]
          refine q_Mo_distance_99 hX (ab_conT hC) (k_Mo_asks hl2 hk hw (show i < 10 by omega) (show J < 10 by omega)) (by rw [hR]; decide) (fun v h' e => ?_) (fun E h' e => by first | (cases e; done) | (split at e <;> cases e))
          cases e
          refine t_Mo_distance_102_1 hX (by rw [e11]; exact vp_in_nI (by omega) (by omega)) (by rw [e01]; exact vp_in_nI (by omega) (by omega)) ?_
          rw [e11, e01, nI_clamp (show 11 * (i + 1) + J < 2 ^ 31 by omega), nI_clamp (show 11 * i + (J + 1) < 2 ^ 31 by omega), f2, f3, nI_add, nI_1, nI_1]
          refine q_Mo_distance_138 hX (ab_conT hC) (k_Mo_least hl2 (by omega) (by omega) (by omega)) (by rw [hR]; decide) (fun v h' e => ?_) (fun E h' e => by first | (cases e; done) | (split at e <;> cases e))
          cases e
          refine t_Mo_distance_141_1 hX hin ?_
          rw [hcl]
          refine hstep _ ?_
          have hs := gD_ss (fun a b => cM A nt w (n - 1 - a) (lw - 1 - b)) (n - (i + 1)) (lw - (J + 1))
          rw [← hF, show n - (i + 1) + 1 = n - i by omega, show lw - (J + 1) + 1 = lw - J by omega, show n - 1 - (n - (i + 1)) = i by omega, show lw - 1 - (lw - (J + 1)) = J by omega] at hs
          rw [hs]
          omega
  have houter : ∀ (I : Nat) (wt9 : Nat → Int32), I ≤ n + 1 → (∀ a b, I ≤ a → a ≤ n → b ≤ lw → wt9 (11 * a + b) = nI (F (n - a) (lw - b))) → ab_W X M_Mo_distance (11, [(0, .ref 31), (1, .int kk), (2, .int (nI n)), (3, .int (nI w)), (4, .int (nI lw)), (5, .int (nI I + (-1)))], [], (hf pd sh tr ru qu to al (hm mt mp (nr, ny, nl, nt, nv, np, nf, nu, nh) (br, bk, bf, bs, bd, ba) mo (wt9, wo) z)), 0, 0) := by
    intro I
    induction I with
    | zero =>
      intro wt9 hI h1
      have h0 := h1 0 0 (Nat.le_refl _) (by omega) (by omega)
      refine t_Mo_distance_11_2 hX (by decide) (vp_in_nI (n := 0) (by omega) (by omega)) (r_Mo_distance_160 hX hC (by decide) ⟨(wt9, wo), ?_⟩)
      rw [show (0 : Int32).toNatClampNeg = 11 * 0 + 0 from rfl, h0]
      rfl
    | succ I ih =>
      intro wt9 hI h1
      rw [pk_m1]
      refine t_Mo_distance_11_1 hX (nI_pos (by omega)) ?_
      have h9 := hinner (lw + 1) I wt9 (by omega) (Nat.le_refl _) (fun a b ha hb hc => h1 a b (by omega) hb hc) (fun b hb hc => absurd hc (by omega)) (fun wt8 h8 => ih wt8 (by omega) h8)
      rw [pk_m1] at h9
      exact h9
  have h9 := houter (n + 1) wt (Nat.le_refl _) (fun a b ha hb hc => absurd hb (by omega))
  rw [pk_m1] at h9
  exact h9
set_option maxHeartbeats 1000000 in
theorem k_Mo_scored (hl : l.stackTraces = false) {r t c m : Nat} {tm : gTm} {ln : Nat → Nat} (hr : r < 32) (ht : t < 8) (hc : c ≤ 12) (hny : ny r = nI c) (hln : ∀ i, i < c → ln (12 * r + i) ≤ 10 ∧ nl (12 * r + i) = nI (ln (12 * r + i))) (hq : ∀ j, j < 64 → okv (np j)) (hch : ∀ f, f < 4 → ∀ v, okv v → chE (pO np f) 16 v) (hv : ∀ j, j < 128 → okv (nv j)) (ho : tmOkM ma m tm) (hmT : mTm ma m t (br, bk, bf, bs, bd, ba) tm) :
    ab_K l M_Mo_scored (ab_r 2) (0, 0) [.ref 31, .int (nI r), .int (nI t)] (hf pd sh tr ru qu to al (hm mt mp (nr, ny, nl, nt, nv, np, nf, nu, nh) (br, bk, bf, bs, bd, ba) mo mx z)) (fun q => ∃ mx' : gt_mx, q = (.inl (some (.int (nI (mS ma m nt nv np nf nu ln r c tm)))), (hf pd sh tr ru qu to al (hm mt mp (nr, ny, nl, nt, nv, np, nf, nu, nh) (br, bk, bf, bs, bd, ba) mo mx' z)))) := by
  refine e_Mo_scored hl (by decide) (fun X hl1 hR hX hC => ?_)
  have hl2 : (X.2.1).stackTraces = false := by rw [hl1]; exact hl
  have hin : vp_in (nI t) 9 := vp_in_nI (by omega) (by omega)
  have hcl : (nI t).toNatClampNeg = t := nI_clamp (by omega)
  have hinr : vp_in (nI r) 32 := vp_in_nI hr (by omega)
  have hclr : (nI r).toNatClampNeg = r := nI_clamp (by omega)
  have e12 : (12 : Int32) * nI r = nI (12 * r) := ab_mul2 12 r
  obtain ⟨k0, a0, f0, s0⟩ := tm
  obtain ⟨m1, m2, m3⟩ := hmT
  dsimp only at m1 m2 m3
  unfold mS at hC
  dsimp only at hC
  have hword : ∀ (b0 : Bool), (k0 = if b0 = true then 0 else 1) → f0 = nI (lnP ma m a0) → (∀ j, j < lnP ma m a0 → bd (10 * t + j) = sgN ma m (a0 + j)) →
      ab_con X M_Mo_scored (0, 0) (hf pd sh tr ru qu to al (hm mt mp (nr, ny, nl, nt, nv, np, nf, nu, nh) (br, bk, bf, bs, bd, ba) mo mx z)) (fun q => ∃ mx' : gt_mx, q = (.inl (some (.int (nI (if b0 = true then (if nM (fun i => sgN ma m (a0 + i)) nt (lnP ma m a0) ln r c = 0 then 10 else 0) else (if 2 < nM (fun i => sgN ma m (a0 + i)) nt (lnP ma m a0) ln r c then 0 else 6 - 2 * nM (fun i => sgN ma m (a0 + i)) nt (lnP ma m a0) ln r c))))), (hf pd sh tr ru qu to al (hm mt mp (nr, ny, nl, nt, nv, np, nf, nu, nh) (br, bk, bf, bs, bd, ba) mo mx' z)))) →
      ab_W X M_Mo_scored (0, [(0, .ref 31), (1, .int (nI r)), (2, .int (nI t))], [], (hf pd sh tr ru qu to al (hm mt mp (nr, ny, nl, nt, nv, np, nf, nu, nh) (br, bk, bf, bs, bd, ba) mo mx z)), 0, 0) := by
    intro b0 hk0 hf0 hbd hC
    have hL := lnP_le ma m a0
    have hk3 : ¬ bk (nI t).toNatClampNeg = 3 := by rw [hcl, m1, hk0]; cases b0 <;> decide
    have hk2 : ¬ bk (nI t).toNatClampNeg = 2 := by rw [hcl, m1, hk0]; cases b0 <;> decide
    refine t_Mo_scored_0_9 hX hin hk3 hin hk2 ?_
    rw [e12]
    obtain ⟨N, hN⟩ : ∃ N, N = nM (fun i => sgN ma m (a0 + i)) nt (lnP ma m a0) ln r := ⟨_, rfl⟩
    rw [← hN] at hC
    have hN99 : ∀ i, N i ≤ 99 := fun i => by rw [hN]; exact nM_le ..
    have hlfK : lfK bd nt (fun i => bd (10 * t + i)) (nI t) := Or.inl ⟨t, ht, rfl, fun i _ => rfl⟩
    have hloop : ∀ (k i : Nat) (mx9 : gt_mx), i + k = c → ab_W X M_Mo_scored (161, [(0, .ref 31), (1, .int (nI r)), (2, .int (nI t)), (3, .int (nI (N i))), (4, .int (nI (12 * r + i)))], [], (hf pd sh tr ru qu to al (hm mt mp (nr, ny, nl, nt, nv, np, nf, nu, nh) (br, bk, bf, bs, bd, ba) mo mx9 z)), 0, 0) := by
      intro k
      induction k with
      | zero =>
        intro i mx9 hi
        have e : i = c := by omega
        subst e
        have hle : (12 : Int32) * nI r + ny (nI r).toNatClampNeg ≤ nI (12 * r + i) := by rw [hclr, hny, e12, nI_add]; exact nI_le (Nat.le_refl _) (by omega)
        have h99 := hN99 i
        cases b0 with
        | true =>
          rw [if_pos rfl] at hC
          have hk : bk (nI t).toNatClampNeg = 0 := by rw [hcl, m1, hk0]; rfl
          by_cases h0 : N i = 0
          · rw [if_pos h0] at hC
            exact t_Mo_scored_161_2 hX hinr hle hin hk (by rw [h0]; rfl) (r_Mo_scored_248 hX hC (by decide) ⟨mx9, rfl⟩)
          · rw [if_neg h0] at hC
            exact t_Mo_scored_161_3 hX hinr hle hin hk (nI_ne0 (by omega) (by omega)) (r_Mo_scored_248 hX hC (by decide) ⟨mx9, rfl⟩)
        | false =>
          rw [if_neg (by decide)] at hC
          have hk : ¬ bk (nI t).toNatClampNeg = 0 := by rw [hcl, m1, hk0]; decide
          by_cases h2 : 2 < N i
          · rw [if_pos h2] at hC
            exact t_Mo_scored_161_4 hX hinr hle hin hk (nI_ge (a := 2) h2 (by omega)) (r_Mo_scored_248 hX hC (by decide) ⟨mx9, rfl⟩)
          · rw [if_neg h2] at hC
            refine t_Mo_scored_161_5 hX hinr hle hin hk (nI_le (b := 2) (by omega) (by omega)) (r_Mo_scored_248 hX hC (by decide) ⟨mx9, ?_⟩)
            rw [show (2 : Int32) * nI (N i) = nI (2 * N i) from ab_mul2 2 _, show (6 : Int32) - nI (2 * N i) = nI (6 - 2 * N i) from pk_sub (a := 6) (by omega)]
      | succ k ih =>
        intro i mx9 hi
        have hlt : ¬ (12 : Int32) * nI r + ny (nI r).toNatClampNeg ≤ nI (12 * r + i) := by rw [hclr, hny, e12, nI_add]; exact nI_ge (by omega) (by omega)
        obtain ⟨l1, l2⟩ := hln i (by omega)
        have hd := dM_le (fun i => bd (10 * t + i)) nt (n := lnP ma m a0) (w := 12 * r + i) (lw := ln (12 * r + i)) hL l1
        have hdd : dM (fun i => bd (10 * t + i)) nt (lnP ma m a0) (12 * r + i) (ln (12 * r + i)) = dM (fun i => sgN ma m (a0 + i)) nt (lnP ma m a0) (12 * r + i) (ln (12 * r + i)) := by
          unfold dM
          refine gD_congrL (fun a b ha hb => ?_)
          exact cM_congr (hbd a ha)
        refine t_Mo_scored_161_1 hX hinr hlt hin ?_
        rw [hcl, m2, hf0]
        refine q_Mo_scored_187 hX (ab_conT hC) (k_Mo_distance hl2 hlfK (show 12 * r + i < 384 by omega) hL l1 l2) (by rw [hR]; decide) (fun v h' e => ?_) (fun E h' e => by obtain ⟨g, e⟩ := e; cases e)
        obtain ⟨g, e⟩ := e
        cases e
        rw [hdd] at hd ⊢
        have hs : N (i + 1) = min (dM (fun i => sgN ma m (a0 + i)) nt (lnP ma m a0) (12 * r + i) (ln (12 * r + i))) (N i) := by rw [hN]; rfl
        have h99 := hN99 i
        have h9 := ih (i + 1) g (by omega)
        rw [hs] at h9
        by_cases hlt2 : N i ≤ dM (fun i => sgN ma m (a0 + i)) nt (lnP ma m a0) (12 * r + i) (ln (12 * r + i))
        · rw [Nat.min_eq_right hlt2] at h9
          refine t_Mo_scored_190_2 hX (nI_le hlt2 (by omega)) (t_Mo_scored_204_1 hX ?_)
          rw [nI_1]
          exact h9
        · rw [Nat.min_eq_left (by omega)] at h9
          refine t_Mo_scored_190_1 hX (nI_ge (by omega) (by omega)) (t_Mo_scored_204_1 hX ?_)
          rw [nI_1]
          exact h9
    have h9 := hloop c 0 mx (by omega)
    rw [show N 0 = 99 by rw [hN]; rfl] at h9
    exact h9
  rcases ho with ⟨h, hf0⟩ | ⟨h, hf0⟩ | ⟨h, f, h4, hf0⟩ | h
  · change k0 = 0 at h
    subst h
    rw [if_pos (Or.inl rfl)] at m3
    rw [if_neg (by decide), if_neg (by decide), if_pos rfl] at hC
    exact hword true rfl hf0 m3 (by rw [if_pos rfl]; exact hC)
  · change k0 = 1 at h
    subst h
    rw [if_pos (Or.inr rfl)] at m3
    rw [if_neg (by decide), if_neg (by decide), if_neg (by decide)] at hC
    exact hword false rfl hf0 m3 (by rw [if_neg (show ¬ (false = true) by decide)]; exact hC)
  · change k0 = 2 at h
    change f0 = nI f at hf0
    subst h
    rw [if_neg (by decide)] at m3
    rw [if_neg (by decide), if_pos rfl, hf0, nI_clamp (show f < 2 ^ 31 by omega)] at hC
    have e4 : (4 : Int32) * nI r + bf (nI t).toNatClampNeg = nI (4 * r + f) := by rw [hcl, m2, hf0]; exact ab_lin2 4 r f
    have hin4 : vp_in ((4 : Int32) * nI r + bf (nI t).toNatClampNeg) 128 := by rw [e4]; exact vp_in_nI (by omega) (by omega)
    have hcl4 : ((4 : Int32) * nI r + bf (nI t).toNatClampNeg).toNatClampNeg = 4 * r + f := by rw [e4]; exact nI_clamp (by omega)
    have hk3 : ¬ bk (nI t).toNatClampNeg = 3 := by rw [hcl, m1]; decide
    have hk2 : bk (nI t).toNatClampNeg = 2 := by rw [hcl, m1]
    have hs : bs (nI t).toNatClampNeg = s0 := by rw [hcl, m3]
    unfold vM at hC
    by_cases h3 : nv (4 * r + f) = s0
    · rw [if_pos h3] at hC
      exact t_Mo_scored_0_6 hX hin hk3 hin hk2 hin hin4 hin (by rw [hcl4, hs]; exact h3) (r_Mo_scored_151 hX hC (by decide) ⟨mx, rfl⟩)
    · rw [if_neg h3] at hC
      by_cases h1 : nv (4 * r + f) = -1
      · rw [if_neg (fun q => q.1 h1)] at hC
        exact t_Mo_scored_0_8 hX hin hk3 hin hk2 hin hin4 hin (by rw [hcl4, hs]; exact h3) (by rw [hcl4]; exact h1) (t_Mo_scored_150_1 hX (r_Mo_scored_151 hX hC (by decide) ⟨mx, rfl⟩))
      · refine t_Mo_scored_0_7 hX hin hk3 hin hk2 hin hin4 hin (by rw [hcl4, hs]; exact h3) (by rw [hcl4]; exact h1) hin hin ?_
        rw [hcl4, hs, hcl, m2, hf0]
        refine q_Mo_scored_140 hX (ab_conT hC) (k_Mo_isIn (K := 16) hl2 h4 hq (hv _ (by omega)) (hch f h4 _ (hv _ (by omega)))) (by rw [hR]; decide) (fun v h' e => ?_) (fun E h' e => by first | (cases e; done) | (split at e <;> cases e))
        cases e
        cases hu : uN (pO np f) s0 17 (nv (4 * r + f)) with
        | true =>
          rw [if_pos ⟨h1, hu⟩] at hC
          exact t_Mo_scored_143_1 hX (by decide) (r_Mo_scored_151 hX hC (by decide) ⟨mx, rfl⟩)
        | false =>
          rw [if_neg (fun q => by rw [hu] at q; cases q.2)] at hC
          exact t_Mo_scored_143_2 hX rfl (t_Mo_scored_150_1 hX (r_Mo_scored_151 hX hC (by decide) ⟨mx, rfl⟩))
  · change k0 = 3 at h
    subst h
    rw [if_neg (by decide)] at m3
    rw [if_pos rfl] at hC
    have hk3 : bk (nI t).toNatClampNeg = 3 := by rw [hcl, m1]
    have hs : bs (nI t).toNatClampNeg = s0 := by rw [hcl, m3]
    have hff : bf (nI t).toNatClampNeg = f0 := by rw [hcl, m2]
    have hnf : nf (nI r).toNatClampNeg = nf r := by rw [hclr]
    have hnu : nu (nI r).toNatClampNeg = nu r := by rw [hclr]
    unfold yM at hC
    have hno : ab_con X M_Mo_scored (0, 0) (hf pd sh tr ru qu to al (hm mt mp (nr, ny, nl, nt, nv, np, nf, nu, nh) (br, bk, bf, bs, bd, ba) mo mx z)) (fun q => ∃ mx' : gt_mx, q = (.inl (some (.int (nI 0))), (hf pd sh tr ru qu to al (hm mt mp (nr, ny, nl, nt, nv, np, nf, nu, nh) (br, bk, bf, bs, bd, ba) mo mx' z)))) → ab_W X M_Mo_scored (69, [], [], (hf pd sh tr ru qu to al (hm mt mp (nr, ny, nl, nt, nv, np, nf, nu, nh) (br, bk, bf, bs, bd, ba) mo mx z)), 0, 0) := fun hC => t_Mo_scored_69_1 hX (t_Mo_scored_70_2 hX rfl (r_Mo_scored_80 hX hC (by decide) ⟨mx, rfl⟩))
    by_cases h1 : nf r = -1
    · rw [decide_eq_false (fun q => q h1), Bool.false_and, if_neg (by decide)] at hC
      exact t_Mo_scored_0_5 hX hin hk3 hinr (by rw [hnf]; exact h1) (hno hC)
    · rw [decide_eq_true h1, Bool.true_and] at hC
      by_cases h2 : s0 < f0
      · rw [decide_eq_false (fun q => q h2), Bool.false_and, if_neg (by decide)] at hC
        exact t_Mo_scored_0_4 hX hin hk3 hinr (by rw [hnf]; exact h1) hin hin (by rw [hs, hff]; exact h2) (hno hC)
      · rw [decide_eq_true h2, Bool.true_and] at hC
        by_cases h3 : s0 < nf r
        · rw [decide_eq_false (fun q => q h3), Bool.false_and, if_neg (by decide)] at hC
          exact t_Mo_scored_0_3 hX hin hk3 hinr (by rw [hnf]; exact h1) hin hin (by rw [hs, hff]; exact h2) hinr hin (by rw [hs, hnf]; exact h3) (hno hC)
        · rw [decide_eq_true h3, Bool.true_and] at hC
          by_cases h4 : nu r < f0
          · rw [decide_eq_false (fun q => q h4), if_neg (by decide)] at hC
            exact t_Mo_scored_0_2 hX hin hk3 hinr (by rw [hnf]; exact h1) hin hin (by rw [hs, hff]; exact h2) hinr hin (by rw [hs, hnf]; exact h3) hin hinr (by rw [hnu, hff]; exact h4) (hno hC)
          · rw [decide_eq_true h4, if_pos rfl] at hC
            exact t_Mo_scored_0_1 hX hin hk3 hinr (by rw [hnf]; exact h1) hin hin (by rw [hs, hff]; exact h2) hinr hin (by rw [hs, hnf]; exact h3) hin hinr (by rw [hnu, hff]; exact h4) (t_Mo_scored_70_1 hX (by decide) (r_Mo_scored_80 hX hC (by decide) ⟨mx, rfl⟩))
end M3
