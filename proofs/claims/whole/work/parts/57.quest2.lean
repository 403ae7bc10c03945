/-! CONTRACTS: a question is read -/
def qRes (pf : Nat → Int32) (n t : Nat) (q0 : gt_qu) (r : Bool × Nat × gTm) (H : gt_qu → List ab_C) : ab_Y → Prop := fun q =>
  ∃ q1 : gt_qu, q = (.inl (some (.int (bI r.1))), H q1) ∧ qPo t q0 q1 r.2.1 ∧ (r.1 = true → qTm pf n t q1 r.2.2)
theorem upd_ne {f : Nat → Int32} {k : Nat} {x : Int32} : ∀ j, j ≠ k → upd f k x j = f j := fun j h => pk_un h
section K9
variable {l : Launch} {sh : gt_sh} {tr : gt_tr} {ru : gt_ru} {to : gt_to} {al : gt_al} {z : List ab_C} {pf kd qf qs : Nat → Int32} {qw : Nat → Int64} {qz : Int32} {qu : gt_qu}
theorem k_Qu_readValue (hl : l.stackTraces = false) {n a t : Nat} (hn : n ≤ 60) (ha : a < n) (ht : t < 8) : ab_K l M_Qu_readValue (ab_r 2) (0, 0) [.ref 17, .int (nI t)] (hf (pf, nI n) sh tr ru (kd, qw, qf, qs, qz, nI a) to al z) (qRes pf n t (kd, qw, qf, qs, qz, nI a) (pV pf n a) (fun q1 => hf (pf, nI n) sh tr ru q1 to al z)) := by
  refine e_Qu_readValue hl (by decide) (fun X hl1 hR hX hC => ?_)
  have hl2 : (X.2.1).stackTraces = false := by rw [hl1]; exact hl
  have hin : vp_in (nI t) 8 := vp_in_nI ht (by omega)
  have hcl : (nI t).toNatClampNeg = t := nI_clamp (by omega)
  refine t_Qu_readValue_0_1 hX hin ?_
  rw [hcl]
  refine q_Qu_readValue_20 hX (ab_conT hC) (k_Pa_signN hl2 hn (by omega)) (by rw [hR]; decide) (fun v h' e => ?_) (fun E h' e => by cases e)
  cases e
  refine t_Qu_readValue_23_1 hX hin ?_
  rw [hcl, nI_1]
  refine q_Qu_readValue_40 hX (ab_conT hC) (k_Qu_take hl2 hn (by omega)) (by rw [hR]; decide) (fun v h' e => ?_) (fun E h' e => by rcases e with ⟨-, e⟩ | ⟨-, e⟩ <;> cases e)
  rcases e with ⟨he, e⟩ | ⟨he, e⟩
  · cases e
    have h2 : a + 1 < n := sgN_in (by rw [he]; decide)
    refine t_Qu_readValue_43_2 hX (by decide) (q_Qu_readValue_57 hX (ab_conT hC) (k_Qu_readNumber (D := 2) hl2 hn (by omega) (by omega)) (by rw [hR]; decide) (fun v h' e => ?_) (fun E h' e => by cases e))
    cases e
    unfold pV at hC
    rw [if_pos he] at hC
    rw [show a + 1 + 1 = a + 2 from rfl]
    by_cases hg : (nuS pf n 15 2 (-1) (a + 2)).1 = -1
    · rw [decide_eq_false (fun q => q hg)] at hC
      exact t_Qu_readValue_60_2 hX hin hin (by rw [hcl, pk_us]; exact hg) (r_Qu_readValue_76 hX hC (Or.inl rfl) (by decide) ⟨_, rfl, ⟨rfl, rfl, fun j hj => ⟨pk_un hj, rfl, pk_un hj, by rw [hcl]; exact pk_un hj⟩⟩, fun h => by cases h⟩)
    · rw [decide_eq_true hg] at hC
      exact t_Qu_readValue_60_1 hX hin hin (by rw [hcl, pk_us]; exact hg) (r_Qu_readValue_76 hX hC (Or.inr rfl) (by decide) ⟨_, rfl, ⟨rfl, rfl, fun j hj => ⟨pk_un hj, rfl, pk_un hj, by rw [hcl]; exact pk_un hj⟩⟩, fun _ => ⟨pk_us, by rw [if_neg (show ¬ ((2 : Int32) = 0 ∨ (2 : Int32) = 1) by decide)]; exact ⟨pk_us, by rw [hcl]; exact pk_us⟩⟩⟩)
  · cases e
    unfold pV at hC
    rw [if_neg he] at hC
    exact t_Qu_readValue_43_1 hX rfl (r_Qu_readValue_47 hX hC (Or.inl rfl) (by decide) ⟨_, rfl, ⟨rfl, rfl, fun j hj => ⟨pk_un hj, rfl, pk_un hj, rfl⟩⟩, fun h => by cases h⟩)
theorem k_Qu_readYears (hl : l.stackTraces = false) {n a t : Nat} (hn : n ≤ 60) (ha : a < n) (ht : t < 8) : ab_K l M_Qu_readYears (ab_r 2) (0, 0) [.ref 17, .int (nI t)] (hf (pf, nI n) sh tr ru (kd, qw, qf, qs, qz, nI a) to al z) (qRes pf n t (kd, qw, qf, qs, qz, nI a) (pY pf n a) (fun q1 => hf (pf, nI n) sh tr ru q1 to al z)) := by
  refine e_Qu_readYears hl (by decide) (fun X hl1 hR hX hC => ?_)
  have hl2 : (X.2.1).stackTraces = false := by rw [hl1]; exact hl
  have hin : vp_in (nI t) 8 := vp_in_nI ht (by omega)
  have hcl : (nI t).toNatClampNeg = t := nI_clamp (by omega)
  refine t_Qu_readYears_0_1 hX hin ?_
  rw [hcl, nI_1]
  refine q_Qu_readYears_27 hX (ab_conT hC) (k_Qu_readNumber (D := 4) hl2 hn (by omega) (by omega)) (by rw [hR]; decide) (fun v h' e => ?_) (fun E h' e => by cases e)
  cases e
  have hb := nuS_le (pf := pf) (n := n) (most := 9999) 4 (-1) (a + 1) (by omega)
  unfold pY at hC
  generalize nuS pf n 9999 4 (-1) (a + 1) = r at hb hC ⊢
  obtain ⟨f, a1⟩ := r
  dsimp only at hb hC ⊢
  unfold pY2 at hC
  by_cases hf : f = -1
  · rw [if_pos hf] at hC
    refine t_Qu_readYears_30_2 hX hin hin (by rw [hcl, pk_us]; exact hf) (t_Qu_readYears_50_1 hX (r_Qu_readYears_51 hX hC (Or.inl rfl) (by decide) ⟨_, rfl, ⟨rfl, rfl, fun j hj => ⟨pk_un hj, rfl, ?_, rfl⟩⟩, fun h => by cases h⟩))
    rw [hcl]
    exact pk_un hj
  · rw [if_neg hf] at hC
    refine t_Qu_readYears_30_1 hX hin hin (by rw [hcl, pk_us]; exact hf) ?_
    rw [hcl]
    refine q_Qu_readYears_44 hX (ab_conT hC) (k_Qu_take hl2 hn hb.2) (by rw [hR]; decide) (fun v h' e => ?_) (fun E h' e => by rcases e with ⟨-, e⟩ | ⟨-, e⟩ <;> cases e)
    rcases e with ⟨he, e⟩ | ⟨he, e⟩
    · cases e
      rw [if_pos he] at hC
      have h2 : a1 < n := sgN_in (by rw [he]; decide)
      refine t_Qu_readYears_47_2 hX (by decide) (q_Qu_readYears_62 hX (ab_conT hC) (k_Qu_readNumber (D := 4) hl2 hn (by omega) (by omega)) (by rw [hR]; decide) (fun v h' e => ?_) (fun E h' e => by cases e))
      cases e
      by_cases hg : (nuS pf n 9999 4 (-1) (a1 + 1)).1 = -1
      · rw [decide_eq_false (fun q => q hg)] at hC
        exact t_Qu_readYears_65_2 hX hin hin (by rw [hcl, pk_us]; exact hg) (r_Qu_readYears_81 hX hC (Or.inl rfl) (by decide) ⟨_, rfl, ⟨rfl, rfl, fun j hj => ⟨pk_un hj, rfl, pk_un hj, by rw [hcl]; exact pk_un hj⟩⟩, fun h => by cases h⟩)
      · rw [decide_eq_true hg] at hC
        exact t_Qu_readYears_65_1 hX hin hin (by rw [hcl, pk_us]; exact hg) (r_Qu_readYears_81 hX hC (Or.inr rfl) (by decide) ⟨_, rfl, ⟨rfl, rfl, fun j hj => ⟨pk_un hj, rfl, pk_un hj, by rw [hcl]; exact pk_un hj⟩⟩, fun _ => ⟨pk_us, by rw [if_neg (show ¬ ((3 : Int32) = 0 ∨ (3 : Int32) = 1) by decide)]; exact ⟨pk_us, by rw [hcl]; exact pk_us⟩⟩⟩)
    · cases e
      rw [if_neg he] at hC
      exact t_Qu_readYears_47_1 hX rfl (t_Qu_readYears_50_1 hX (r_Qu_readYears_51 hX hC (Or.inl rfl) (by decide) ⟨_, rfl, ⟨rfl, rfl, fun j hj => ⟨pk_un hj, rfl, pk_un hj, rfl⟩⟩, fun h => by cases h⟩))
theorem k_Qu_readWord (hl : l.stackTraces = false) {n a t : Nat} (hn : n ≤ 60) (ha : a < n) (ht : t < 8) : ab_K l M_Qu_readWord (ab_r 2) (0, 0) [.ref 17, .int (nI t)] (hf (pf, nI n) sh tr ru (kd, qw, qf, qs, qz, nI a) to al z) (qRes pf n t (kd, qw, qf, qs, qz, nI a) (pW pf n a) (fun q1 => hf (pf, nI n) sh tr ru q1 to al z)) := by
  refine e_Qu_readWord hl (by decide) (fun X hl1 hR hX hC => ?_)
  have hl2 : (X.2.1).stackTraces = false := by rw [hl1]; exact hl
  have hin : vp_in (nI t) 8 := vp_in_nI ht (by omega)
  have hcl : (nI t).toNatClampNeg = t := nI_clamp (by omega)
  have hW := isW_pad pf n a
  have hle := lnS_n (pf := pf) (n := n) (p := a) (by omega)
  refine t_Qu_readWord_0_1 hX (q_Qu_readWord_13 hX (ab_conT hC) (k_Pa_lettersFrom (n := n) (p := a) hl2 hn (by omega) rfl) (by rw [hR]; decide) (fun v h' e => ?_) (fun E h' e => by cases e))
  cases e
  refine t_Qu_readWord_16_1 hX hin hin ?_
  rw [hcl, pk_uLs]
  refine q_Qu_readWord_28 hX (ab_conT hC) (k_Wo_lengthOf hl2) (by rw [hR]; decide) (fun v h' e => ?_) (fun E h' e => by cases e)
  cases e
  rw [isW_len hW]
  unfold pW at hC
  by_cases h0 : lnP pf n a = 0
  · rw [if_pos h0] at hC
    refine t_Qu_readWord_31_1 hX hin (by rw [hcl, pk_uLs]; exact (lg_cmp_eq _ _).mpr ((isW_0 hW).mpr h0)) (r_Qu_readWord_47 hX hC (Or.inl rfl) (by decide) ⟨_, rfl, ⟨?_, rfl, fun j hj => ⟨rfl, pk_uLn hj, rfl, rfl⟩⟩, fun h => by cases h⟩)
    show nI a + nI (lnP pf n a) = nI a
    rw [h0, nI_add]
    rfl
  · rw [if_neg h0] at hC
    refine t_Qu_readWord_31_2 hX hin (by rw [hcl, pk_uLs]; exact fun q => h0 ((isW_0 hW).mp ((lg_cmp_eq _ _).mp q))) ?_
    rw [nI_add]
    refine q_Qu_readWord_56 hX (ab_conT hC) (k_Qu_take hl2 hn hle) (by rw [hR]; decide) (fun v h' e => ?_) (fun E h' e => by rcases e with ⟨-, e⟩ | ⟨-, e⟩ <;> cases e)
    rcases e with ⟨he, e⟩ | ⟨he, e⟩
    · cases e
      rw [if_pos he] at hC
      refine t_Qu_readWord_59_1 hX (by decide) (t_Qu_readWord_67_1 hX hin (r_Qu_readWord_69 hX hC (Or.inr rfl) (by decide) ⟨_, rfl, ⟨rfl, rfl, fun j hj => ⟨?_, pk_uLn hj, rfl, rfl⟩⟩, fun _ => ⟨?_, ?_⟩⟩))
      · rw [hcl]; exact pk_un hj
      · rw [hcl]; exact pk_us
      · rw [if_pos (Or.inr rfl)]
        exact pk_uLs
    · cases e
      rw [if_neg he] at hC
      refine t_Qu_readWord_59_2 hX rfl (t_Qu_readWord_67_1 hX hin (r_Qu_readWord_69 hX hC (Or.inr rfl) (by decide) ⟨_, rfl, ⟨rfl, rfl, fun j hj => ⟨?_, pk_uLn hj, rfl, rfl⟩⟩, fun _ => ⟨?_, ?_⟩⟩))
      · rw [hcl]; exact pk_un hj
      · rw [hcl]; exact pk_us
      · rw [if_pos (Or.inl rfl)]
        exact pk_uLs
theorem k_Qu_readTerm (hl : l.stackTraces = false) {n a t : Nat} (hn : n ≤ 60) (ha : a < n) (ht : t < 8) : ab_K l M_Qu_readTerm (ab_r 3) (0, 0) [.ref 17, .int (nI t)] (hf (pf, nI n) sh tr ru (kd, qw, qf, qs, qz, nI a) to al z) (qRes pf n t (kd, qw, qf, qs, qz, nI a) (pT pf n a) (fun q1 => hf (pf, nI n) sh tr ru q1 to al z)) := by
  refine e_Qu_readTerm hl (by decide) (fun X hl1 hR hX hC => ?_)
  have hl2 : (X.2.1).stackTraces = false := by rw [hl1]; exact hl
  refine t_Qu_readTerm_0_1 hX (q_Qu_readTerm_8 hX (ab_conT hC) (k_Pa_signN hl2 hn (by omega)) (by rw [hR]; decide) (fun v h' e => ?_) (fun E h' e => by cases e))
  cases e
  unfold pT at hC
  have hw : (pT pf n a = pW pf n a) → ab_con X M_Qu_readTerm (0, 0) (hf (pf, nI n) sh tr ru (kd, qw, qf, qs, qz, nI a) to al z) (qRes pf n t (kd, qw, qf, qs, qz, nI a) (pW pf n a) (fun q1 => hf (pf, nI n) sh tr ru q1 to al z)) → ab_W X M_Qu_readTerm (42, [(0, .ref 17), (1, .int (nI t))], [], hf (pf, nI n) sh tr ru (kd, qw, qf, qs, qz, nI a) to al z, 0, 0) := fun _ hC => by
    refine t_Qu_readTerm_42_1 hX (q_Qu_readTerm_44 hX (ab_conT hC) (k_Qu_readWord hl2 hn ha ht) (by rw [hR]; decide) (fun v h' e => ?_) (fun E h' e => by obtain ⟨q1, e, -⟩ := e; cases e))
    obtain ⟨q1, e, e1, e2⟩ := e
    cases e
    exact r_Qu_readTerm_47 hX hC (bI_01 _) (by decide) ⟨q1, rfl, e1, e2⟩
  by_cases h1 : sgN pf n a = 64
  · rw [if_pos h1] at hC
    refine t_Qu_readTerm_11_1 hX h1 (q_Qu_readTerm_20 hX (ab_conT hC) (k_Qu_readYears hl2 hn ha ht) (by rw [hR]; decide) (fun v h' e => ?_) (fun E h' e => by obtain ⟨q1, e, -⟩ := e; cases e))
    obtain ⟨q1, e, e1, e2⟩ := e
    cases e
    exact r_Qu_readTerm_23 hX hC (bI_01 _) (by decide) ⟨q1, rfl, e1, e2⟩
  · rw [if_neg h1] at hC
    by_cases h2 : sgN pf n a < 48
    · rw [if_pos h2] at hC
      exact t_Qu_readTerm_11_4 hX h1 h2 (hw (by unfold pT; rw [if_neg h1, if_pos h2]) hC)
    · rw [if_neg h2] at hC
      by_cases h3 : 52 ≤ sgN pf n a
      · rw [if_pos h3] at hC
        exact t_Qu_readTerm_11_3 hX h1 h2 h3 (hw (by unfold pT; rw [if_neg h1, if_neg h2, if_pos h3]) hC)
      · rw [if_neg h3] at hC
        refine t_Qu_readTerm_11_2 hX h1 h2 h3 (q_Qu_readTerm_38 hX (ab_conT hC) (k_Qu_readValue hl2 hn ha ht) (by rw [hR]; decide) (fun v h' e => ?_) (fun E h' e => by obtain ⟨q1, e, -⟩ := e; cases e))
        obtain ⟨q1, e, e1, e2⟩ := e
        cases e
        exact r_Qu_readTerm_41 hX hC (bI_01 _) (by decide) ⟨q1, rfl, e1, e2⟩
/-- the rows hold the terms of L -/
def qAll (pf : Nat → Int32) (n : Nat) (q : gt_qu) (L : List gTm) : Prop := ∀ t tm, L[t]? = some tm → qTm pf n t q tm
theorem qTm_keep {pf : Nat → Int32} {n t k : Nat} {q0 q1 : gt_qu} {tm : gTm} (h : qTm pf n t q0 tm) (hk : t ≠ k) (hp : ∀ j, j ≠ k → q1.1 j = q0.1 j ∧ q1.2.1 j = q0.2.1 j ∧ q1.2.2.1 j = q0.2.2.1 j ∧ q1.2.2.2.1 j = q0.2.2.2.1 j) : qTm pf n t q1 tm := by
  obtain ⟨h1, h2, h3, h4⟩ := hp t hk
  unfold qTm at h ⊢
  rw [h1, h2, h3, h4]
  exact h
def rdV (r : Option Nat × List gTm) : Int32 := match r.1 with
  | none => -1
  | some a => nI a
theorem k_Qu_read (hl : l.stackTraces = false) {n : Nat} (hn : n ≤ 60) : ab_K l M_Qu_read (ab_r 4) (0, 0) [.ref 17] (hf (pf, nI n) sh tr ru qu to al z)
    (fun q => ∃ q1 : gt_qu, q = (.inl (some (.int (rdV (rdS pf n 8 (skP pf n 0) [])))), hf (pf, nI n) sh tr ru q1 to al z) ∧ ((rdS pf n 8 (skP pf n 0) []).1 = none → q1.2.2.2.2.1 = nI (rdS pf n 8 (skP pf n 0) []).2.length ∧ qAll pf n q1 (rdS pf n 8 (skP pf n 0) []).2)) := by
  obtain ⟨kd, qw, qf, qs, qz, qa⟩ := qu
  refine e_Qu_read hl (by decide) (fun X hl1 hR hX hC => ?_)
  have hl2 : (X.2.1).stackTraces = false := by rw [hl1]; exact hl
  refine t_Qu_read_0_1 hX (q_Qu_read_11 hX (ab_conT hC) (k_Qu_skipSpaces (a := 0) hl2 hn (by omega)) (by rw [hR]; decide) (fun v h' e => ?_) (fun E h' e => by cases e))
  cases e
  obtain ⟨R9, hR9⟩ : ∃ R9, R9 = rdS pf n 8 (skP pf n 0) [] := ⟨_, rfl⟩
  rw [← hR9] at hC
  have hend : ∀ (a : Nat) (q1 : gt_qu) (L : List gTm), a ≤ n → q1.2.2.2.2.2 = nI a → q1.2.2.2.2.1 = nI L.length → qAll pf n q1 L → (if a < n then (some a, L) else (none, L)) = R9 → ab_W X M_Qu_read (77, [(0, .ref 17)], [], hf (pf, nI n) sh tr ru q1 to al z, 0, 0) := by
    intro a q1 L ha e1 e2 e3 hN
    obtain ⟨kd, qw, qf, qs, qz, qa⟩ := q1
    dsimp only at e1 e2
    subst e1
    by_cases h : a < n
    · rw [if_pos h] at hN
      subst hN
      exact t_Qu_read_77_1 hX (nI_ge h (by omega)) (r_Qu_read_99 hX hC (by decide) ⟨_, rfl, fun q => by cases q⟩)
    · rw [if_neg h] at hN
      subst hN
      exact t_Qu_read_77_2 hX (nI_le (by omega) (by omega)) (r_Qu_read_99 hX hC (by decide) ⟨_, rfl, fun q => ⟨e2, e3⟩⟩)
  have hloop : ∀ (k a : Nat) (q1 : gt_qu) (L : List gTm), L.length + k = 8 → a ≤ n → q1.2.2.2.2.2 = nI a → q1.2.2.2.2.1 = nI L.length → qAll pf n q1 L → rdS pf n k a L = R9 → ab_W X M_Qu_read (14, [(0, .ref 17)], [], hf (pf, nI n) sh tr ru q1 to al z, 0, 0) := by
    intro k
    induction k with
    | zero =>
      intro a q1 L hk ha e1 e2 e3 hN
      have hgo := hend a q1 L ha e1 e2 e3 hN
      obtain ⟨kd, qw, qf, qs, qz, qa⟩ := q1
      dsimp only at e1 e2
      exact t_Qu_read_14_3 hX (by rw [e2]; exact nI_le (a := 8) (by omega) (by omega)) hgo
    | succ k ih =>
      intro a q1 L hk ha e1 e2 e3 hN
      rw [rdS] at hN
      by_cases h : a < n
      · rw [if_pos h] at hN
        obtain ⟨kd, qw, qf, qs, qz, qa⟩ := q1
        dsimp only at e1 e2
        subst e1 e2
        have hpt := pT_le (pf := pf) h
        refine t_Qu_read_14_1 hX (nI_ge (b := 8) (by omega) (by omega)) (nI_ge h (by omega)) (q_Qu_read_42 hX (ab_conT hC) (k_Qu_readTerm hl2 hn h (by omega)) (by rw [hR]; decide) (fun v h' e => ?_) (fun E h' e => by obtain ⟨q1, e, -⟩ := e; cases e))
        obtain ⟨q2, e, ⟨g1, g2, g3⟩, g4⟩ := e
        cases e
        have hall : qAll pf n q2 L := fun t tm hq => qTm_keep (e3 t tm hq) (by have := (List.getElem?_eq_some_iff.mp hq).1; omega) g3
        obtain ⟨kd2, qw2, qf2, qs2, qz2, qa2⟩ := q2
        dsimp only at g1 g2
        subst g1 g2
        cases hp : (pT pf n a).1 with
        | false =>
          rw [hp, if_neg (by decide)] at hN
          subst hN
          exact t_Qu_read_45_2 hX rfl (t_Qu_read_55_1 hX (r_Qu_read_59 hX hC (by decide) ⟨_, rfl, fun q => by cases q⟩))
        | true =>
          rw [hp, if_pos rfl] at hN
          refine t_Qu_read_45_1 hX (by decide) (q_Qu_read_49 hX (ab_conT hC) (k_Qu_isBehindTerm hl2 hn hpt.2) (by rw [hR]; decide) (fun v h' e => ?_) (fun E h' e => by cases e))
          cases e
          cases hb : bhd pf n (pT pf n a).2.1 with
          | false =>
            rw [hb, if_neg (by decide)] at hN
            subst hN
            exact t_Qu_read_52_1 hX rfl (t_Qu_read_55_1 hX (r_Qu_read_59 hX hC (by decide) ⟨_, rfl, fun q => by cases q⟩))
          | true =>
            rw [hb, if_pos rfl] at hN
            refine t_Qu_read_52_2 hX (by decide) (q_Qu_read_71 hX (ab_conT hC) (k_Qu_skipSpaces hl2 hn hpt.2) (by rw [hR]; decide) (fun v h' e => ?_) (fun E h' e => by cases e))
            cases e
            refine t_Qu_read_74_1 hX (ih _ _ (L ++ [(pT pf n a).2.2]) (by rw [List.length_append]; show L.length + 1 + k = 8; omega) (skS_le _ _ hpt.2).2 rfl ?_ ?_ hN)
            · show nI L.length + 1 = nI (L ++ [(pT pf n a).2.2]).length
              rw [nI_1, List.length_append]
              rfl
            · intro t tm hq
              by_cases ht : t < L.length
              · rw [List.getElem?_append_left ht] at hq
                exact hall t tm hq
              · have hlt := (List.getElem?_eq_some_iff.mp hq).1
                rw [List.length_append] at hlt
                have hte : t = L.length := by
                  have : ([(pT pf n a).2.2] : List gTm).length = 1 := rfl
                  omega
                subst hte
                rw [List.getElem?_append_right (Nat.le_refl _), Nat.sub_self] at hq
                cases hq
                exact g4 hp
      · rw [if_neg h] at hN
        have hgo := hend a q1 L ha e1 e2 e3 (by rw [if_neg h]; exact hN)
        obtain ⟨kd, qw, qf, qs, qz, qa⟩ := q1
        dsimp only at e1 e2
        exact t_Qu_read_14_2 hX (by rw [e2]; exact nI_ge (b := 8) (by omega) (by omega)) (by rw [e1]; exact nI_le (by omega) (by omega)) hgo
  exact hloop 8 (skP pf n 0) (kd, qw, qf, qs, nI 0, nI (skP pf n 0)) [] rfl (skS_le _ _ (Nat.zero_le n)).2 rfl rfl (fun t tm hq => by cases hq) hR9.symm
end K9
