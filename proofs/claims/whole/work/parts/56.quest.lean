/-! HOW A QUESTION IS READ, by the pad alone -/
abbrev gTm : Type := Int32 × Nat × Int32 × Int32
def skS (pf : Nat → Int32) (n : Nat) : Nat → Nat → Nat
  | 0, a => a
  | k + 1, a => if sgN pf n a = 32 then skS pf n k (a + 1) else a
def skP (pf : Nat → Int32) (n a : Nat) : Nat := skS pf n (n - a) a
def nxV (v d : Int32) : Int32 := if v = -1 then d else v * 10 + d
def nuS (pf : Nat → Int32) (n : Nat) (most : Int32) : Nat → Int32 → Nat → Int32 × Nat
  | 0, v, a => (v, a)
  | k + 1, v, a => if sgN pf n a - 48 < 0 then (v, a) else if 9 < sgN pf n a - 48 then (v, a) else if nxV v (sgN pf n a - 48) ≤ most then nuS pf n most k (nxV v (sgN pf n a - 48)) (a + 1) else (v, a)
def pV (pf : Nat → Int32) (n a : Nat) : Bool × Nat × gTm :=
  if sgN pf n (a + 1) = 58 then (decide (¬ (nuS pf n 15 2 (-1) (a + 2)).1 = -1), (nuS pf n 15 2 (-1) (a + 2)).2, 2, a, sgN pf n a - 48, (nuS pf n 15 2 (-1) (a + 2)).1) else (false, a + 1, 2, a, 0, 0)
def pY2 (pf : Nat → Int32) (n a : Nat) (f : Int32) (a1 : Nat) : Bool × Nat × gTm :=
  if f = -1 then (false, a1, 3, a, 0, 0) else if sgN pf n a1 = 45 then (decide (¬ (nuS pf n 9999 4 (-1) (a1 + 1)).1 = -1), (nuS pf n 9999 4 (-1) (a1 + 1)).2, 3, a, f, (nuS pf n 9999 4 (-1) (a1 + 1)).1) else (false, a1, 3, a, 0, 0)
def pY (pf : Nat → Int32) (n a : Nat) : Bool × Nat × gTm := pY2 pf n a (nuS pf n 9999 4 (-1) (a + 1)).1 (nuS pf n 9999 4 (-1) (a + 1)).2
def pW (pf : Nat → Int32) (n a : Nat) : Bool × Nat × gTm :=
  if lnP pf n a = 0 then (false, a, 0, a, 0, 0) else if sgN pf n (a + lnP pf n a) = 126 then (true, a + lnP pf n a + 1, 1, a, nI (lnP pf n a), 0) else (true, a + lnP pf n a, 0, a, nI (lnP pf n a), 0)
def pT (pf : Nat → Int32) (n a : Nat) : Bool × Nat × gTm :=
  if sgN pf n a = 64 then pY pf n a else if sgN pf n a < 48 then pW pf n a else if 52 ≤ sgN pf n a then pW pf n a else pV pf n a
def bhd (pf : Nat → Int32) (n a : Nat) : Bool := decide (sgN pf n a = 32) || decide (sgN pf n a = 0)
def rdS (pf : Nat → Int32) (n : Nat) : Nat → Nat → List gTm → Option Nat × List gTm
  | 0, a, L => if a < n then (some a, L) else (none, L)
  | k + 1, a, L => if a < n then (if (pT pf n a).1 = true then (if bhd pf n (pT pf n a).2.1 = true then rdS pf n k (skP pf n (pT pf n a).2.1) (L ++ [(pT pf n a).2.2]) else (some (pT pf n a).2.1, L)) else (some (pT pf n a).2.1, L)) else (none, L)
theorem sgN_ge {pf : Nat → Int32} {n a : Nat} (h : n ≤ a) : sgN pf n a = 0 := if_neg (by omega)
theorem sgN_in {pf : Nat → Int32} {n a : Nat} (h : ¬ sgN pf n a = 0) : a < n := Decidable.byContradiction (fun q => h (sgN_ge (by omega)))
theorem skS_le {pf : Nat → Int32} {n : Nat} : ∀ k a, a ≤ n → a ≤ skS pf n k a ∧ skS pf n k a ≤ n
  | 0, a, h => ⟨Nat.le_refl _, h⟩
  | k + 1, a, h => by
    unfold skS
    split
    · rename_i e
      have h1 : a < n := sgN_in (by rw [e]; decide)
      have := skS_le (pf := pf) (n := n) k (a + 1) (by omega)
      omega
    · omega
theorem nuS_le {pf : Nat → Int32} {n : Nat} {most : Int32} : ∀ k v a, a ≤ n → a ≤ (nuS pf n most k v a).2 ∧ (nuS pf n most k v a).2 ≤ n
  | 0, v, a, h => ⟨Nat.le_refl _, h⟩
  | k + 1, v, a, h => by
    unfold nuS
    split
    · exact ⟨Nat.le_refl _, h⟩
    · rename_i e
      have h1 : a < n := sgN_in (fun q => e (by rw [q]; decide))
      split
      · exact ⟨Nat.le_refl _, h⟩
      · split
        · have := nuS_le (pf := pf) (n := n) (most := most) k (nxV v (sgN pf n a - 48)) (a + 1) (by omega)
          omega
        · exact ⟨Nat.le_refl _, h⟩
theorem lnS_n {pf : Nat → Int32} {n p : Nat} (hp : p ≤ n) : p + lnP pf n p ≤ n := by
  by_cases h : lnP pf n p = 0
  · omega
  · have h1 := lnS_lt pf n p 10 0 (lnP pf n p - 1) (Nat.zero_le _) (by unfold lnP at h ⊢; omega)
    have h2 : p + (lnP pf n p - 1) < n := sgN_in (fun q => by rw [q] at h1; revert h1; decide)
    omega
theorem pT_le {pf : Nat → Int32} {n a : Nat} (ha : a < n) : a ≤ (pT pf n a).2.1 ∧ (pT pf n a).2.1 ≤ n := by
  have hW : a ≤ (pW pf n a).2.1 ∧ (pW pf n a).2.1 ≤ n := by
    have h1 := lnS_n (pf := pf) (n := n) (p := a) (by omega)
    unfold pW
    split
    · exact ⟨Nat.le_refl _, by show a ≤ n; omega⟩
    · split
      · rename_i e
        have h2 : a + lnP pf n a < n := sgN_in (by rw [e]; decide)
        exact ⟨by show a ≤ a + lnP pf n a + 1; omega, by show a + lnP pf n a + 1 ≤ n; omega⟩
      · exact ⟨by show a ≤ a + lnP pf n a; omega, h1⟩
  unfold pT
  split
  · unfold pY pY2
    have h1 := nuS_le (pf := pf) (n := n) (most := 9999) 4 (-1) (a + 1) (by omega)
    split
    · exact ⟨by show a ≤ (nuS pf n 9999 4 (-1) (a + 1)).2; omega, h1.2⟩
    · split
      · rename_i e
        have h2 : (nuS pf n 9999 4 (-1) (a + 1)).2 < n := sgN_in (by rw [e]; decide)
        have h3 := nuS_le (pf := pf) (n := n) (most := 9999) 4 (-1) ((nuS pf n 9999 4 (-1) (a + 1)).2 + 1) (by omega)
        exact ⟨by show a ≤ (nuS pf n 9999 4 (-1) ((nuS pf n 9999 4 (-1) (a + 1)).2 + 1)).2; omega, h3.2⟩
      · exact ⟨by show a ≤ (nuS pf n 9999 4 (-1) (a + 1)).2; omega, h1.2⟩
  · split
    · exact hW
    · split
      · exact hW
      · unfold pV
        split
        · rename_i e
          have h2 : a + 1 < n := sgN_in (by rw [e]; decide)
          have h3 := nuS_le (pf := pf) (n := n) (most := 15) 2 (-1) (a + 2) (by omega)
          exact ⟨by show a ≤ (nuS pf n 15 2 (-1) (a + 2)).2; omega, h3.2⟩
        · exact ⟨Nat.le_succ a, ha⟩
/-- the question's rows at t hold the term -/
def tmQ (pf : Nat → Int32) (n : Nat) (tm : gTm) (kd : Int32) (w : Int64) (f s : Int32) : Prop :=
  kd = tm.1 ∧ (if tm.1 = 0 ∨ tm.1 = 1 then w = lfW pf n tm.2.1 10 0 0 else f = tm.2.2.1 ∧ s = tm.2.2.2)
/-- q1 is q0 but for the rows at t, and the place -/
def qPo (t : Nat) (q0 q1 : gt_qu) (a : Nat) : Prop :=
  q1.2.2.2.2.2 = nI a ∧ q1.2.2.2.2.1 = q0.2.2.2.2.1 ∧ ∀ j, j ≠ t → q1.1 j = q0.1 j ∧ q1.2.1 j = q0.2.1 j ∧ q1.2.2.1 j = q0.2.2.1 j ∧ q1.2.2.2.1 j = q0.2.2.2.1 j
def qTm (pf : Nat → Int32) (n t : Nat) (q1 : gt_qu) (tm : gTm) : Prop := tmQ pf n tm (q1.1 t) (q1.2.1 t) (q1.2.2.1 t) (q1.2.2.2.1 t)
section K8
variable {l : Launch} {sh : gt_sh} {tr : gt_tr} {ru : gt_ru} {to : gt_to} {al : gt_al} {z : List ab_C} {pf kd qf qs : Nat → Int32} {qw : Nat → Int64} {qz : Int32} {qu : gt_qu}
theorem k_Pa_signN (hl : l.stackTraces = false) {n a : Nat} (hn : n ≤ 60) (ha : a < 2 ^ 31) : ab_K l M_Pa_signAt (ab_r 0) (0, 0) [.ref 2, .int (nI a)] (hf (pf, nI n) sh tr ru qu to al z) (fun q => q = (.inl (some (.int (sgN pf n a))), hf (pf, nI n) sh tr ru qu to al z)) := by
  have h := k_Pa_signAt (l := l) (pf := pf) (pn := nI n) (sh := sh) (tr := tr) (ru := ru) (qu := qu) (to := to) (al := al) (z := z) hl (x := nI a) (nI_le (b := 60) hn (by omega))
  rw [sgA_N (by omega) ha] at h
  exact h
theorem k_Qu_isBehindTerm (hl : l.stackTraces = false) {n a : Nat} (hn : n ≤ 60) (ha : a ≤ n) : ab_K l M_Qu_isBehindTerm (ab_r 1) (0, 0) [.ref 17] (hf (pf, nI n) sh tr ru (kd, qw, qf, qs, qz, nI a) to al z) (fun q => q = (.inl (some (.int (bI (bhd pf n a)))), hf (pf, nI n) sh tr ru (kd, qw, qf, qs, qz, nI a) to al z)) := by
  refine e_Qu_isBehindTerm hl (by decide) (fun X hl1 hR hX hC => ?_)
  have hl2 : (X.2.1).stackTraces = false := by rw [hl1]; exact hl
  refine t_Qu_isBehindTerm_0_1 hX (q_Qu_isBehindTerm_8 hX (ab_conT hC) (k_Pa_signN hl2 hn (by omega)) (by rw [hR]; decide) (fun v h' e => ?_) (fun E h' e => by cases e))
  cases e
  by_cases h1 : sgN pf n a = 32
  · exact t_Qu_isBehindTerm_11_3 hX h1 (t_Qu_isBehindTerm_22_1 hX (r_Qu_isBehindTerm_27 hX hC (Or.inr rfl) (by decide) (by simp [bhd, h1, bI])))
  · by_cases h2 : sgN pf n a = 0
    · exact t_Qu_isBehindTerm_11_1 hX h1 h2 (t_Qu_isBehindTerm_22_1 hX (r_Qu_isBehindTerm_27 hX hC (Or.inr rfl) (by decide) (by simp [bhd, h2, bI])))
    · exact t_Qu_isBehindTerm_11_2 hX h1 h2 (r_Qu_isBehindTerm_27 hX hC (Or.inl rfl) (by decide) (by simp [bhd, h1, h2, bI]))
theorem k_Qu_take (hl : l.stackTraces = false) {n a : Nat} {s : Int32} (hn : n ≤ 60) (ha : a ≤ n) : ab_K l M_Qu_take (ab_r 1) (0, 0) [.ref 17, .int s] (hf (pf, nI n) sh tr ru (kd, qw, qf, qs, qz, nI a) to al z) (fun q => (sgN pf n a = s ∧ q = (.inl (some (.int 1)), hf (pf, nI n) sh tr ru (kd, qw, qf, qs, qz, nI (a + 1)) to al z)) ∨ (¬ sgN pf n a = s ∧ q = (.inl (some (.int 0)), hf (pf, nI n) sh tr ru (kd, qw, qf, qs, qz, nI a) to al z))) := by
  refine e_Qu_take hl (by decide) (fun X hl1 hR hX hC => ?_)
  have hl2 : (X.2.1).stackTraces = false := by rw [hl1]; exact hl
  refine t_Qu_take_0_1 hX (q_Qu_take_8 hX (ab_conT hC) (k_Pa_signN hl2 hn (by omega)) (by rw [hR]; decide) (fun v h' e => ?_) (fun E h' e => by cases e))
  cases e
  by_cases h : sgN pf n a = s
  · refine t_Qu_take_11_2 hX h (r_Qu_take_28 hX hC (Or.inr rfl) (by decide) (Or.inl ⟨h, ?_⟩))
    rw [nI_1]
  · exact t_Qu_take_11_1 hX h (r_Qu_take_16 hX hC (Or.inl rfl) (by decide) (Or.inr ⟨h, rfl⟩))
theorem k_Qu_skipSpaces (hl : l.stackTraces = false) {n a : Nat} (hn : n ≤ 60) (ha : a ≤ n) : ab_K l M_Qu_skipSpaces (ab_r 1) (0, 0) [.ref 17] (hf (pf, nI n) sh tr ru (kd, qw, qf, qs, qz, nI a) to al z) (fun q => q = (.inl none, hf (pf, nI n) sh tr ru (kd, qw, qf, qs, qz, nI (skP pf n a)) to al z)) := by
  refine e_Qu_skipSpaces hl (by decide) (fun X hl1 hR hX hC => ?_)
  have hl2 : (X.2.1).stackTraces = false := by rw [hl1]; exact hl
  have hloop : ∀ k b : Nat, b + (k + 1) = n → skS pf n (k + 1) b = skP pf n a → ab_W X M_Qu_skipSpaces (22, [(0, .ref 17)], [.int (nI b), .ref 2], hf (pf, nI n) sh tr ru (kd, qw, qf, qs, qz, nI b) to al z, 0, 0) := by
    intro k
    induction k with
    | zero =>
      intro b hb hN
      refine q_Qu_skipSpaces_22 hX (ab_conT hC) (k_Pa_signN hl2 hn (by omega)) (by rw [hR]; decide) (fun v h' e => ?_) (fun E h' e => by cases e)
      cases e
      unfold skS at hN
      by_cases h : sgN pf n b = 32
      · rw [if_pos h] at hN
        refine t_Qu_skipSpaces_25_2 hX h (by rw [nI_1]; exact nI_le (by omega) (by omega)) (r_Qu_skipSpaces_43 hX hC (by decide) ?_)
        rw [← hN, nI_1]
        rfl
      · rw [if_neg h] at hN
        refine t_Qu_skipSpaces_25_3 hX h (r_Qu_skipSpaces_43 hX hC (by decide) ?_)
        rw [← hN]
    | succ k ih =>
      intro b hb hN
      refine q_Qu_skipSpaces_22 hX (ab_conT hC) (k_Pa_signN hl2 hn (by omega)) (by rw [hR]; decide) (fun v h' e => ?_) (fun E h' e => by cases e)
      cases e
      rw [skS] at hN
      by_cases h : sgN pf n b = 32
      · rw [if_pos h] at hN
        refine t_Qu_skipSpaces_25_1 hX h (by rw [nI_1]; exact nI_ge (by omega) (by omega)) ?_
        rw [nI_1]
        exact ih (b + 1) (by omega) hN
      · rw [if_neg h] at hN
        refine t_Qu_skipSpaces_25_3 hX h (r_Qu_skipSpaces_43 hX hC (by decide) ?_)
        rw [← hN]
  by_cases h : a < n
  · refine t_Qu_skipSpaces_0_1 hX (nI_ge h (by omega)) (hloop (n - a - 1) a (by omega) ?_)
    unfold skP
    rw [show n - a - 1 + 1 = n - a by omega]
  · refine t_Qu_skipSpaces_0_2 hX (nI_le (by omega) (by omega)) (r_Qu_skipSpaces_43 hX hC (by decide) ?_)
    unfold skP
    rw [show n - a = 0 by omega]
    rfl
theorem k_Qu_readNumber (hl : l.stackTraces = false) {n a D : Nat} {most : Int32} (hn : n ≤ 60) (ha : a ≤ n) (hD : D ≤ 4) : ab_K l M_Qu_readNumber (ab_r 1) (0, 0) [.ref 17, .int (nI D), .int most] (hf (pf, nI n) sh tr ru (kd, qw, qf, qs, qz, nI a) to al z) (fun q => q = (.inl (some (.int (nuS pf n most D (-1) a).1)), hf (pf, nI n) sh tr ru (kd, qw, qf, qs, qz, nI (nuS pf n most D (-1) a).2) to al z)) := by
  refine e_Qu_readNumber hl (by decide) (fun X hl1 hR hX hC => ?_)
  have hl2 : (X.2.1).stackTraces = false := by rw [hl1]; exact hl
  refine t_Qu_readNumber_0_1 hX ?_
  obtain ⟨R9, hR9⟩ : ∃ R9, R9 = nuS pf n most D (-1) a := ⟨_, rfl⟩
  rw [← hR9] at hC
  have hloop : ∀ (k i : Nat) (v : Int32) (b : Nat), i + k = D → b ≤ n → nuS pf n most k v b = R9 → ab_W X M_Qu_readNumber (5, [(0, .ref 17), (1, .int (nI D)), (2, .int most), (3, .int v), (4, .int (nI i))], [], hf (pf, nI n) sh tr ru (kd, qw, qf, qs, qz, nI b) to al z, 0, 0) := by
    intro k
    induction k with
    | zero =>
      intro i v b hi hb hN
      refine t_Qu_readNumber_5_2 hX (nI_le (by omega) (by omega)) (r_Qu_readNumber_86 hX hC (by decide) ?_)
      rw [← hN]
      rfl
    | succ k ih =>
      intro i v b hi hb hN
      refine t_Qu_readNumber_5_1 hX (nI_ge (by omega) (by omega)) (q_Qu_readNumber_19 hX (ab_conT hC) (k_Pa_signN hl2 hn (by omega)) (by rw [hR]; decide) (fun v h' e => ?_) (fun E h' e => by cases e))
      cases e
      rw [nuS] at hN
      have hgo : ab_W X M_Qu_readNumber (44, [(0, .ref 17), (1, .int (nI D)), (2, .int most), (3, .int v), (4, .int (nI i)), (5, .int (sgN pf n b - 48))], [.int (nxV v (sgN pf n b - 48))], hf (pf, nI n) sh tr ru (kd, qw, qf, qs, qz, nI b) to al z, 0, 0) := by
        by_cases h1 : sgN pf n b - 48 < 0
        · rw [if_pos h1] at hN
          refine t_Qu_readNumber_44_4 hX h1 (t_Qu_readNumber_64_1 hX (r_Qu_readNumber_65 hX hC (by decide) ?_))
          rw [← hN]
        · rw [if_neg h1] at hN
          by_cases h2 : 9 < sgN pf n b - 48
          · rw [if_pos h2] at hN
            refine t_Qu_readNumber_44_3 hX h1 h2 (t_Qu_readNumber_64_1 hX (r_Qu_readNumber_65 hX hC (by decide) ?_))
            rw [← hN]
          · rw [if_neg h2] at hN
            by_cases h3 : nxV v (sgN pf n b - 48) ≤ most
            · rw [if_pos h3] at hN
              have hbn : b < n := sgN_in (fun q => h1 (by rw [q]; decide))
              refine t_Qu_readNumber_44_2 hX h1 h2 h3 ?_
              rw [nI_1, nI_1]
              exact ih (i + 1) _ (b + 1) (by omega) (by omega) hN
            · rw [if_neg h3] at hN
              refine t_Qu_readNumber_44_1 hX h1 h2 h3 (t_Qu_readNumber_64_1 hX (r_Qu_readNumber_65 hX hC (by decide) ?_))
              rw [← hN]
      unfold nxV at hgo
      by_cases hv : v = -1
      · rw [if_pos hv] at hgo
        exact t_Qu_readNumber_22_1 hX hv hgo
      · rw [if_neg hv] at hgo
        exact t_Qu_readNumber_22_2 hX hv hgo
  exact hloop D 0 (-1) a (by omega) ha hR9.symm
end K8
