/-! CONTRACTS: the Pad's signs -/
def byt (x : Int32) (k : Nat) : Int32 := (x >>> (nI (8 * k) &&& 31)) &&& 255
def cnt4 (x : Int32) : Nat → Nat
  | 0 => 0
  | k + 1 => cnt4 x k + (if byt x k = 0 then 0 else 1)
def lowS (s : Int32) : Int32 := if s < 65 then s else if 90 < s then s else s - 65 + 97
/-- the first k signs of x, put behind what stands in p -/
def apS (x : Int32) (p : (Nat → Int32) × Nat) : Nat → (Nat → Int32) × Nat
  | 0 => p
  | k + 1 => if byt x k = 0 then apS x p k else (upd (apS x p k).1 (apS x p k).2 (lowS (byt x k)), (apS x p k).2 + 1)
theorem cnt4_le (x : Int32) : ∀ k, cnt4 x k ≤ k
  | 0 => Nat.le_refl _
  | k + 1 => by
    have := cnt4_le x k
    unfold cnt4
    split <;> omega
theorem cnt4_mono (x : Int32) {i k : Nat} (h : i ≤ k) : cnt4 x i ≤ cnt4 x k := by
  induction h with
  | refl => exact Nat.le_refl _
  | step _ ih => exact Nat.le_trans ih (Nat.le_add_right _ _)
theorem apS_n (x : Int32) (p : (Nat → Int32) × Nat) : ∀ k, (apS x p k).2 = p.2 + cnt4 x k
  | 0 => rfl
  | k + 1 => by
    have := apS_n x p k
    unfold apS cnt4
    split
    · omega
    · show (apS x p k).2 + 1 = _
      omega
def sgN (pf : Nat → Int32) (n j : Nat) : Int32 := if j < n then pf j else 0
theorem sgA_N {pf : Nat → Int32} {n j : Nat} (hn : n < 2 ^ 31) (hj : j < 2 ^ 31) : sgA pf (nI n) (nI j) = sgN pf n j := by
  unfold sgA sgN
  rw [if_neg (nI_pos hj)]
  by_cases h : j < n
  · rw [if_neg (nI_ge h hn), if_pos h, nI_clamp hj]
  · rw [if_pos (nI_le (by omega) hj), if_neg h]
def isLt (s : Int32) : Bool := decide (¬ s < 97) && decide (s ≤ 122)
/-- the letters from p on, at most k more, as a word -/
def lfW (pf : Nat → Int32) (n p : Nat) : Nat → Nat → Int64 → Int64
  | 0, _, w => w
  | k + 1, i, w => if isLt (sgN pf n (p + i)) = true then lfW pf n p k (i + 1) (wL w (nI i) (sgN pf n (p + i))) else w
section K6
variable {l : Launch} {pd : gt_pd} {sh : gt_sh} {tr : gt_tr} {ru : gt_ru} {qu : gt_qu} {to : gt_to} {al : gt_al} {z : List ab_C} {pf : Nat → Int32} {pn : Int32}
theorem k_Pa_signsIn (hl : l.stackTraces = false) {x : Int32} : ab_K l M_Pa_signsIn (ab_r 0) (0, 0) [.int x] (hf pd sh tr ru qu to al z) (fun q => q = (.inl (some (.int (nI (cnt4 x 4)))), hf pd sh tr ru qu to al z)) := by
  refine e_Pa_signsIn hl (by decide) (fun X hl1 hR hX hC => ?_)
  refine t_Pa_signsIn_0_1 hX ?_
  have hloop : ∀ k i : Nat, i + k = 4 → ab_W X M_Pa_signsIn (4, [(0, .int x), (1, .int (nI (cnt4 x i))), (2, .int (nI (8 * i)))], [], hf pd sh tr ru qu to al z, 0, 0) := by
    intro k
    induction k with
    | zero =>
      intro i hi
      have h4 : i = 4 := by omega
      subst h4
      exact t_Pa_signsIn_4_3 hX (nI_le (a := 32) (by omega) (by omega)) (r_Pa_signsIn_30 hX hC (by decide) rfl)
    | succ k ih =>
      intro i hi
      have e8 : nI (8 * i) + 8 = nI (8 * (i + 1)) := nI_add (8 * i) 8
      have h9 := ih (i + 1) (by omega)
      have h32 : ¬ (32 : Int32) ≤ nI (8 * i) := nI_ge (b := 32) (by omega) (by omega)
      by_cases h : byt x i = 0
      · refine t_Pa_signsIn_4_2 hX h32 h (t_Pa_signsIn_23_1 hX ?_)
        rw [e8]
        rw [cnt4, if_pos h] at h9
        exact h9
      · refine t_Pa_signsIn_4_1 hX h32 h (t_Pa_signsIn_23_1 hX ?_)
        rw [e8, nI_1]
        rw [cnt4, if_neg h] at h9
        exact h9
  exact hloop 4 0 rfl
theorem k_Pa_append (hl : l.stackTraces = false) {x : Int32} {n : Nat} (hn : n + cnt4 x 4 ≤ 60) (hp : pn = nI n) : ab_K l M_Pa_append (ab_r 0) (0, 0) [.ref 2, .int x] (hf (pf, pn) sh tr ru qu to al z) (fun q => q = (.inl none, hf ((apS x (pf, n) 4).1, nI (n + cnt4 x 4)) sh tr ru qu to al z)) := by
  refine e_Pa_append hl (by decide) (fun X hl1 hR hX hC => ?_)
  refine t_Pa_append_0_1 hX ?_
  have hloop : ∀ k i : Nat, i + k = 4 → ab_W X M_Pa_append (2, [(0, .ref 2), (1, .int x), (2, .int (nI (8 * i)))], [], hf ((apS x (pf, n) i).1, nI (n + cnt4 x i)) sh tr ru qu to al z, 0, 0) := by
    intro k
    induction k with
    | zero =>
      intro i hi
      have h4 : i = 4 := by omega
      subst h4
      exact t_Pa_append_2_6 hX (nI_le (a := 32) (by omega) (by omega)) (r_Pa_append_77 hX hC (by decide) rfl)
    | succ k ih =>
      intro i hi
      have e8 : nI (8 * i) + 8 = nI (8 * (i + 1)) := nI_add (8 * i) 8
      have h9 := ih (i + 1) (by omega)
      have h32 : ¬ (32 : Int32) ≤ nI (8 * i) := nI_ge (b := 32) (by omega) (by omega)
      have hm := cnt4_mono x (show i + 1 ≤ 4 by omega)
      by_cases h : byt x i = 0
      · refine t_Pa_append_2_5 hX h32 h (t_Pa_append_71_1 hX ?_)
        rw [e8]
        rw [apS, cnt4, if_pos h, if_pos h] at h9
        exact h9
      · have hc : cnt4 x (i + 1) = cnt4 x i + 1 := by rw [cnt4, if_neg h]
        have h60 : ¬ (60 : Int32) ≤ nI (n + cnt4 x i) := nI_ge (b := 60) (by omega) (by omega)
        have hin : vp_in (nI (n + cnt4 x i)) 60 := vp_in_nI (by omega) (by omega)
        have hcl : (nI (n + cnt4 x i)).toNatClampNeg = (apS x (pf, n) i).2 := by rw [nI_clamp (by omega), apS_n]
        have hgo : ab_W X M_Pa_append (60, [(0, .ref 2), (1, .int x), (2, .int (nI (8 * i)))], [.int (lowS (byt x i)), .int (nI (n + cnt4 x i)), .ref 3], hf ((apS x (pf, n) i).1, nI (n + cnt4 x i)) sh tr ru qu to al z, 0, 0) := by
          refine t_Pa_append_60_1 hX hin (t_Pa_append_71_1 hX ?_)
          rw [e8, hcl, nI_1]
          rw [hc, apS, if_neg h] at h9
          exact h9
        unfold lowS at hgo
        by_cases h1 : byt x i < 65
        · rw [if_pos h1] at hgo
          exact t_Pa_append_2_3 hX h32 h h60 h1 (t_Pa_append_59_1 hX hgo)
        · rw [if_neg h1] at hgo
          by_cases h2 : 90 < byt x i
          · rw [if_pos h2] at hgo
            exact t_Pa_append_2_2 hX h32 h h60 h1 h2 (t_Pa_append_59_1 hX hgo)
          · rw [if_neg h2] at hgo
            exact t_Pa_append_2_1 hX h32 h h60 h1 h2 hgo
  have h0 := hloop 4 0 rfl
  subst hp
  exact h0
theorem k_Pa_lettersFrom (hl : l.stackTraces = false) {n p : Nat} (hn : n ≤ 60) (hpp : p ≤ 60) (hp : pn = nI n) : ab_K l M_Pa_lettersFrom (ab_r 1) (0, 0) [.ref 2, .int (nI p)] (hf (pf, pn) sh tr ru qu to al z) (fun q => q = (.inl (some (.long (lfW pf n p 10 0 0))), hf (pf, pn) sh tr ru qu to al z)) := by
  refine e_Pa_lettersFrom hl (by decide) (fun X hl1 hR hX hC => ?_)
  have hl2 : (X.2.1).stackTraces = false := by rw [hl1]; exact hl
  refine t_Pa_lettersFrom_0_1 hX ?_
  obtain ⟨R9, hR9⟩ : ∃ R9, R9 = lfW pf n p 10 0 0 := ⟨_, rfl⟩
  rw [← hR9] at hC
  have hloop : ∀ (k i : Nat) (w : Int64), i + k = 10 → lfW pf n p k i w = R9 → ab_W X M_Pa_lettersFrom (5, [(0, .ref 2), (1, .int (nI p)), (2, .long w), (4, .int (nI i))], [], hf (pf, pn) sh tr ru qu to al z, 0, 0) := by
    intro k
    induction k with
    | zero =>
      intro i w hi hN
      refine t_Pa_lettersFrom_5_2 hX (nI_le (a := 10) (by omega) (by omega)) (r_Pa_lettersFrom_54 hX hC (by decide) ?_)
      rw [← hN]; rfl
    | succ k ih =>
      intro i w hi hN
      refine t_Pa_lettersFrom_5_1 hX (nI_ge (b := 10) (by omega) (by omega)) (q_Pa_lettersFrom_17 hX (ab_conT hC) (k_Pa_signAt hl2 (by rw [hp]; exact nI_le (b := 60) hn (by omega))) (by rw [hR]; decide) (fun v h' e => ?_) (fun E h' e => by cases e))
      cases e
      rw [hp, nI_add, sgA_N (by omega) (by omega)]
      unfold lfW at hN
      by_cases h1 : sgN pf n (p + i) < 97
      · rw [if_neg (by simp [isLt, h1])] at hN
        refine t_Pa_lettersFrom_20_3 hX h1 (t_Pa_lettersFrom_36_1 hX (r_Pa_lettersFrom_37 hX hC (by decide) ?_))
        rw [← hN, hp]
      · by_cases h2 : sgN pf n (p + i) ≤ 122
        · rw [if_pos (by simp [isLt, h1, h2])] at hN
          refine t_Pa_lettersFrom_20_2 hX h1 h2 (q_Pa_lettersFrom_43 hX (ab_conT hC) (k_Wo_withLetter hl2) (by rw [hR]; decide) (fun v h' e => ?_) (fun E h' e => by cases e))
          cases e
          refine t_Pa_lettersFrom_46_1 hX ?_
          rw [nI_1, ← hp]
          exact ih (i + 1) _ (by omega) hN
        · rw [if_neg (by simp [isLt, h2])] at hN
          refine t_Pa_lettersFrom_20_1 hX h1 h2 (t_Pa_lettersFrom_36_1 hX (r_Pa_lettersFrom_37 hX hC (by decide) ?_))
          rw [← hN, hp]
  exact hloop 10 0 0 rfl hR9.symm
end K6
