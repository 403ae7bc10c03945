/-! CONTRACTS: Words, Pad, the Shelf's reads -/
def bI (b : Bool) : Int32 := if b = true then 1 else 0
theorem bI_01 (b : Bool) : bI b = 0 ∨ bI b = 1 := by cases b <;> simp [bI]
def cA (w : Int64) (p : Int32) : Int32 := (Int64.toInt32 (w >>> (Int32.toInt64 (5 * (9 - p)) &&& 63))) &&& 31
def wL (w : Int64) (p c : Int32) : Int64 := w ||| ((Int32.toInt64 (c - 96)) <<< (Int32.toInt64 (5 * (9 - p)) &&& 63))
/-- how many leading places, from i on, at most k more -/
def lenF (c : Nat → Int32) : Nat → Nat → Nat
  | 0, i => i
  | k + 1, i => if c i = 0 then i else lenF c k (i + 1)
def lenW (w : Int64) : Nat := lenF (fun i => cA w (nI i)) 10 0
theorem lenF_le (c : Nat → Int32) : ∀ k i, lenF c k i ≤ i + k
  | 0, i => Nat.le_refl _
  | k + 1, i => by
    unfold lenF
    split
    · omega
    · have := lenF_le c k (i + 1); omega
theorem lenW_le (w : Int64) : lenW w ≤ 10 := by have := lenF_le (fun i => cA w (nI i)) 10 0; unfold lenW; omega
section K2
variable {l : Launch} {pd : gt_pd} {sh : gt_sh} {tr : gt_tr} {ru : gt_ru} {qu : gt_qu} {to : gt_to} {al : gt_al} {z : List ab_C} {sw : Nat → Int64} {wc sv fy ly ro pf tp hr hp ts vc ar ap : Nat → Int32} {ss aw dw pn hz tt az : Int32}
theorem k_Wo_codeAt (hl : l.stackTraces = false) {w : Int64} {p : Int32} : ab_K l M_Wo_codeAt (ab_r 0) (0, 0) [.long w, .int p] (hf pd sh tr ru qu to al z) (fun r => r = (.inl (some (.int (cA w p))), hf pd sh tr ru qu to al z)) := by
  refine e_Wo_codeAt hl (by decide) (fun X hl1 hR hX hC => ?_)
  exact t_Wo_codeAt_0_1 hX (r_Wo_codeAt_12 hX hC (by decide) rfl)
theorem k_Wo_withLetter (hl : l.stackTraces = false) {w : Int64} {p c : Int32} : ab_K l M_Wo_withLetter (ab_r 0) (0, 0) [.long w, .int p, .int c] (hf pd sh tr ru qu to al z) (fun r => r = (.inl (some (.long (wL w p c))), hf pd sh tr ru qu to al z)) := by
  refine e_Wo_withLetter hl (by decide) (fun X hl1 hR hX hC => ?_)
  exact t_Wo_withLetter_0_1 hX (r_Wo_withLetter_14 hX hC (by decide) rfl)
theorem k_Wo_letterOf (hl : l.stackTraces = false) {w : Int64} {p : Int32} : ab_K l M_Wo_letterOf (ab_r 1) (0, 0) [.long w, .int p] (hf pd sh tr ru qu to al z) (fun r => r = (.inl (some (.int (cA w p + 96))), hf pd sh tr ru qu to al z)) := by
  refine e_Wo_letterOf hl (by decide) (fun X hl1 hR hX hC => ?_)
  have hl2 : (X.2.1).stackTraces = false := by rw [hl1]; exact hl
  refine t_Wo_letterOf_0_1 hX (q_Wo_letterOf_2 hX (ab_conT hC) (k_Wo_codeAt hl2) (by rw [hR]; decide) (fun v h' e => ?_) (fun E h' e => by cases e))
  cases e
  exact t_Wo_letterOf_5_1 hX (r_Wo_letterOf_8 hX hC (by decide) rfl)
theorem k_Wo_lengthOf (hl : l.stackTraces = false) {w : Int64} : ab_K l M_Wo_lengthOf (ab_r 1) (0, 0) [.long w] (hf pd sh tr ru qu to al z) (fun r => r = (.inl (some (.int (nI (lenW w)))), hf pd sh tr ru qu to al z)) := by
  refine e_Wo_lengthOf hl (by decide) (fun X hl1 hR hX hC => ?_)
  have hl2 : (X.2.1).stackTraces = false := by rw [hl1]; exact hl
  refine t_Wo_lengthOf_0_1 hX ?_
  have hloop : ∀ k i : Nat, i + k = 10 → lenF (fun i => cA w (nI i)) k i = lenW w → ab_W X M_Wo_lengthOf (2, [(0, .long w), (2, .int (nI i))], [], hf pd sh tr ru qu to al z, 0, 0) := by
    intro k
    induction k with
    | zero =>
      intro i hi hN
      refine t_Wo_lengthOf_2_2 hX (nI_le (a := 10) (by omega) (by omega)) (t_Wo_lengthOf_22_1 hX (r_Wo_lengthOf_23 hX hC (by decide) ?_))
      rw [← hN]; rfl
    | succ k ih =>
      intro i hi hN
      refine t_Wo_lengthOf_2_1 hX (nI_ge (b := 10) (by omega) (by omega)) (q_Wo_lengthOf_10 hX (ab_conT hC) (k_Wo_codeAt hl2) (by rw [hR]; decide) (fun v h' e => ?_) (fun E h' e => by cases e))
      cases e
      unfold lenF at hN
      by_cases h0 : cA w (nI i) = 0
      · rw [if_pos h0] at hN
        refine t_Wo_lengthOf_13_2 hX h0 (t_Wo_lengthOf_22_1 hX (r_Wo_lengthOf_23 hX hC (by decide) ?_))
        rw [← hN]
      · rw [if_neg h0] at hN
        refine t_Wo_lengthOf_13_1 hX h0 ?_
        rw [nI_1]
        exact ih (i + 1) (by omega) hN
  exact hloop 10 0 rfl rfl
theorem k_Pa_hasHighSign (hl : l.stackTraces = false) {x : Int32} : ab_K l M_Pa_hasHighSign (ab_r 0) (0, 0) [.int x] (hf pd sh tr ru qu to al z) (fun r => r = (.inl (some (.int (bI (decide (¬ x &&& (-2139062144) = 0))))), hf pd sh tr ru qu to al z)) := by
  refine e_Pa_hasHighSign hl (by decide) (fun X hl1 hR hX hC => ?_)
  by_cases h : x &&& (-2139062144) = 0
  · exact t_Pa_hasHighSign_0_2 hX h (r_Pa_hasHighSign_12 hX hC (Or.inl rfl) (by decide) (by simp [bI, h]))
  · exact t_Pa_hasHighSign_0_1 hX h (r_Pa_hasHighSign_12 hX hC (Or.inr rfl) (by decide) (by simp [bI, h]))
def sgA (pf : Nat → Int32) (pn x : Int32) : Int32 := if x < 0 then 0 else if pn ≤ x then 0 else pf x.toNatClampNeg
theorem k_Pa_signAt (hl : l.stackTraces = false) {x : Int32} (hp : pn ≤ 60) : ab_K l M_Pa_signAt (ab_r 0) (0, 0) [.ref 2, .int x] (hf (pf, pn) sh tr ru qu to al z) (fun r => r = (.inl (some (.int (sgA pf pn x))), hf (pf, pn) sh tr ru qu to al z)) := by
  refine e_Pa_signAt hl (by decide) (fun X hl1 hR hX hC => ?_)
  unfold sgA at hC
  by_cases h1 : x < 0
  · rw [if_pos h1] at hC
    exact t_Pa_signAt_0_3 hX h1 (t_Pa_signAt_21_1 hX (r_Pa_signAt_22 hX hC (by decide) rfl))
  · rw [if_neg h1] at hC
    by_cases h2 : pn ≤ x
    · rw [if_pos h2] at hC
      exact t_Pa_signAt_0_2 hX h1 h2 (t_Pa_signAt_21_1 hX (r_Pa_signAt_22 hX hC (by decide) rfl))
    · rw [if_neg h2] at hC
      refine t_Pa_signAt_0_1 hX h1 h2 (vp_in_iff.mpr ?_) (r_Pa_signAt_22 hX hC (by decide) rfl)
      rw [Int32.lt_iff_toInt_lt] at h1
      rw [Int32.le_iff_toInt_le] at h2 hp
      have e0 : (0 : Int32).toInt = 0 := rfl
      have e60 : (60 : Int32).toInt = 60 := rfl
      omega
end K2
