/-! how far two words are; far, letter -/
theorem spN_w {w : Int64} {c : Nat → Nat} {m : Nat} (h : isW w c m) : ∀ k, k ≤ 10 → spN w k = min k m
  | 0, _ => by unfold spN; omega
  | k + 1, hk => by
    unfold spN
    rw [spN_w h k (by omega)]
    have hz := isW_z h (j := k) (by omega)
    by_cases e : cA w (nI k) = 0
    · rw [if_pos e]
      have := hz.mp e
      omega
    · rw [if_neg e]
      have : ¬ m ≤ k := fun q => e (hz.mpr q)
      omega
theorem ap_w {a b : Int64} {c d : Nat → Nat} {m k : Nat} (ha : isW a c m) (hb : isW b d k) : apart a b = gD (fun i j => if c i = d j then 0 else 1) m k := by
  unfold apart
  have h1 := ha.1
  have h2 := hb.1
  rw [spN_w ha 10 (by omega), spN_w hb 10 (by omega), show min 10 m = m by omega, show min 10 k = k by omega]
  refine gD_congr m k (fun i j hi hj => ?_)
  have b1 := ha.2.1 i hi
  have b2 := hb.2.1 j hj
  rw [isW_cA ha (by omega), isW_cA hb (by omega), if_pos hi, if_pos hj]
  by_cases e : c i = d j
  · rw [if_pos e, if_pos (by rw [e])]
  · rw [if_neg e, if_neg (fun q => e ((nI_eq (by omega) (by omega)).mp q))]
theorem ap_le {a b : Int64} {c d : Nat → Nat} {m k : Nat} (ha : isW a c m) (hb : isW b d k) : apart a b ≤ 10 := by
  rw [ap_w ha hb]
  have h := (gD_bounds (c := fun i j => if c i = d j then 0 else 1) (fun a b => by split <;> omega) m k).2.2
  have h1 := ha.1
  have h2 := hb.1
  omega
theorem gD_z {c : Nat → Nat → Nat} (hc : ∀ a b, c a b ≤ 1) : ∀ i, gD c i i = 0 ↔ ∀ a, a < i → c a a = 0
  | 0 => ⟨fun _ a ha => by omega, fun _ => rfl⟩
  | i + 1 => by
    have ih := gD_z hc i
    rw [gD_ss]
    constructor
    · intro h a ha
      have h1 : gD c i i + c i i = 0 := by omega
      by_cases e : a = i
      · rw [e]; omega
      · exact ih.mp (by omega) a (by omega)
    · intro h
      have h1 := ih.mpr (fun a ha => h a (by omega))
      have h2 := h i (by omega)
      omega
theorem ap_0 {a b : Int64} {c d : Nat → Nat} {m k : Nat} (ha : isW a c m) (hb : isW b d k) : apart a b = 0 ↔ a = b := by
  rw [ap_w ha hb, isW_inj ha hb]
  have hc : ∀ i j, (fun i j => if c i = d j then 0 else 1 : Nat → Nat → Nat) i j ≤ 1 := fun i j => by dsimp only; split <;> omega
  have hb2 := gD_bounds hc m k
  constructor
  · intro h
    have e : m = k := by omega
    subst e
    refine ⟨rfl, fun j hj => ?_⟩
    have := (gD_z hc m).mp h j hj
    by_cases q : c j = d j
    · exact q
    · rw [if_neg q] at this; omega
  · rintro ⟨rfl, h⟩
    exact (gD_z hc m).mpr (fun a ha => if_pos (h a ha))
theorem dM_ap {A nl nt : Nat → Int32} {n w : Nat} {wA : Int64} (hA : isW wA (cd A) n) (hl : ∀ a, a < n → isLt (A a) = true) (hw : wdOk nl nt w) : dM A nt n w (lnF nl w) = apart wA (mw nl nt w) := by
  rw [ap_w hA (mw_isW hw)]
  unfold dM
  refine gD_congr _ _ (fun i j hi hj => ?_)
  have h := lt_inj (hl i hi) (hw.2.2 j hj)
  show (if nt (10 * w + j) = A i then 0 else 1) = if (A i).toNatClampNeg - 96 = (nt (10 * w + j)).toNatClampNeg - 96 then 0 else 1
  by_cases e : nt (10 * w + j) = A i
  · rw [if_pos e, if_pos (h.mpr e.symm)]
  · rw [if_neg e, if_neg (fun q => e (h.mp q).symm)]
/-! the least of some numbers -/
def isMin (P : Nat → Prop) (z N : Nat) : Prop := N ≤ z ∧ (∀ v, P v → N ≤ v) ∧ (N = z ∨ P N)
theorem isMin_u {P Q : Nat → Prop} {z N M : Nat} (hpq : ∀ v, P v ↔ Q v) (h1 : isMin P z N) (h2 : isMin Q z M) : N = M := by
  have a : N ≤ M := by
    rcases h2.2.2 with e | e
    · rw [e]; exact h1.1
    · exact h1.2.1 M ((hpq M).mpr e)
  have b : M ≤ N := by
    rcases h1.2.2 with e | e
    · rw [e]; exact h2.1
    · exact h2.2.1 N ((hpq N).mp e)
  omega
theorem isMin_e {P Q : Nat → Prop} {z N : Nat} (hpq : ∀ v, P v ↔ Q v) (h : isMin P z N) : isMin Q z N := ⟨h.1, fun v hv => h.2.1 v ((hpq v).mpr hv), h.2.2.imp id (hpq N).mp⟩
theorem isMin_c {P Q : Nat → Prop} {z M N : Nat} (h1 : isMin P z M) (h2 : isMin Q M N) : isMin (fun v => P v ∨ Q v) z N := by
  refine ⟨Nat.le_trans h2.1 h1.1, fun v hv => ?_, ?_⟩
  · rcases hv with hv | hv
    · exact Nat.le_trans h2.1 (h1.2.1 v hv)
    · exact h2.2.1 v hv
  · rcases h2.2.2 with e | e
    · rcases h1.2.2 with e2 | e2
      · exact Or.inl (e.trans e2)
      · exact Or.inr (Or.inl (by rw [e]; exact e2))
    · exact Or.inr (Or.inr e)
theorem isMin_0 {z : Nat} : isMin (fun _ => False) z z := ⟨Nat.le_refl _, fun v hv => hv.elim, Or.inl rfl⟩
theorem isMin_1 (z a : Nat) : isMin (fun v => v = a) z (min a z) := by
  refine ⟨by omega, fun v hv => by omega, ?_⟩
  by_cases e : a ≤ z
  · exact Or.inr (by omega)
  · exact Or.inl (by omega)
theorem nrS_min (w : Int64) (sw : Nat → Int64) (r L : Nat) : ∀ c, isMin (fun v => ∃ x, x ∈ wls sw (r * 12) c ∧ v = apart w x) L (nrS w sw r L c)
  | 0 => isMin_e (fun v => ⟨fun h => h.elim, fun ⟨x, h, _⟩ => by cases h⟩) isMin_0
  | c + 1 => by
    refine isMin_e (fun v => ?_) (isMin_c (nrS_min w sw r L c) (isMin_1 _ (apart w (sw (r * 12 + c)))))
    rw [wls_s]
    constructor
    · rintro (⟨x, h1, h2⟩ | h)
      · exact ⟨x, List.mem_append.mpr (Or.inl h1), h2⟩
      · exact ⟨_, List.mem_append.mpr (Or.inr (List.mem_singleton.mpr rfl)), h⟩
    · rintro ⟨x, h1, h2⟩
      rcases List.mem_append.mp h1 with h1 | h1
      · exact Or.inl ⟨x, h1, h2⟩
      · rw [List.mem_singleton.mp h1] at h2
        exact Or.inr h2
theorem nM_min {A nl nt : Nat → Int32} {n r : Nat} {wA : Int64} (hA : isW wA (cd A) n) (hl : ∀ a, a < n → isLt (A a) = true) : ∀ c, (∀ i, i < c → wdOk nl nt (12 * r + i)) → isMin (fun v => ∃ x, x ∈ wls (mw nl nt) (12 * r) c ∧ v = apart wA x) 99 (nM A nt n (lnF nl) r c)
  | 0, _ => isMin_e (fun v => ⟨fun h => h.elim, fun ⟨x, h, _⟩ => by cases h⟩) isMin_0
  | c + 1, hw => by
    have h := isMin_c (nM_min hA hl c (fun i hi => hw i (by omega))) (isMin_1 _ (apart wA (mw nl nt (12 * r + c))))
    unfold nM
    rw [dM_ap hA hl (hw c (by omega))]
    refine isMin_e (fun v => ?_) h
    rw [wls_s]
    constructor
    · rintro (⟨x, h1, h2⟩ | h)
      · exact ⟨x, List.mem_append.mpr (Or.inl h1), h2⟩
      · exact ⟨_, List.mem_append.mpr (Or.inr (List.mem_singleton.mpr rfl)), h⟩
    · rintro ⟨x, h1, h2⟩
      rcases List.mem_append.mp h1 with h1 | h1
      · exact Or.inl ⟨x, h1, h2⟩
      · rw [List.mem_singleton.mp h1] at h2
        exact Or.inr h2
theorem frS_min (sw : Nat → Int64) (a b cb : Nat) : ∀ ca, isMin (fun v => ∃ x y, x ∈ wls sw (a * 12) ca ∧ y ∈ wls sw (b * 12) cb ∧ v = apart x y) 11 (frS sw a b cb ca)
  | 0 => isMin_e (fun v => ⟨fun h => h.elim, fun ⟨x, y, h, _⟩ => by cases h⟩) isMin_0
  | ca + 1 => by
    refine isMin_e (fun v => ?_) (isMin_c (frS_min sw a b cb ca) (nrS_min (sw (a * 12 + ca)) sw b _ cb))
    rw [wls_s]
    constructor
    · rintro (⟨x, y, h1, h2, h3⟩ | ⟨y, h2, h3⟩)
      · exact ⟨x, y, List.mem_append.mpr (Or.inl h1), h2, h3⟩
      · exact ⟨_, y, List.mem_append.mpr (Or.inr (List.mem_singleton.mpr rfl)), h2, h3⟩
    · rintro ⟨x, y, h1, h2, h3⟩
      rcases List.mem_append.mp h1 with h1 | h1
      · exact Or.inl ⟨x, y, h1, h2, h3⟩
      · rw [List.mem_singleton.mp h1] at h3
        exact Or.inr ⟨y, h2, h3⟩
def isMo (P : Nat → Prop) (o : Option Nat) : Prop := match o with
  | none => ∀ v, ¬ P v
  | some N => P N ∧ ∀ v, P v → N ≤ v
theorem isMo_e {P Q : Nat → Prop} {o : Option Nat} (h : ∀ v, P v ↔ Q v) (h1 : isMo P o) : isMo Q o := by
  cases o with
  | none => exact fun v q => h1 v ((h v).mpr q)
  | some N => exact ⟨(h N).mp h1.1, fun v q => h1.2 v ((h v).mpr q)⟩
theorem isMo_mi {P : Nat → Prop} {o : Option Nat} {d : Nat} (h : isMo P o) : isMo (fun v => P v ∨ v = d) (mi o d) := by
  cases o with
  | none =>
    refine ⟨Or.inr rfl, fun v q => ?_⟩
    rcases q with q | q
    · exact absurd q (h v)
    · omega
  | some N =>
    obtain ⟨h1, h2⟩ := h
    refine ⟨?_, fun v q => ?_⟩
    · by_cases e : d ≤ N
      · exact Or.inr (by omega)
      · exact Or.inl (by rw [show min d N = N by omega]; exact h1)
    · rcases q with q | q
      · have := h2 v q; omega
      · omega
theorem fI_min {nl nt : Nat → Int32} {v b : Nat} (hv : wdOk nl nt v) {P : Nat → Prop} {o : Option Nat} (ho : isMo P o) : ∀ c, (∀ i, i < c → wdOk nl nt (12 * b + i)) → isMo (fun u => P u ∨ ∃ y, y ∈ wls (mw nl nt) (12 * b) c ∧ u = apart (mw nl nt v) y) (fI nt (lnF nl) v b o c)
  | 0, _ => isMo_e (fun u => ⟨fun h => Or.inl h, fun h => by rcases h with h | ⟨y, h, _⟩; exact h; cases h⟩) ho
  | c + 1, hw => by
    unfold fI
    rw [dM_ap (mw_isW hv) hv.2.2 (hw c (by omega))]
    refine isMo_e (fun u => ?_) (isMo_mi (fI_min hv ho c (fun i hi => hw i (by omega))))
    rw [wls_s]
    constructor
    · rintro ((h | ⟨y, h1, h2⟩) | h)
      · exact Or.inl h
      · exact Or.inr ⟨y, List.mem_append.mpr (Or.inl h1), h2⟩
      · exact Or.inr ⟨_, List.mem_append.mpr (Or.inr (List.mem_singleton.mpr rfl)), h⟩
    · rintro (h | ⟨y, h1, h2⟩)
      · exact Or.inl (Or.inl h)
      · rcases List.mem_append.mp h1 with h1 | h1
        · exact Or.inl (Or.inr ⟨y, h1, h2⟩)
        · rw [List.mem_singleton.mp h1] at h2
          exact Or.inr h2
theorem fA_min {nl nt : Nat → Int32} {a b cb : Nat} (hb : ∀ i, i < cb → wdOk nl nt (12 * b + i)) : ∀ ca, (∀ i, i < ca → wdOk nl nt (12 * a + i)) → isMo (fun u => ∃ x y, x ∈ wls (mw nl nt) (12 * a) ca ∧ y ∈ wls (mw nl nt) (12 * b) cb ∧ u = apart x y) (fA nt (lnF nl) a b cb ca)
  | 0, _ => fun v ⟨x, y, h, _⟩ => by cases h
  | ca + 1, ha => by
    unfold fA
    refine isMo_e (fun u => ?_) (fI_min (ha ca (by omega)) (fA_min hb ca (fun i hi => ha i (by omega))) cb hb)
    rw [wls_s]
    constructor
    · rintro (⟨x, y, h1, h2, h3⟩ | ⟨y, h2, h3⟩)
      · exact ⟨x, y, List.mem_append.mpr (Or.inl h1), h2, h3⟩
      · exact ⟨_, y, List.mem_append.mpr (Or.inr (List.mem_singleton.mpr rfl)), h2, h3⟩
    · rintro ⟨x, y, h1, h2, h3⟩
      rcases List.mem_append.mp h1 with h1 | h1
      · exact Or.inl ⟨x, y, h1, h2, h3⟩
      · rw [List.mem_singleton.mp h1] at h3
        exact Or.inr ⟨y, h2, h3⟩
theorem far_eq {sw : Nat → Int64} {ny nl nt : Nat → Int32} {n a b : Nat} (hW : jW sw ny nl nt n) (ha : a < n) (hb : b < n) : farV sw (cnF ny) a b = oI (fA nt (lnF nl) a b (cnF ny b) (cnF ny a)) := by
  have h1 := frS_min sw a b (cnF ny b) (cnF ny a)
  have h2 := fA_min (hW.2.2.1 b hb) (cnF ny a) (hW.2.2.1 a ha)
  have ea := (hW.2.2.2 a ha).2
  have eb := (hW.2.2.2 b hb).2
  unfold farV
  by_cases h0 : cnF ny a = 0 ∨ cnF ny b = 0
  · rw [if_pos h0]
    cases ho : fA nt (lnF nl) a b (cnF ny b) (cnF ny a) with
    | none => rfl
    | some N =>
      rw [ho] at h2
      obtain ⟨⟨x, y, q1, q2, -⟩, -⟩ := h2
      obtain ⟨i, hi, -⟩ := mem_wls.mp q1
      obtain ⟨j, hj, -⟩ := mem_wls.mp q2
      omega
  · rw [if_neg h0]
    cases ho : fA nt (lnF nl) a b (cnF ny b) (cnF ny a) with
    | none =>
      rw [ho] at h2
      exact absurd ⟨_, _, mem_wls.mpr ⟨0, by omega, rfl⟩, mem_wls.mpr ⟨0, by omega, rfl⟩, rfl⟩ (h2 (apart (mw nl nt (12 * a + 0)) (mw nl nt (12 * b + 0))))
    | some N =>
      rw [ho] at h2
      obtain ⟨⟨x, y, q1, q2, q3⟩, q4⟩ := h2
      have hN : N ≤ 10 := by
        obtain ⟨i, hi, e1⟩ := mem_wls.mp q1
        obtain ⟨j, hj, e2⟩ := mem_wls.mp q2
        rw [q3, ← e1, ← e2]
        exact ap_le (mw_isW (hW.2.2.1 a ha i hi)) (mw_isW (hW.2.2.1 b hb j hj))
      have hle : frS sw a b (cnF ny b) (cnF ny a) ≤ N := h1.2.1 N ⟨x, y, ea.mem_iff.mpr q1, eb.mem_iff.mpr q2, q3⟩
      have hge : N ≤ frS sw a b (cnF ny b) (cnF ny a) := by
        rcases h1.2.2 with e | ⟨x', y', r1, r2, r3⟩
        · omega
        · exact q4 _ ⟨x', y', ea.mem_iff.mp r1, eb.mem_iff.mp r2, r3⟩
      show nI _ = nI N
      rw [show frS sw a b (cnF ny b) (cnF ny a) = N by omega]
/-! the order of words -/
theorem isA_iff {nl nt : Nat → Int32} {v w : Nat} (hv : wdOk nl nt v) (hw : wdOk nl nt w) : ∀ k i, i + k = 10 → (∀ j, j < i → j < lnF nl v ∧ j < lnF nl w ∧ nt (10 * v + j) = nt (10 * w + j)) → (ahS nt (lnF nl) v w k i = true ↔ mw nl nt v < mw nl nt w) := by
  have iv := mw_isW hv
  have iw := mw_isW hw
  have h1 := hv.1.2.1
  have h2 := hw.1.2.1
  have hend : ∀ i, i ≤ 10 → (∀ j, j < i → j < lnF nl v ∧ j < lnF nl w ∧ nt (10 * v + j) = nt (10 * w + j)) → (lnF nl v ≤ i ∨ lnF nl w ≤ i) → (decide (lnF nl v < lnF nl w) = true ↔ mw nl nt v < mw nl nt w) := by
    intro i hi he ho
    have hiv : i ≤ lnF nl v := by
      by_cases q : lnF nl v < i
      · have := (he _ q).1; omega
      · omega
    have hiw : i ≤ lnF nl w := by
      by_cases q : lnF nl w < i
      · have := (he _ q).2.1; omega
      · omega
    have hpad : ∀ j, j < i → padC (cd (fun j => nt (10 * v + j))) (lnF nl v) j = padC (cd (fun j => nt (10 * w + j))) (lnF nl w) j := fun j hj => by
      obtain ⟨a1, a2, a3⟩ := he j hj
      unfold padC
      rw [if_pos a1, if_pos a2]
      show (nt (10 * v + j)).toNatClampNeg - 96 = (nt (10 * w + j)).toNatClampNeg - 96
      rw [a3]
    rw [decide_eq_true_eq]
    by_cases e : lnF nl v = lnF nl w
    · have hm : mw nl nt v = mw nl nt w := (isW_inj iv iw).mpr ⟨e, fun j hj => by
        show (nt (10 * v + j)).toNatClampNeg - 96 = (nt (10 * w + j)).toNatClampNeg - 96
        rw [(he j (by omega)).2.2]⟩
      rw [hm]
      exact ⟨fun q => by omega, fun q => absurd q i64_irr⟩
    · by_cases q : lnF nl v < lnF nl w
      · refine ⟨fun _ => ?_, fun _ => q⟩
        refine isW_lt iv iw (i := i) (by omega) hpad ?_
        unfold padC
        rw [if_neg (by omega), if_pos (by omega)]
        exact (iw.2.1 i (by omega)).1
      · refine ⟨fun z => absurd z q, fun z => ?_⟩
        have : mw nl nt w < mw nl nt v := by
          refine isW_lt iw iv (i := i) (by omega) (fun j hj => (hpad j hj).symm) ?_
          unfold padC
          rw [if_neg (by omega), if_pos (by omega)]
          exact (iv.2.1 i (by omega)).1
        exact absurd (i64_tr z this) i64_irr
  intro k
  induction k with
  | zero =>
    intro i hi he
    exact hend i (by omega) he (by omega)
  | succ k ih =>
    intro i hi he
    unfold ahS
    by_cases hb : i < lnF nl v ∧ i < lnF nl w
    · rw [if_pos hb]
      by_cases e : nt (10 * v + i) = nt (10 * w + i)
      · rw [if_pos e]
        refine ih (i + 1) (by omega) (fun j hj => ?_)
        by_cases ej : j = i
        · rw [ej]; exact ⟨hb.1, hb.2, e⟩
        · exact he j (by omega)
      · rw [if_neg e, decide_eq_true_eq]
        have hpad : ∀ j, j < i → padC (cd (fun j => nt (10 * v + j))) (lnF nl v) j = padC (cd (fun j => nt (10 * w + j))) (lnF nl w) j := fun j hj => by
          obtain ⟨a1, a2, a3⟩ := he j hj
          unfold padC
          rw [if_pos a1, if_pos a2]
          show (nt (10 * v + j)).toNatClampNeg - 96 = (nt (10 * w + j)).toNatClampNeg - 96
          rw [a3]
        obtain ⟨cv, c1, c2, c3, c4⟩ := isLt_of (hv.2.2 i hb.1)
        obtain ⟨cw, d1, d2, d3, d4⟩ := isLt_of (hw.2.2 i hb.2)
        have pv : padC (cd (fun j => nt (10 * v + j))) (lnF nl v) i = cv := by
          unfold padC
          rw [if_pos hb.1]
          exact c4
        have pw : padC (cd (fun j => nt (10 * w + j))) (lnF nl w) i = cw := by
          unfold padC
          rw [if_pos hb.2]
          exact d4
        rw [c3, d3, nI_ltI (by omega) (by omega)]
        constructor
        · intro q
          exact isW_lt iv iw (i := i) (by omega) hpad (by rw [pv, pw]; omega)
        · intro q
          by_cases z : 96 + cv < 96 + cw
          · exact z
          · have hne : cv ≠ cw := fun y => e (by rw [c3, d3, y])
            have : mw nl nt w < mw nl nt v := isW_lt iw iv (i := i) (by omega) (fun j hj => (hpad j hj).symm) (by rw [pv, pw]; omega)
            exact absurd (i64_tr q this) i64_irr
    · rw [if_neg hb]
      exact hend i (by omega) he (by omega)
theorem cP_1 (p : Int64 → Bool) (L : List Int64) (x : Int64) : List.countP p (L ++ [x]) = List.countP p L + (if p x = true then 1 else 0) := by
  rw [List.countP_append, List.countP_cons, List.countP_nil]
  omega
theorem bf_cp {nl nt : Nat → Int32} {r w : Nat} (hw : wdOk nl nt w) : ∀ c, (∀ i, i < c → wdOk nl nt (12 * r + i)) → bfS nt (lnF nl) r w c = List.countP (fun x => decide (x < mw nl nt w)) (wls (mw nl nt) (12 * r) c)
  | 0, _ => rfl
  | c + 1, h => by
    unfold bfS
    rw [wls_s, cP_1, bf_cp hw c (fun i hi => h i (by omega))]
    have hi := isA_iff (h c (by omega)) hw 10 0 (by omega) (fun j hj => by omega)
    show _ + (if ahS nt (lnF nl) (12 * r + c) w 10 0 = true then 1 else 0) = _
    by_cases e : mw nl nt (12 * r + c) < mw nl nt w
    · rw [if_pos (hi.mpr e), if_pos (decide_eq_true e)]
    · rw [if_neg (fun q => e (hi.mp q)), if_neg (by rw [decide_eq_false e]; decide)]
theorem cp_sort {f : Nat → Int64} {b : Nat} : ∀ c, (∀ i j, i < j → j < c → f (b + i) < f (b + j)) → ∀ k, k < c → List.countP (fun x => decide (x < f (b + k))) (wls f b c) = k
  | 0, _, k, hk => by omega
  | c + 1, hs, k, hk => by
    rw [wls_s, cP_1]
    by_cases e : k = c
    · subst e
      rw [if_neg (by rw [decide_eq_false i64_irr]; decide)]
      have : ∀ d, d ≤ k → List.countP (fun x => decide (x < f (b + k))) (wls f b d) = d := by
        intro d
        induction d with
        | zero => intro _; rfl
        | succ d ih =>
          intro hd
          rw [wls_s, cP_1, ih (by omega), if_pos (decide_eq_true (hs d k (by omega) (by omega)))]
      rw [this k (Nat.le_refl _)]
      rfl
    · rw [cp_sort c (fun i j a q => hs i j a (by omega)) k (by omega), if_neg]
      · rfl
      · rw [decide_eq_false (fun q => i64_irr (i64_tr q (hs k c (by omega) (by omega))))]
        decide
theorem wd_at {sw : Nat → Int64} {ny nl nt : Nat → Int32} {n r k : Nat} (hW : jW sw ny nl nt n) (hr : r < n) (hk : k < cnF ny r) : ∃ i, i < cnF ny r ∧ wdS nt (lnF nl) r (cnF ny r) k (cnF ny r) = 12 * r + i ∧ mw nl nt (12 * r + i) = sw (r * 12 + k) := by
  obtain ⟨s1, s2⟩ := hW.2.2.2 r hr
  have hbf : ∀ i, i < cnF ny r → (bfS nt (lnF nl) r (12 * r + i) (cnF ny r) = k ↔ mw nl nt (12 * r + i) = sw (r * 12 + k)) := by
    intro i hi
    rw [bf_cp (hW.2.2.1 r hr i hi) (cnF ny r) (hW.2.2.1 r hr), ← s2.countP_eq]
    obtain ⟨k', hk', e⟩ := mem_wls.mp (s2.mem_iff.mpr (mem_wls.mpr ⟨i, hi, rfl⟩))
    rw [← e, cp_sort (cnF ny r) s1 k' hk']
    constructor
    · intro q; rw [q]
    · intro q
      by_cases h1 : k' < k
      · have := s1 k' k h1 hk
        rw [q] at this
        exact absurd this i64_irr
      · by_cases h2 : k < k'
        · have := s1 k k' h2 hk'
          rw [q] at this
          exact absurd this i64_irr
        · omega
  obtain ⟨i0, hi0, e0⟩ := mem_wls.mp (s2.mem_iff.mp (mem_wls.mpr ⟨k, hk, rfl⟩))
  have : ∀ I, I ≤ cnF ny r → (∃ i, i < I ∧ mw nl nt (12 * r + i) = sw (r * 12 + k)) → ∃ i, i < cnF ny r ∧ wdS nt (lnF nl) r (cnF ny r) k I = 12 * r + i ∧ mw nl nt (12 * r + i) = sw (r * 12 + k) := by
    intro I
    induction I with
    | zero => rintro _ ⟨i, hi, -⟩; omega
    | succ I ih =>
      rintro hI ⟨i, hi, e⟩
      unfold wdS
      by_cases hb : bfS nt (lnF nl) r (12 * r + I) (cnF ny r) = k
      · rw [if_pos hb]
        exact ⟨I, by omega, rfl, (hbf I (by omega)).mp hb⟩
      · rw [if_neg hb]
        refine ih (by omega) ⟨i, ?_, e⟩
        by_cases q : i = I
        · subst q
          exact absurd ((hbf i (by omega)).mpr e) hb
        · omega
  exact this (cnF ny r) (Nat.le_refl _) ⟨i0, hi0, e0⟩
section J5
variable {l : Launch} {c : stF} {d : stM}
theorem jv_far (hl : l.stackTraces = false) (hJ : Jn c d) (x1 x2 : Int32) : jL l Jn 0 M_Fs_far M_Mo_far [.int x1, .int x2] [x_ns] c d := by
  obtain ⟨⟨pf, pn⟩, ⟨sw, wc, sv, fy, ly, ro, ss, aw, dw⟩, tp, ru, qu, to, al⟩ := c
  obtain ⟨mt, ⟨ma, mn⟩, ⟨nr, ny, nl, nt, nv, np, nf, nu, nh⟩, mq, mo, mx⟩ := d
  have hJ0 := hJ
  obtain ⟨m, n, ⟨h60, h32⟩, hp, ⟨e4, e5⟩, e6, hW, h⟩ := hJ
  dsimp only at e4 e5 e6 h hW hp
  subst e4 e5 e6
  have hcd : ((¬ x1 < 0 ∧ x1 < nI n) ∧ ¬ x2 < 0 ∧ x2 < nI n) ↔ (isR x1 n && isR x2 n) = true := by
    rw [Bool.and_eq_true, isR_iff, isR_iff]
  refine ⟨ab_x 2, ab_r 2, fun o c' => (∃ ru', c' = ((pf, pn), (sw, wc, sv, fy, ly, ro, nI n, aw, dw), tp, ru', qu, to, al)) ∧ o = (if (¬ x1 < 0 ∧ x1 < nI n) ∧ ¬ x2 < 0 ∧ x2 < nI n then .inl (some (.int (farV sw (cnF wc) x1.toNatClampNeg x2.toNatClampNeg))) else .inr x_ns), by decide, by decide, fun z => ab_K_mono (fun q hq => ?_) (k_Fs_far (cnt := cnF wc) hl h32 (jW_c hW)), fun o c' hoc => ?_⟩
  · obtain ⟨ru', e⟩ := hq
    rw [e]
    exact ⟨((pf, pn), (sw, wc, sv, fy, ly, ro, nI n, aw, dw), tp, ru', qu, to, al), rfl, ⟨ru', rfl⟩, rfl⟩
  · obtain ⟨⟨ru', rfl⟩, rfl⟩ := hoc
    by_cases hc : (¬ x1 < 0 ∧ x1 < nI n) ∧ ¬ x2 < 0 ∧ x2 < nI n
    · rw [if_pos hc]
      refine ⟨Or.inl ⟨_, rfl⟩, fun z => ab_K_mono (fun q hq => ?_) (k_Mo_far (cnt := cnF wc) (ln := lnF nl) hl h32 (jW_c hW) (jW_l hW))⟩
      obtain ⟨mx', e⟩ := hq
      rw [if_pos (hcd.mp hc), if_pos (hcd.mp hc)] at e
      obtain ⟨a, ha, ea⟩ := ab_ofI hc.1.1 hc.1.2 (by omega)
      obtain ⟨b, hb, eb⟩ := ab_ofI hc.2.1 hc.2.2 (by omega)
      have ec1 : x1.toNatClampNeg = a := by rw [ea, nI_clamp (by omega)]
      have ec2 : x2.toNatClampNeg = b := by rw [eb, nI_clamp (by omega)]
      rw [ec1, ec2] at e
      refine ⟨_, (0, (ma, mn), (nI n, wc, nl, nt, nv, np, nf, nu, nh), mq, mo, mx'), e, ⟨_, rfl⟩, ?_, hJ0⟩
      rw [ec1, ec2, far_eq hW ha hb]
      exact okR_v rfl
    · rw [if_neg hc]
      refine ⟨Or.inr ⟨x_ns, by simp, rfl⟩, fun z => ab_K_mono (fun q hq => ?_) (k_Mo_far (cnt := cnF wc) (ln := lnF nl) hl h32 (jW_c hW) (jW_l hW))⟩
      obtain ⟨mx', e⟩ := hq
      rw [if_neg (fun q => hc (hcd.mpr q)), if_neg (fun q => hc (hcd.mpr q))] at e
      exact ⟨_, (1, (ma, mn), (nI n, wc, nl, nt, nv, np, nf, nu, nh), mq, mo, mx'), e, ⟨_, rfl⟩, okR_1 rfl, hJ0⟩
theorem jv_letter (hl : l.stackTraces = false) (hJ : Jn c d) (x1 x2 x3 : Int32) : jL l Jn 0 M_Fs_letter M_Mo_letter [.int x1, .int x2, .int x3] [x_ns] c d := by
  obtain ⟨⟨pf, pn⟩, ⟨sw, wc, sv, fy, ly, ro, ss, aw, dw⟩, tp, ru, qu, to, al⟩ := c
  obtain ⟨mt, ⟨ma, mn⟩, ⟨nr, ny, nl, nt, nv, np, nf, nu, nh⟩, mq, mo, mx⟩ := d
  have hJ0 := hJ
  obtain ⟨m, n, ⟨h60, h32⟩, hp, ⟨e4, e5⟩, e6, hW, h⟩ := hJ
  dsimp only at e4 e5 e6 h hW hp
  subst e4 e5 e6
  have hwd : ∀ r k, r < n → k < cnF wc r → lnOk nl (lnF nl) (wdS nt (lnF nl) r (cnF wc r) k (cnF wc r)) := fun r k hr hk => by
    obtain ⟨i, hi, e, -⟩ := wd_at hW hr hk
    rw [e]
    exact (hW.2.2.1 r hr i hi).1
  by_cases h1 : (¬ x1 < 0 ∧ x1 < nI n) ∧ ¬ x2 < 0 ∧ x2 < nI (cnF wc x1.toNatClampNeg)
  · obtain ⟨r, hr, rfl⟩ := ab_ofI h1.1.1 h1.1.2 (by omega)
    have ecl : (nI r).toNatClampNeg = r := nI_clamp (by omega)
    rw [ecl] at h1
    have h12 := (hW.1 r).1
    obtain ⟨k, hk, rfl⟩ := ab_ofI h1.2.1 h1.2.2 (by omega)
    have ecl2 : (nI k).toNatClampNeg = k := nI_clamp (by omega)
    obtain ⟨i, hi, ew, em⟩ := wd_at hW hr hk
    have hok := hW.2.2.1 r hr i hi
    have hiw := mw_isW hok
    have hlen : lenW (sw (r * 12 + k)) = lnF nl (12 * r + i) := by rw [← em]; exact isW_len hiw
    have hcd : (((¬ nI r < 0 ∧ nI r < nI n) ∧ ¬ nI k < 0 ∧ nI k < nI (cnF wc r)) ∧ ¬ x3 < -1 ∧ x3 < nI (lnF nl (12 * r + i))) ↔ ((isR (nI r) n && isR (nI k) (cnF wc r)) && (decide (¬ x3 < -1) && decide (x3 < nI (lnF nl (12 * r + i))))) = true := by
      rw [Bool.and_eq_true, Bool.and_eq_true, Bool.and_eq_true, isR_iff, isR_iff, decide_eq_true_eq, decide_eq_true_eq]
    by_cases hc : ((¬ nI r < 0 ∧ nI r < nI n) ∧ ¬ nI k < 0 ∧ nI k < nI (cnF wc r)) ∧ ¬ x3 < -1 ∧ x3 < nI (lnF nl (12 * r + i))
    · refine jL_det (.inl (some (.int (if x3 = -1 then nI (lnF nl (12 * r + i)) else cA (sw (r * 12 + k)) x3 + 96)))) _ (some (.int (if x3 = -1 then nI (lnF nl (12 * r + i)) else nt (10 * (12 * r + i) + x3.toNatClampNeg)))) (0, (ma, mn), (nI n, wc, nl, nt, nv, np, nf, nu, nh), mq, mo, mx) (by decide) (by decide) (fun z => ab_K_mono (fun q hq => ?_) (k_Fs_letter (cnt := cnF wc) hl h32 (jW_c hW))) (fun z => ab_K_mono (fun q hq => ?_) (k_Mo_letter (cnt := cnF wc) (ln := lnF nl) hl h32 (jW_c hW) (jW_l hW) hwd)) ⟨_, rfl⟩ ?_ hJ0
      · rw [ecl, ecl2, hlen, if_pos hc] at hq
        exact hq
      · rw [ecl, ecl2, ew, if_pos (hcd.mp hc)] at hq
        exact hq
      · by_cases e : x3 = -1
        · rw [if_pos e, if_pos e]
          exact okR_v rfl
        · rw [if_neg e, if_neg e]
          have h0 : ¬ x3 < 0 := by
            have h9 := hc.2.1
            rw [Int32.lt_iff_toInt_lt] at h9 ⊢
            rw [← Int32.toInt_inj] at e
            have e0 : (0 : Int32).toInt = 0 := rfl
            have e1 : (-1 : Int32).toInt = -1 := rfl
            omega
          have h10 := hok.1.2.1
          obtain ⟨j, hj, ej⟩ := ab_ofI h0 hc.2.2 (by omega)
          obtain ⟨cc, c1, c2, c3, c4⟩ := isLt_of (hok.2.2 j hj)
          rw [ej, nI_clamp (by omega), ← em, isW_cA hiw (by omega), if_pos hj]
          have : cd (fun j => nt (10 * (12 * r + i) + j)) j = cc := c4
          rw [this, c3]
          have h9 := nI_add cc 96
          rw [show cc + 96 = 96 + cc by omega] at h9
          have h8 : nI cc + 96 = nI (96 + cc) := h9
          rw [h8]
          exact okR_v rfl
    · exact jL_det (.inr x_ns) _ (some (.int 0)) (1, (ma, mn), (nI n, wc, nl, nt, nv, np, nf, nu, nh), mq, mo, mx) (by decide) (by decide) (fun z => ab_K_mono (fun q hq => by rw [ecl, ecl2, hlen, if_neg hc] at hq; exact hq) (k_Fs_letter (cnt := cnF wc) hl h32 (jW_c hW))) (fun z => ab_K_mono (fun q hq => by rw [ecl, ecl2, ew, if_neg (fun q => hc (hcd.mpr q))] at hq; exact hq) (k_Mo_letter (cnt := cnF wc) (ln := lnF nl) hl h32 (jW_c hW) (jW_l hW) hwd)) ⟨_, rfl⟩ (okR_1 rfl) hJ0
  · exact jL_det (.inr x_ns) _ (some (.int 0)) (1, (ma, mn), (nI n, wc, nl, nt, nv, np, nf, nu, nh), mq, mo, mx) (by decide) (by decide) (fun z => ab_K_mono (fun q hq => by rw [if_neg (fun q => h1 q.1)] at hq; exact hq) (k_Fs_letter (cnt := cnF wc) hl h32 (jW_c hW))) (fun z => ab_K_mono (fun q hq => by rw [if_neg (fun q => by rw [Bool.and_eq_true, Bool.and_eq_true, isR_iff, isR_iff] at q; exact h1 q.1)] at hq; exact hq) (k_Mo_letter (cnt := cnF wc) (ln := lnF nl) hl h32 (jW_c hW) (jW_l hW) hwd)) ⟨_, rfl⟩ (okR_1 rfl) hJ0
end J5
