/-! CONTRACTS: the Shelf's questions, the Trees -/
def hasW (sw : Nat → Int64) (r c : Nat) (w : Int64) : Bool := (List.range c).any fun i => decide (sw (r * 12 + i) = w)
theorem hasW_0 {sw : Nat → Int64} {r : Nat} {w : Int64} : hasW sw r 0 w = false := rfl
theorem hasW_t {sw : Nat → Int64} {r c i : Nat} {w : Int64} (hi : i < c) (h : sw (r * 12 + i) = w) : hasW sw r c w = true :=
  List.any_eq_true.mpr ⟨i, List.mem_range.mpr hi, decide_eq_true h⟩
theorem hasW_f {sw : Nat → Int64} {r c : Nat} {w : Int64} (h : ∀ i, i < c → ¬ sw (r * 12 + i) = w) : hasW sw r c w = false := by
  cases hb : hasW sw r c w with
  | false => rfl
  | true =>
    obtain ⟨i, hi, h2⟩ := List.any_eq_true.mp hb
    exact absurd (of_decide_eq_true h2) (h i (List.mem_range.mp hi))
def yW (f g a b : Int32) : Bool := decide (¬ f = -1) && decide (¬ (if b < g then b else g) < (if f < a then a else f))
def seen (m k : Int32) : Bool := decide (¬ (m >>> (k &&& 31)) &&& 1 = 0)
def fwS (sw : Nat → Int64) (r o co : Nat) : Nat → Nat
  | 0 => 0
  | i + 1 => fwS sw r o co i + (if hasW sw o co (sw (r * 12 + i)) = true then 1 else 0)
def ffS (sv : Nat → Int32) (r o : Nat) : Nat → Nat
  | 0 => 0
  | f + 1 => ffS sv r o f + (if ¬ sv (r * 4 + f) = -1 ∧ sv (r * 4 + f) = sv (o * 4 + f) then 1 else 0)
theorem fwS_le (sw : Nat → Int64) (r o co : Nat) : ∀ i, fwS sw r o co i ≤ i
  | 0 => Nat.le_refl _
  | i + 1 => by
    have := fwS_le sw r o co i
    unfold fwS
    split <;> omega
theorem ffS_le (sv : Nat → Int32) (r o : Nat) : ∀ i, ffS sv r o i ≤ i
  | 0 => Nat.le_refl _
  | i + 1 => by
    have := ffS_le sv r o i
    unfold ffS
    split <;> omega
theorem ab_i12 {r i : Nat} (hr : r < 32) (hi : i < 12) : nI r * 12 + nI i = nI (r * 12 + i) ∧ vp_in (nI r * 12 + nI i) 384 ∧ (nI r * 12 + nI i).toNatClampNeg = r * 12 + i := by
  have e : nI r * 12 + nI i = nI (r * 12 + i) := ab_lin r i 12
  exact ⟨e, by rw [e]; exact vp_in_nI (by omega) (by omega), by rw [e]; exact nI_clamp (by omega)⟩
theorem ab_j4 {r i : Nat} (hr : r < 32) (hi : i < 4) : nI r * 4 + nI i = nI (r * 4 + i) ∧ vp_in (nI r * 4 + nI i) 128 ∧ (nI r * 4 + nI i).toNatClampNeg = r * 4 + i := by
  have e : nI r * 4 + nI i = nI (r * 4 + i) := ab_lin r i 4
  exact ⟨e, by rw [e]; exact vp_in_nI (by omega) (by omega), by rw [e]; exact nI_clamp (by omega)⟩
section K3
variable {l : Launch} {pd : gt_pd} {sh : gt_sh} {tr : gt_tr} {ru : gt_ru} {qu : gt_qu} {to : gt_to} {al : gt_al} {z : List ab_C} {sw : Nat → Int64} {wc sv fy ly ro pf tp hr hp ts vc ar ap : Nat → Int32} {ss aw dw pn hz tt az : Int32}
theorem k_Sh_isSeenBy (hl : l.stackTraces = false) {r : Nat} (hr : r < 32) {k : Int32} : ab_K l M_Sh_isSeenBy (ab_r 0) (0, 0) [.ref 4, .int (nI r), .int k] (hf pd (sw, wc, sv, fy, ly, ro, ss, aw, dw) tr ru qu to al z) (fun q => q = (.inl (some (.int (bI (seen (ro r) k)))), hf pd (sw, wc, sv, fy, ly, ro, ss, aw, dw) tr ru qu to al z)) := by
  refine e_Sh_isSeenBy hl (by decide) (fun X hl1 hR hX hC => ?_)
  have hb : vp_in (nI r) 32 := vp_in_nI hr (by omega)
  have hcl : (nI r).toNatClampNeg = r := nI_clamp (by omega)
  by_cases h : (ro r >>> (k &&& 31)) &&& 1 = 0
  · exact t_Sh_isSeenBy_0_2 hX hb (by rw [hcl]; exact h) (r_Sh_isSeenBy_18 hX hC (Or.inl rfl) (by decide) (by simp [bI, seen, h]))
  · exact t_Sh_isSeenBy_0_1 hX hb (by rw [hcl]; exact h) (r_Sh_isSeenBy_18 hX hC (Or.inr rfl) (by decide) (by simp [bI, seen, h]))
theorem k_Sh_hasWord (hl : l.stackTraces = false) {r c : Nat} (hr : r < 32) (hc : c ≤ 12) (hw : wc r = nI c) {w : Int64} : ab_K l M_Sh_hasWord (ab_r 1) (0, 0) [.ref 4, .int (nI r), .long w] (hf pd (sw, wc, sv, fy, ly, ro, ss, aw, dw) tr ru qu to al z) (fun q => q = (.inl (some (.int (bI (hasW sw r c w)))), hf pd (sw, wc, sv, fy, ly, ro, ss, aw, dw) tr ru qu to al z)) := by
  refine e_Sh_hasWord hl (by decide) (fun X hl1 hR hX hC => ?_)
  have hl2 : (X.2.1).stackTraces = false := by rw [hl1]; exact hl
  have hb : vp_in (nI r) 32 := vp_in_nI hr (by omega)
  have hcl : (nI r).toNatClampNeg = r := nI_clamp (by omega)
  refine t_Sh_hasWord_0_1 hX ?_
  have hloop : ∀ k i : Nat, i + k = c → (∀ j, j < i → ¬ sw (r * 12 + j) = w) → ab_W X M_Sh_hasWord (3, [(0, .ref 4), (1, .int (nI r)), (2, .long w), (4, .int (nI i))], [], hf pd (sw, wc, sv, fy, ly, ro, ss, aw, dw) tr ru qu to al z, 0, 0) := by
    intro k
    induction k with
    | zero =>
      intro i hi hN
      refine t_Sh_hasWord_3_2 hX hb (by rw [hcl, hw]; exact nI_le (by omega) (by omega)) (r_Sh_hasWord_35 hX hC (Or.inl rfl) (by decide) ?_)
      rw [hasW_f (fun j hj => hN j (by omega))]; rfl
    | succ k ih =>
      intro i hi hN
      obtain ⟨-, e2, e3⟩ := ab_i12 hr (show i < 12 by omega)
      refine t_Sh_hasWord_3_1 hX hb (by rw [hcl, hw]; exact nI_ge (by omega) (by omega)) (q_Sh_hasWord_18 hX (ab_conT hC) (k_Sh_wordOf hl2 e2) (by rw [hR]; decide) (fun v h' e => ?_) (fun E h' e => by cases e))
      cases e
      rw [e3]
      by_cases h0 : sw (r * 12 + i) = w
      · refine t_Sh_hasWord_21_1 hX ((lg_cmp_eq _ _).mpr h0) (r_Sh_hasWord_27 hX hC (Or.inr rfl) (by decide) ?_)
        rw [hasW_t (show i < c by omega) h0]; rfl
      · refine t_Sh_hasWord_21_2 hX (fun h => h0 ((lg_cmp_eq _ _).mp h)) ?_
        rw [nI_1]
        refine ih (i + 1) (by omega) (fun j hj => ?_)
        by_cases hji : j = i
        · rw [hji]; exact h0
        · exact hN j (by omega)
  exact hloop c 0 (by omega) (fun j hj => absurd hj (Nat.not_lt_zero j))
theorem k_Sh_hasYearWithin (hl : l.stackTraces = false) {r : Nat} (hr : r < 32) {a b : Int32} : ab_K l M_Sh_hasYearWithin (ab_r 0) (0, 0) [.ref 4, .int (nI r), .int a, .int b] (hf pd (sw, wc, sv, fy, ly, ro, ss, aw, dw) tr ru qu to al z) (fun q => q = (.inl (some (.int (bI (yW (fy r) (ly r) a b)))), hf pd (sw, wc, sv, fy, ly, ro, ss, aw, dw) tr ru qu to al z)) := by
  refine e_Sh_hasYearWithin hl (by decide) (fun X hl1 hR hX hC => ?_)
  have hb : vp_in (nI r) 32 := vp_in_nI hr (by omega)
  have hcl : (nI r).toNatClampNeg = r := nI_clamp (by omega)
  have hz : 0 ≤ ab_Rc X ∧ 0 ≤ ab_Rs X := ⟨Nat.zero_le _, Nat.zero_le _⟩
  by_cases h1 : fy r = -1
  · refine t_Sh_hasYearWithin_0_3 hX hb (by rw [hcl]; exact h1) (t_Sh_hasYearWithin_37_1 hX (r_Sh_hasYearWithin_38 hX hC (Or.inl rfl) (by decide) ?_))
    simp [bI, yW, h1]
  · by_cases h2 : (if b < ly r then b else ly r) < (if fy r < a then a else fy r)
    · refine t_Sh_hasYearWithin_0_2 hX hb (by rw [hcl]; exact h1) hb hz hb hz (by rw [hcl]; exact h2) (t_Sh_hasYearWithin_37_1 hX (r_Sh_hasYearWithin_38 hX hC (Or.inl rfl) (by decide) ?_))
      rw [show yW (fy r) (ly r) a b = false by unfold yW; rw [Bool.and_eq_false_iff]; exact Or.inr (decide_eq_false (fun q => q h2))]; rfl
    · refine t_Sh_hasYearWithin_0_1 hX hb (by rw [hcl]; exact h1) hb hz hb hz (by rw [hcl]; exact h2) (r_Sh_hasYearWithin_38 hX hC (Or.inr rfl) (by decide) ?_)
      rw [show yW (fy r) (ly r) a b = true by unfold yW; rw [decide_eq_true h1, decide_eq_true h2]; rfl]; rfl
end K3
/-- a value of a facet, or none -/
def okv (v : Int32) : Prop := v = -1 ∨ ∃ a : Nat, a < 16 ∧ v = nI a
def pO (tp : Nat → Int32) (f : Nat) (v : Int32) : Int32 := if v = -1 then -1 else tp (f * 16 + v.toNatClampNeg)
def uN (p : Int32 → Int32) (top : Int32) : Nat → Int32 → Bool
  | 0, _ => false
  | k + 1, a => if a = -1 then false else if a = top then true else uN p top k (p a)
def cU (p : Int32 → Int32) (f : Nat) : Nat → Int32 → (Nat → Int32) → (Nat → Int32)
  | 0, _, vc => vc
  | k + 1, a, vc => if a = -1 then vc else cU p f k (p a) (upd vc (f * 16 + a.toNatClampNeg) (vc (f * 16 + a.toNatClampNeg) + 1))
theorem ab_i16 {f a : Nat} (hf : f < 4) (ha : a < 16) : vp_in (nI f * 16 + nI a) 64 ∧ (nI f * 16 + nI a).toNatClampNeg = f * 16 + (nI a).toNatClampNeg := by
  have e : nI f * 16 + nI a = nI (f * 16 + a) := ab_lin f a 16
  exact ⟨by rw [e]; exact vp_in_nI (by omega) (by omega), by rw [e, nI_clamp (by omega), nI_clamp (by omega)]⟩
theorem okv_pO {tp : Nat → Int32} {f : Nat} (hf : f < 4) (hp : ∀ j, j < 64 → okv (tp j)) {v : Int32} (hv : okv v) : okv (pO tp f v) := by
  unfold pO
  split
  · exact Or.inl rfl
  · rename_i h
    obtain ⟨a, ha, rfl⟩ := hv.resolve_left h
    rw [nI_clamp (by omega)]
    exact hp _ (by omega)
section K4
variable {l : Launch} {pd : gt_pd} {sh : gt_sh} {ru : gt_ru} {qu : gt_qu} {to : gt_to} {al : gt_al} {z : List ab_C} {tp hr hp ts vc : Nat → Int32} {hz tt : Int32}
theorem k_Tr_parentOf (hl : l.stackTraces = false) {f : Nat} (h4 : f < 4) {v : Int32} (hv : okv v) : ab_K l M_Tr_parentOf (ab_r 0) (0, 0) [.ref 11, .int (nI f), .int v] (hf pd sh tp ru qu to al z) (fun q => q = (.inl (some (.int (pO tp f v))), hf pd sh tp ru qu to al z)) := by
  refine e_Tr_parentOf hl (by decide) (fun X hl1 hR hX hC => ?_)
  unfold pO at hC
  by_cases h : v = -1
  · rw [if_pos h] at hC
    exact t_Tr_parentOf_0_1 hX h (r_Tr_parentOf_20 hX hC (by decide) rfl)
  · rw [if_neg h] at hC
    obtain ⟨a, ha, rfl⟩ := hv.resolve_left h
    obtain ⟨e1, e2⟩ := ab_i16 h4 ha
    refine t_Tr_parentOf_0_2 hX h e1 (r_Tr_parentOf_20 hX hC (by decide) ?_)
    rw [e2]
theorem k_Tr_isUnder (hl : l.stackTraces = false) {f : Nat} (h4 : f < 4) (hq : ∀ j, j < 64 → okv (tp j)) {v top : Int32} (hv : okv v) : ab_K l M_Tr_isUnder (ab_r 1) (0, 0) [.ref 11, .int (nI f), .int v, .int top] (hf pd sh tp ru qu to al z) (fun q => q = (.inl (some (.int (bI (uN (pO tp f) top 16 (pO tp f v))))), hf pd sh tp ru qu to al z)) := by
  refine e_Tr_isUnder hl (by decide) (fun X hl1 hR hX hC => ?_)
  have hl2 : (X.2.1).stackTraces = false := by rw [hl1]; exact hl
  refine t_Tr_isUnder_0_1 hX (q_Tr_isUnder_3 hX (ab_conT hC) (k_Tr_parentOf hl2 h4 hv) (by rw [hR]; decide) (fun v h' e => ?_) (fun E h' e => by cases e))
  cases e
  refine t_Tr_isUnder_6_1 hX ?_
  obtain ⟨R9, hR9⟩ : ∃ R9, R9 = uN (pO tp f) top 16 (pO tp f v) := ⟨_, rfl⟩
  rw [← hR9] at hC
  have hloop : ∀ k i : Nat, i + k = 16 → ∀ a : Int32, okv a → uN (pO tp f) top k a = R9 → ab_W X M_Tr_isUnder (11, [(0, .ref 11), (1, .int (nI f)), (3, .int top), (4, .int a), (5, .int (nI i))], [], hf pd sh tp ru qu to al z, 0, 0) := by
    intro k
    induction k with
    | zero =>
      intro i hi a ha hN
      refine t_Tr_isUnder_11_4 hX (nI_le (a := 16) (by omega) (by omega)) (t_Tr_isUnder_47_1 hX (r_Tr_isUnder_48 hX hC (Or.inl rfl) (by decide) ?_))
      rw [← hN]; rfl
    | succ k ih =>
      intro i hi a ha hN
      have h16 := nI_ge (a := i) (b := 16) (by omega) (by omega)
      unfold uN at hN
      by_cases h1 : a = -1
      · rw [if_pos h1] at hN
        refine t_Tr_isUnder_11_3 hX h16 h1 (t_Tr_isUnder_47_1 hX (r_Tr_isUnder_48 hX hC (Or.inl rfl) (by decide) ?_))
        rw [← hN]; rfl
      · rw [if_neg h1] at hN
        by_cases h2 : a = top
        · rw [if_pos h2] at hN
          refine t_Tr_isUnder_11_1 hX h16 h1 h2 (r_Tr_isUnder_31 hX hC (Or.inr rfl) (by decide) ?_)
          rw [← hN]; rfl
        · rw [if_neg h2] at hN
          refine t_Tr_isUnder_11_2 hX h16 h1 h2 (q_Tr_isUnder_36 hX (ab_conT hC) (k_Tr_parentOf hl2 h4 ha) (by rw [hR]; decide) (fun v h' e => ?_) (fun E h' e => by cases e))
          cases e
          refine t_Tr_isUnder_39_1 hX ?_
          rw [nI_1]
          exact ih (i + 1) (by omega) _ (okv_pO h4 hq ha) hN
  exact hloop 16 0 rfl _ (okv_pO h4 hq hv) hR9.symm
theorem k_Tr_countWithAllAbove (hl : l.stackTraces = false) {f : Nat} (h4 : f < 4) (hq : ∀ j, j < 64 → okv (tp j)) {v : Int32} (hv : okv v) : ab_K l M_Tr_countWithAllAbove (ab_r 1) (0, 0) [.ref 11, .int (nI f), .int v, .ref 27] (hf pd sh tp ru qu (hr, hp, hz, ts, vc, tt) al z) (fun q => q = (.inl none, hf pd sh tp ru qu (hr, hp, hz, ts, cU (pO tp f) f 16 v vc, tt) al z)) := by
  refine e_Tr_countWithAllAbove hl (by decide) (fun X hl1 hR hX hC => ?_)
  have hl2 : (X.2.1).stackTraces = false := by rw [hl1]; exact hl
  refine t_Tr_countWithAllAbove_0_1 hX ?_
  obtain ⟨R9, hR9⟩ : ∃ R9, R9 = cU (pO tp f) f 16 v vc := ⟨_, rfl⟩
  rw [← hR9] at hC
  have hloop : ∀ k i : Nat, i + k = 16 → ∀ (a : Int32) (vc' : Nat → Int32), okv a → cU (pO tp f) f k a vc' = R9 → ab_W X M_Tr_countWithAllAbove (6, [(0, .ref 11), (1, .int (nI f)), (3, .ref 27), (4, .int a), (5, .int (nI i))], [], hf pd sh tp ru qu (hr, hp, hz, ts, vc', tt) al z, 0, 0) := by
    intro k
    induction k with
    | zero =>
      intro i hi a vc' ha hN
      refine t_Tr_countWithAllAbove_6_3 hX (nI_le (a := 16) (by omega) (by omega)) (r_Tr_countWithAllAbove_47 hX hC (by decide) ?_)
      rw [← hN]; rfl
    | succ k ih =>
      intro i hi a vc' ha hN
      have h16 := nI_ge (a := i) (b := 16) (by omega) (by omega)
      unfold cU at hN
      by_cases h1 : a = -1
      · rw [if_pos h1] at hN
        refine t_Tr_countWithAllAbove_6_2 hX h16 h1 (r_Tr_countWithAllAbove_47 hX hC (by decide) ?_)
        rw [← hN]
      · rw [if_neg h1] at hN
        obtain ⟨b, hb, rfl⟩ := ha.resolve_left h1
        obtain ⟨e1, e2⟩ := ab_i16 h4 hb
        refine t_Tr_countWithAllAbove_6_1 hX h16 h1 e1 e1 (q_Tr_countWithAllAbove_36 hX (ab_conT hC) (k_Tr_parentOf hl2 h4 (Or.inr ⟨b, hb, rfl⟩)) (by rw [hR]; decide) (fun v h' e => ?_) (fun E h' e => by cases e))
        cases e
        refine t_Tr_countWithAllAbove_39_1 hX ?_
        rw [nI_1, e2]
        exact ih (i + 1) (by omega) _ _ (okv_pO h4 hq (Or.inr ⟨b, hb, rfl⟩)) hN
  exact hloop 16 0 rfl _ _ hv hR9.symm
end K4
