/-! CONTRACTS: tellIfHit, ask, like -/
def sumT (S : Nat → Nat) : Nat → Nat
  | 0 => 0
  | t + 1 => sumT S t + S t
theorem sumT_le {S : Nat → Nat} (h : ∀ t, S t ≤ 10) : ∀ t, sumT S t ≤ 10 * t
  | 0 => Nat.le_refl _
  | t + 1 => by
    have h1 := sumT_le h t
    have h2 := h t
    unfold sumT
    omega
def hitB (S : Nat → Nat) (T : Nat) : Bool := (List.range T).all fun t => decide (¬ S t = 0)
theorem hitB_t {S : Nat → Nat} {T : Nat} : hitB S T = true ↔ ∀ t, t < T → ¬ S t = 0 := by
  unfold hitB
  rw [List.all_eq_true]
  exact ⟨fun h t ht => of_decide_eq_true (h t (List.mem_range.mpr ht)), fun h t ht => decide_eq_true (h t (List.mem_range.mp ht))⟩
def vcF (tp sv : Nat → Int32) (r : Nat) (vc : Nat → Int32) : Nat → (Nat → Int32)
  | 0 => vc
  | f + 1 => cU (pO tp f) f 16 (sv (r * 4 + f)) (vcF tp sv r vc f)
def scL (pf : Nat → Int32) (n : Nat) (sw : Nat → Int64) (sv fy ly tp : Nat → Int32) (cnt : Nat → Nat) (L : List gTm) (r t : Nat) : Nat := match L[t]? with
  | none => 0
  | some tm => scN pf n sw sv fy ly tp r (cnt r) tm
theorem scL_le (pf : Nat → Int32) (n : Nat) (sw : Nat → Int64) (sv fy ly tp : Nat → Int32) (cnt : Nat → Nat) (L : List gTm) (r t : Nat) : scL pf n sw sv fy ly tp cnt L r t ≤ 10 := by
  unfold scL
  split
  · omega
  · exact scN_le ..
abbrev gA : Type := (Nat → Int32) × (Nat → Int32) × Nat × (Nat → Int32)
/-- what is told of the records below r -/
def aSt (S : Nat → Nat → Nat) (T : Nat) (sn : Nat → Bool) (tp sv : Nat → Int32) (g0 : gA) : Nat → gA
  | 0 => g0
  | r + 1 => if sn r = true ∧ hitB (S r) T = true then ((insP (nI r) (nI (sumT (S r) T)) (aSt S T sn tp sv g0 r).2.2.1 (aSt S T sn tp sv g0 r).1 (aSt S T sn tp sv g0 r).2.1).1, (insP (nI r) (nI (sumT (S r) T)) (aSt S T sn tp sv g0 r).2.2.1 (aSt S T sn tp sv g0 r).1 (aSt S T sn tp sv g0 r).2.1).2, (aSt S T sn tp sv g0 r).2.2.1 + 1, vcF tp sv r (aSt S T sn tp sv g0 r).2.2.2 4) else aSt S T sn tp sv g0 r
theorem aSt_k {S : Nat → Nat → Nat} {T : Nat} {sn : Nat → Bool} {tp sv : Nat → Int32} {g0 : gA} (h0 : g0.2.2.1 = 0) : ∀ r, (aSt S T sn tp sv g0 r).2.2.1 ≤ r
  | 0 => by show g0.2.2.1 ≤ 0; omega
  | r + 1 => by
    have ih := aSt_k (S := S) (T := T) (sn := sn) (tp := tp) (sv := sv) h0 r
    unfold aSt
    split
    · show (aSt S T sn tp sv g0 r).2.2.1 + 1 ≤ r + 1
      omega
    · omega
def lkS (F : Nat → Nat) (g0 : (Nat → Int32) × (Nat → Int32) × Nat) : Nat → (Nat → Int32) × (Nat → Int32) × Nat
  | 0 => g0
  | o + 1 => if F o = 0 then lkS F g0 o else ((insP (nI o) (nI (F o)) (lkS F g0 o).2.2 (lkS F g0 o).1 (lkS F g0 o).2.1).1, (insP (nI o) (nI (F o)) (lkS F g0 o).2.2 (lkS F g0 o).1 (lkS F g0 o).2.1).2, (lkS F g0 o).2.2 + 1)
theorem lkS_k {F : Nat → Nat} {g0 : (Nat → Int32) × (Nat → Int32) × Nat} (h0 : g0.2.2 = 0) : ∀ r, (lkS F g0 r).2.2 ≤ r
  | 0 => by show g0.2.2 ≤ 0; omega
  | r + 1 => by
    have ih := lkS_k (F := F) h0 r
    unfold lkS
    split
    · omega
    · show (lkS F g0 r).2.2 + 1 ≤ r + 1
      omega
def facts (sw : Nat → Int64) (sv : Nat → Int32) (cnt : Nat → Nat) (r o : Nat) : Nat := if o = r then 0 else fwS sw r o (cnt o) (cnt r) + ffS sv r o 4
/-- what is read: as many as eight terms, as they must be -/
theorem rdS_le {pf : Nat → Int32} {n : Nat} : ∀ k a L b, a ≤ n → (rdS pf n k a L).1 = some b → b ≤ n
  | 0, a, L, b, ha, h => by
    unfold rdS at h
    split at h
    · cases h; omega
    · cases h
  | k + 1, a, L, b, ha, h => by
    unfold rdS at h
    split at h
    · rename_i h1
      have hp := pT_le (pf := pf) h1
      split at h
      · split at h
        · exact rdS_le k _ _ b (skS_le _ _ hp.2).2 h
        · cases h; exact hp.2
      · cases h; exact hp.2
    · cases h
theorem rdS_len {pf : Nat → Int32} {n : Nat} : ∀ k a L, (rdS pf n k a L).2.length ≤ L.length + k
  | 0, a, L => by
    unfold rdS
    split
    · exact Nat.le_refl _
    · exact Nat.le_refl _
  | k + 1, a, L => by
    unfold rdS
    split
    · split
      · split
        · have h := rdS_len (pf := pf) (n := n) k (skP pf n (pT pf n a).2.1) (L ++ [(pT pf n a).2.2])
          rw [List.length_append] at h
          have e : ([(pT pf n a).2.2] : List gTm).length = 1 := rfl
          omega
        · show L.length ≤ _; omega
      · show L.length ≤ _; omega
    · show L.length ≤ _; omega
theorem pT_ok {pf : Nat → Int32} {n a : Nat} (h : (pT pf n a).1 = true) : tmOk (pT pf n a).2.2 := by
  have hW : (pW pf n a).1 = true → tmOk (pW pf n a).2.2 := by
    intro h
    unfold pW at h ⊢
    split at h
    · cases h
    · rename_i h0
      rw [if_neg h0]
      split
      · exact Or.inr (Or.inl rfl)
      · exact Or.inl rfl
  unfold pT at h ⊢
  by_cases h1 : sgN pf n a = 64
  · rw [if_pos h1] at h ⊢
    unfold pY pY2
    split
    · exact Or.inr (Or.inr (Or.inr rfl))
    · split
      · exact Or.inr (Or.inr (Or.inr rfl))
      · exact Or.inr (Or.inr (Or.inr rfl))
  · rw [if_neg h1] at h ⊢
    by_cases h2 : sgN pf n a < 48
    · rw [if_pos h2] at h ⊢
      exact hW h
    · rw [if_neg h2] at h ⊢
      by_cases h3 : 52 ≤ sgN pf n a
      · rw [if_pos h3] at h ⊢
        exact hW h
      · rw [if_neg h3] at h ⊢
        unfold pV at h ⊢
        by_cases h4 : sgN pf n (a + 1) = 58
        · rw [if_pos h4]
          have h0 : ¬ sgN pf n a < 0 := by
            rw [Int32.lt_iff_toInt_lt] at h2 ⊢
            have e0 : (0 : Int32).toInt = 0 := rfl
            have e48 : (48 : Int32).toInt = 48 := rfl
            omega
          obtain ⟨j, hj, e⟩ := nI_of h0
          rw [e] at h2 h3
          have h48 : 48 ≤ j := by
            by_cases q : j < 48
            · exact absurd (nI_lt (b := 48) q (by omega)) h2
            · omega
          have h52 : j < 52 := by
            by_cases q : 52 ≤ j
            · exact absurd (nI_le (a := 52) q hj) h3
            · omega
          refine Or.inr (Or.inr (Or.inl ⟨rfl, j - 48, by omega, ?_⟩))
          show sgN pf n a - 48 = nI (j - 48)
          rw [e]
          exact pk_sub (b := 48) h48
        · rw [if_neg h4] at h
          cases h
theorem rdS_ok {pf : Nat → Int32} {n : Nat} : ∀ k a L, (∀ tm ∈ L, tmOk tm) → ∀ tm ∈ (rdS pf n k a L).2, tmOk tm
  | 0, a, L, hL => by
    unfold rdS
    split
    · exact hL
    · exact hL
  | k + 1, a, L, hL => by
    unfold rdS
    split
    · split
      · rename_i h1
        split
        · refine rdS_ok k _ _ (fun tm ht => ?_)
          rcases List.mem_append.mp ht with h | h
          · exact hL tm h
          · rw [List.mem_singleton.mp h]
            exact pT_ok h1
        · exact hL
      · exact hL
    · exact hL
section K14
variable {l : Launch} {pd : gt_pd} {sh : gt_sh} {tr : gt_tr} {ru : gt_ru} {qu : gt_qu} {to : gt_to} {al : gt_al} {z : List ab_C} {sw : Nat → Int64} {wc sv fy ly ro pf tp hr hp ts vc ar ap : Nat → Int32} {ss aw dw pn hz tt az : Int32}
set_option maxHeartbeats 1000000 in
theorem k_Fs_tellIfHit (hl : l.stackTraces = false) {r n k : Nat} {cnt : Nat → Nat} {L : List gTm} {pf0 : Nat → Int32} (hr32 : r < 32) (hk : k < 32) (hc : cnt r ≤ 12) (hw : wc r = nI (cnt r)) (hq : ∀ j, j < 64 → okv (tp j)) (hv : ∀ f, f < 4 → okv (sv (r * 4 + f))) (hL : L.length ≤ 8) (hz0 : qu.2.2.2.2.1 = nI L.length) (hall : qAll pf0 n qu L) (hok : ∀ tm ∈ L, tmOk tm) :
    ab_K l M_Fs_tellIfHit (ab_r 5) (0, 0) [.ref 1, .int (nI r)] (hf pd (sw, wc, sv, fy, ly, ro, ss, aw, dw) tp ru qu (hr, hp, nI k, ts, vc, tt) al z)
      (fun q => ∃ (ru' : gt_ru) (ts' : Nat → Int32), (∀ j, (j < r * 8 ∨ r * 8 + 8 ≤ j) → ts' j = ts j) ∧ ((hitB (scL pf0 n sw sv fy ly tp cnt L r) L.length = false ∧ q = (.inl none, hf pd (sw, wc, sv, fy, ly, ro, ss, aw, dw) tp ru' qu (hr, hp, nI k, ts', vc, tt) al z)) ∨
        (hitB (scL pf0 n sw sv fy ly tp cnt L r) L.length = true ∧ (∀ t, t < L.length → ts' (r * 8 + t) = nI (scL pf0 n sw sv fy ly tp cnt L r t)) ∧ q = (.inl none, hf pd (sw, wc, sv, fy, ly, ro, ss, aw, dw) tp ru' qu ((insP (nI r) (nI (sumT (scL pf0 n sw sv fy ly tp cnt L r) L.length)) k hr hp).1, (insP (nI r) (nI (sumT (scL pf0 n sw sv fy ly tp cnt L r) L.length)) k hr hp).2, nI (k + 1), ts', vcF tp sv r vc 4, tt) al z)))) := by
  refine e_Fs_tellIfHit hl (by decide) (fun X hl1 hR hX hC => ?_)
  have hl2 : (X.2.1).stackTraces = false := by rw [hl1]; exact hl
  have hS10 : ∀ t, scL pf0 n sw sv fy ly tp cnt L r t ≤ 10 := fun t => scL_le ..
  obtain ⟨S, hS⟩ : ∃ S, S = scL pf0 n sw sv fy ly tp cnt L r := ⟨_, rfl⟩
  rw [← hS] at hC hS10
  have hsum := sumT_le hS10
  refine t_Fs_tellIfHit_0_1 hX ?_
  have hloop2 : ∀ (j f : Nat) (ru9 : gt_ru) (ts9 : Nat → Int32), f + j = 4 → (∀ j, (j < r * 8 ∨ r * 8 + 8 ≤ j) → ts9 j = ts j) → (∀ t, t < L.length → ts9 (r * 8 + t) = nI (S t)) → hitB S L.length = true →
      ab_W X M_Fs_tellIfHit (70, [(0, .ref 1), (1, .int (nI r)), (3, .int (nI f))], [], hf pd (sw, wc, sv, fy, ly, ro, ss, aw, dw) tp ru9 qu ((insP (nI r) (nI (sumT S L.length)) k hr hp).1, (insP (nI r) (nI (sumT S L.length)) k hr hp).2, nI (k + 1), ts9, vcF tp sv r vc f, tt) al z, 0, 0) := by
    intro j
    induction j with
    | zero =>
      intro f ru9 ts9 hf h1 h2 h3
      have e : f = 4 := by omega
      subst e
      exact t_Fs_tellIfHit_70_2 hX (nI_le (a := 4) (by omega) (by omega)) (r_Fs_tellIfHit_105 hX hC (by decide) ⟨ru9, ts9, h1, Or.inr ⟨h3, h2, rfl⟩⟩)
    | succ j ih =>
      intro f ru9 ts9 hf h1 h2 h3
      obtain ⟨-, e2, e3⟩ := ab_j4 hr32 (show f < 4 by omega)
      refine t_Fs_tellIfHit_70_1 hX (nI_ge (b := 4) (by omega) (by omega)) (q_Fs_tellIfHit_86 hX (ab_conT hC) (k_Sh_valueOf hl2 e2) (by rw [hR]; decide) (fun v h' e => ?_) (fun E h' e => by cases e))
      cases e
      rw [e3]
      refine t_Fs_tellIfHit_89_1 hX (q_Fs_tellIfHit_96 hX (ab_conT hC) (k_Tr_countWithAllAbove hl2 (by omega) hq (hv f (by omega))) (by rw [hR]; decide) (fun v h' e => ?_) (fun E h' e => by cases e))
      cases e
      refine t_Fs_tellIfHit_99_1 hX ?_
      rw [nI_1]
      exact ih (f + 1) ru9 ts9 (by omega) h1 h2 h3
  have hloop : ∀ (j i : Nat) (ru9 : gt_ru) (ts9 : Nat → Int32), i + j = L.length → (∀ j, (j < r * 8 ∨ r * 8 + 8 ≤ j) → ts9 j = ts j) → (∀ t, t < i → ts9 (r * 8 + t) = nI (S t) ∧ ¬ S t = 0) →
      ab_W X M_Fs_tellIfHit (4, [(0, .ref 1), (1, .int (nI r)), (2, .int (nI (sumT S i))), (3, .int (nI i))], [], hf pd (sw, wc, sv, fy, ly, ro, ss, aw, dw) tp ru9 qu (hr, hp, nI k, ts9, vc, tt) al z, 0, 0) := by
    intro j
    induction j with
    | zero =>
      intro i ru9 ts9 hi h1 h2
      have e : i = L.length := by omega
      subst e
      have hget : qu.2.2.2.2.1 ≤ nI L.length := by rw [hz0]; exact nI_le (Nat.le_refl _) (by omega)
      obtain ⟨kd, qw, qf, qs, qz, qa⟩ := qu
      refine t_Fs_tellIfHit_4_2 hX hget (q_Fs_tellIfHit_65 hX (ab_conT hC) (k_Ra_put_h hl2 hk rfl) (by rw [hR]; decide) (fun v h' e => ?_) (fun E h' e => by cases e))
      cases e
      exact t_Fs_tellIfHit_68_1 hX (hloop2 4 0 ru9 ts9 rfl h1 (fun t ht => (h2 t ht).1) (hitB_t.mpr (fun t ht => (h2 t ht).2)))
    | succ j ih =>
      intro i ru9 ts9 hi h1 h2
      have hget : ¬ qu.2.2.2.2.1 ≤ nI i := by rw [hz0]; exact nI_ge (by omega) (by omega)
      have hLi : L[i]? = some (L[i]'(by omega)) := List.getElem?_eq_getElem (by omega)
      have hSi : S i = scN pf0 n sw sv fy ly tp r (cnt r) (L[i]'(by omega)) := by rw [hS]; unfold scL; rw [hLi]
      have hts := k_Fs_termScore (l := X.2.1) (pd := pd) (sw := sw) (wc := wc) (sv := sv) (fy := fy) (ly := ly) (ro := ro) (ss := ss) (aw := aw) (dw := dw) (tp := tp) (ru := ru9) (qu := qu) (to := (hr, hp, nI k, ts9, vc, tt)) (al := al) (z := z) hl2 (r := r) (t := i) hr32 (by omega) hc hw hq hv (hok _ (List.getElem_mem (by omega))) (hall i _ hLi)
      rw [← hSi] at hts
      obtain ⟨kd, qw, qf, qs, qz, qa⟩ := qu
      refine t_Fs_tellIfHit_4_1 hX hget (q_Fs_tellIfHit_18 hX (ab_conT hC) hts (by rw [hR]; decide) (fun v h' e => ?_) (fun E h' e => by obtain ⟨g, e⟩ := e; cases e))
      obtain ⟨g, e⟩ := e
      cases e
      have h10 := hS10 i
      by_cases h0 : S i = 0
      · refine t_Fs_tellIfHit_21_1 hX (by rw [h0]; rfl) (r_Fs_tellIfHit_28 hX hC (by decide) ⟨g, ts9, h1, Or.inl ⟨?_, rfl⟩⟩)
        cases hh : hitB S L.length with
        | false => rfl
        | true => exact absurd h0 (hitB_t.mp hh i (by omega))
      · have e8 : nI r * 8 + nI i = nI (r * 8 + i) := ab_lin r i 8
        refine t_Fs_tellIfHit_21_2 hX (nI_ne0 (by omega) (by omega)) (by rw [e8]; exact vp_in_nI (by omega) (by omega)) ?_
        rw [e8, nI_clamp (by omega), nI_add, nI_1]
        refine ih (i + 1) g _ (by omega) (fun j hj => ?_) (fun t ht => ?_)
        · rw [pk_un (by omega)]; exact h1 j hj
        · by_cases e : t = i
          · rw [e, pk_us]; exact ⟨rfl, h0⟩
          · rw [pk_un (by omega)]; exact h2 t (by omega)
  exact hloop L.length 0 ru ts (by omega) (fun _ _ => rfl) (fun t ht => absurd ht (Nat.not_lt_zero t))
set_option maxHeartbeats 1000000 in
theorem k_Fs_ask (hl : l.stackTraces = false) {x : Int32} {n m : Nat} {cnt : Nat → Nat} (hn : n ≤ 32) (hm : m ≤ 60) (hc : ∀ r, r < n → cnt r ≤ 12 ∧ wc r = nI (cnt r)) (hq : ∀ j, j < 64 → okv (tp j)) (hv : ∀ j, j < 128 → okv (sv j)) :
    ab_K l M_Fs_ask (ab_x 4) (0, 0) [.ref 1, .int x] (hf (pf, nI m) (sw, wc, sv, fy, ly, ro, nI n, aw, dw) tp ru qu (hr, hp, hz, ts, vc, tt) al z)
      (fun q => if ¬ x < 0 ∧ x < 8 then (match (rdS pf m 8 (skP pf m 0) []).1 with
        | some a => ∃ qu' : gt_qu, q = (.inl (some (.int (-1 - nI a))), hf (pf, nI m) (sw, wc, sv, fy, ly, ro, nI n, aw, dw) tp ru qu' (hr, hp, hz, ts, vc, tt) al z)
        | none => ∃ (ru' : gt_ru) (qu' : gt_qu) (ts' vc0 : Nat → Int32) (g : gA), (∀ j, j < 64 → vc0 j = 0) ∧ g = aSt (scL pf m sw sv fy ly tp cnt (rdS pf m 8 (skP pf m 0) []).2) (rdS pf m 8 (skP pf m 0) []).2.length (fun r => seen (ro r) x) tp sv (hr, hp, 0, vc0) n ∧
            (∀ r, r < n → seen (ro r) x = true → hitB (scL pf m sw sv fy ly tp cnt (rdS pf m 8 (skP pf m 0) []).2 r) (rdS pf m 8 (skP pf m 0) []).2.length = true → ∀ t, t < (rdS pf m 8 (skP pf m 0) []).2.length → ts' (r * 8 + t) = nI (scL pf m sw sv fy ly tp cnt (rdS pf m 8 (skP pf m 0) []).2 r t)) ∧
            q = (.inl (some (.int (nI g.2.2.1))), hf (pf, 0) (sw, wc, sv, fy, ly, ro, nI n, aw, dw) tp ru' qu' (g.1, g.2.1, nI g.2.2.1, ts', g.2.2.2, nI (rdS pf m 8 (skP pf m 0) []).2.length) al z))
       else q = (.inr x_ns, hf (pf, nI m) (sw, wc, sv, fy, ly, ro, nI n, aw, dw) tp ru qu (hr, hp, hz, ts, vc, tt) al z)) := by
  refine e_Fs_ask hl (by decide) (fun X hl1 hR hX hC => ?_)
  have hl2 : (X.2.1).stackTraces = false := by rw [hl1]; exact hl
  refine t_Fs_ask_0_1 hX (q_Fs_ask_1 hX (ab_conT hC) (k_Fs_requireRole hl2) (by rw [hR]; decide) (fun v h' e => ?_) (fun E h' e => ?_))
  · obtain ⟨c1, rfl, rfl⟩ := ab_ck_r e
    refine t_Fs_ask_4_1 hX (q_Fs_ask_8 hX (ab_conT hC) (k_Qu_read hl2 hm) (by rw [hR]; decide) (fun v h' e => ?_) (fun E h' e => by obtain ⟨g, e, -⟩ := e; cases e))
    obtain ⟨q1, e, hq1⟩ := e
    cases e
    have hok := rdS_ok (pf := pf) (n := m) 8 (skP pf m 0) [] (fun tm ht => by cases ht)
    have hlen := rdS_len (pf := pf) (n := m) 8 (skP pf m 0) []
    have hle := rdS_le (pf := pf) (n := m) 8 (skP pf m 0) []
    generalize rdS pf m 8 (skP pf m 0) [] = R9 at hC hok hlen hle hq1 ⊢
    obtain ⟨o9, L⟩ := R9
    dsimp only at hC hok hlen hle hq1
    have hlen : L.length ≤ 8 := Nat.le_trans hlen (by decide)
    cases o9 with
    | some a =>
      have hne : ¬ rdV (some a, L) = -1 := fun q => nI_pos (n := a) (by have := hle a (skS_le _ _ (Nat.zero_le m)).2 rfl; omega) (by rw [show nI a = -1 from q]; decide)
      obtain ⟨kd, qw, qf, qs, qz, qa⟩ := q1
      refine t_Fs_ask_11_1 hX hne (r_Fs_ask_20 hX hC (by decide) ?_)
      rw [if_pos c1]
      exact ⟨_, rfl⟩
    | none =>
      obtain ⟨z1, z2⟩ := hq1 rfl
      obtain ⟨kd, qw, qf, qs, qz, qa⟩ := q1
      refine t_Fs_ask_11_2 hX rfl (q_Fs_ask_32 hX (ab_conT hC) (k_To_begin hl2) (by rw [hR]; decide) (fun v h' e => ?_) (fun E h' e => by obtain ⟨g, e, -⟩ := e; cases e))
      obtain ⟨vc0, e, hvc⟩ := e
      cases e
      change qz = nI L.length at z1
      subst z1
      refine t_Fs_ask_35_1 hX ?_
      obtain ⟨S, hS⟩ : ∃ S, S = scL pf m sw sv fy ly tp cnt L := ⟨_, rfl⟩
      have hloop : ∀ (j r : Nat) (ru9 : gt_ru) (ts9 : Nat → Int32), r + j = n → (∀ r', r' < r → seen (ro r') x = true → hitB (S r') L.length = true → ∀ t, t < L.length → ts9 (r' * 8 + t) = nI (S r' t)) →
          ab_W X M_Fs_ask (37, [(0, .ref 1), (1, .int x), (3, .int (nI r))], [], hf (pf, nI m) (sw, wc, sv, fy, ly, ro, nI n, aw, dw) tp ru9 (kd, qw, qf, qs, nI L.length, qa) ((aSt S L.length (fun r => seen (ro r) x) tp sv (hr, hp, 0, vc0) r).1, (aSt S L.length (fun r => seen (ro r) x) tp sv (hr, hp, 0, vc0) r).2.1, nI (aSt S L.length (fun r => seen (ro r) x) tp sv (hr, hp, 0, vc0) r).2.2.1, ts9, (aSt S L.length (fun r => seen (ro r) x) tp sv (hr, hp, 0, vc0) r).2.2.2, nI L.length) al z, 0, 0) := by
        intro j
        induction j with
        | zero =>
          intro r ru9 ts9 hj h1
          have e : r = n := by omega
          subst e
          refine t_Fs_ask_37_2 hX (nI_le (Nat.le_refl _) (by omega)) (r_Fs_ask_89 hX hC (by decide) ?_)
          rw [if_pos c1]
          exact ⟨ru9, _, ts9, vc0, _, hvc, by rw [hS], by rw [← hS]; exact h1, rfl⟩
        | succ j ih =>
          intro r ru9 ts9 hj h1
          refine t_Fs_ask_37_1 hX (nI_ge (by omega) (by omega)) (q_Fs_ask_54 hX (ab_conT hC) (k_Sh_isSeenBy hl2 (by omega)) (by rw [hR]; decide) (fun v h' e => ?_) (fun E h' e => by cases e))
          cases e
          have hkk := aSt_k (S := S) (T := L.length) (sn := fun r => seen (ro r) x) (tp := tp) (sv := sv) (g0 := (hr, hp, 0, vc0)) rfl r
          cases hs : seen (ro r) x with
          | false =>
            have hst : aSt S L.length (fun r => seen (ro r) x) tp sv (hr, hp, 0, vc0) (r + 1) = aSt S L.length (fun r => seen (ro r) x) tp sv (hr, hp, 0, vc0) r := by rw [aSt]; exact if_neg (fun q => by rw [hs] at q; cases q.1)
            refine t_Fs_ask_57_2 hX rfl (t_Fs_ask_65_1 hX ?_)
            have h9 := ih (r + 1) ru9 ts9 (by omega) (fun r' hr' h2 h3 t ht => by
              by_cases e : r' = r
              · rw [e, hs] at h2; cases h2
              · exact h1 r' (by omega) h2 h3 t ht)
            rw [hst] at h9
            rw [nI_1]
            exact h9
          | true =>
            refine t_Fs_ask_57_1 hX (by decide) (q_Fs_ask_62 hX (ab_conT hC) (k_Fs_tellIfHit (cnt := cnt) (n := m) (pf0 := pf) hl2 (by omega) (by omega) (hc r (by omega)).1 (hc r (by omega)).2 hq (fun f hf => hv _ (by omega)) hlen rfl z2 hok) (by rw [hR]; decide) (fun v h' e => ?_) (fun E h' e => by obtain ⟨g, g2, -, e⟩ := e; rcases e with ⟨-, e⟩ | ⟨-, -, e⟩ <;> cases e))
            obtain ⟨ru8, ts8, f1, e⟩ := e
            rw [← hS] at e
            rcases e with ⟨f2, e⟩ | ⟨f2, f3, e⟩
            · cases e
              have hst : aSt S L.length (fun r => seen (ro r) x) tp sv (hr, hp, 0, vc0) (r + 1) = aSt S L.length (fun r => seen (ro r) x) tp sv (hr, hp, 0, vc0) r := by rw [aSt]; exact if_neg (fun q => by rw [f2] at q; cases q.2)
              refine t_Fs_ask_65_1 hX ?_
              have h9 := ih (r + 1) ru8 ts8 (by omega) (fun r' hr' h2 h3 t ht => by
                by_cases e : r' = r
                · rw [e, f2] at h3; cases h3
                · rw [f1 _ (by omega)]
                  exact h1 r' (by omega) h2 h3 t ht)
              rw [hst] at h9
              rw [nI_1]
              exact h9
            · cases e
              refine t_Fs_ask_65_1 hX ?_
              have h9 := ih (r + 1) ru8 ts8 (by omega) (fun r' hr' h2 h3 t ht => by
                by_cases e : r' = r
                · rw [e]; exact f3 t ht
                · rw [f1 _ (by omega)]
                  exact h1 r' (by omega) h2 h3 t ht)
              rw [aSt, if_pos ⟨hs, f2⟩] at h9
              rw [nI_1]
              exact h9
      exact hloop n 0 ru ts (by omega) (fun r' hr' => absurd hr' (Nat.not_lt_zero r'))
  · obtain ⟨c1, rfl, rfl⟩ := ab_ck_t e
    refine ab_out hX hC rfl (by rw [hR]; decide) ?_
    rw [if_neg c1]
set_option maxHeartbeats 1000000 in
theorem k_Fs_like (hl : l.stackTraces = false) {x1 x2 : Int32} {n : Nat} {cnt : Nat → Nat} (hn : n ≤ 32) (hc : ∀ r, r < n → cnt r ≤ 12 ∧ wc r = nI (cnt r)) : ab_K l M_Fs_like (ab_x 1) (0, 0) [.ref 1, .int x1, .int x2] (hf pd (sw, wc, sv, fy, ly, ro, nI n, aw, dw) tr ru qu to (ar, ap, az) z)
    (fun q => ∃ al' : gt_al, q = (if (¬ x1 < 0 ∧ x1 < nI n) ∧ 0 ≤ x2 then .inl (some (.int (if x2 < nI (lkS (facts sw sv cnt x1.toNatClampNeg) (ar, ap, 0) n).2.2 then (lkS (facts sw sv cnt x1.toNatClampNeg) (ar, ap, 0) n).1 x2.toNatClampNeg else -1))) else .inr x_ns, hf pd (sw, wc, sv, fy, ly, ro, nI n, aw, dw) tr ru qu to al' z)) := by
  refine e_Fs_like hl (by decide) (fun X hl1 hR hX hC => ?_)
  have hl2 : (X.2.1).stackTraces = false := by rw [hl1]; exact hl
  refine t_Fs_like_0_1 hX (q_Fs_like_2 hX (ab_conT hC) (k_Fs_requireRecord hl2) (by rw [hR]; decide) (fun v h' e => ?_) (fun E h' e => ?_))
  · obtain ⟨c1, rfl, rfl⟩ := ab_ck_r e
    by_cases h0 : 0 ≤ x2
    · rw [if_pos ⟨c1, h0⟩] at hC
      obtain ⟨r, hr, rfl⟩ := ab_ofI c1.1 c1.2 (by omega)
      have hcl : (nI r).toNatClampNeg = r := nI_clamp (by omega)
      rw [hcl] at hC
      obtain ⟨F, hF⟩ : ∃ F, F = facts sw sv cnt r := ⟨_, rfl⟩
      rw [← hF] at hC
      obtain ⟨wr1, wr2⟩ := hc r hr
      refine t_Fs_like_5_2 hX h0 ?_
      have hloop : ∀ (j o : Nat), o + j = n → ab_W X M_Fs_like (29, [(0, .ref 1), (1, .int (nI r)), (2, .int x2), (3, .int (nI o))], [], hf pd (sw, wc, sv, fy, ly, ro, nI n, aw, dw) tr ru qu to ((lkS F (ar, ap, 0) o).1, (lkS F (ar, ap, 0) o).2.1, nI (lkS F (ar, ap, 0) o).2.2) z, 0, 0) := by
        intro j
        induction j with
        | zero =>
          intro o hj
          have e : o = n := by omega
          subst e
          have hkk := lkS_k (F := F) (g0 := (ar, ap, 0)) rfl o
          by_cases h2 : x2 < nI (lkS F (ar, ap, 0) o).2.2
          · rw [if_pos h2] at hC
            have hx : ¬ x2 < 0 := by
              rw [Int32.le_iff_toInt_le] at h0
              rw [Int32.lt_iff_toInt_lt]
              omega
            obtain ⟨b, hb, e2⟩ := ab_ofI hx h2 (by omega)
            refine t_Fs_like_29_3 hX (nI_le (Nat.le_refl _) (by omega)) (i32_nle.mpr h2) (by rw [e2]; exact vp_in_nI (by omega) (by omega)) (r_Fs_like_105 hX hC (by decide) ⟨_, rfl⟩)
          · rw [if_neg h2] at hC
            refine t_Fs_like_29_4 hX (nI_le (Nat.le_refl _) (by omega)) (Decidable.byContradiction (fun q => h2 (i32_nle.mp q))) (r_Fs_like_105 hX hC (by decide) ⟨_, rfl⟩)
        | succ j ih =>
          intro o hj
          have hlt : ¬ nI n ≤ nI o := nI_ge (by omega) (by omega)
          have hkk := lkS_k (F := F) (g0 := (ar, ap, 0)) rfl o
          have h9 := ih (o + 1) (by omega)
          have hgo : F o ≤ 16 → ab_W X M_Fs_like (58, [(0, .ref 1), (1, .int (nI r)), (2, .int x2), (3, .int (nI o))], [.int (nI (F o))], hf pd (sw, wc, sv, fy, ly, ro, nI n, aw, dw) tr ru qu to ((lkS F (ar, ap, 0) o).1, (lkS F (ar, ap, 0) o).2.1, nI (lkS F (ar, ap, 0) o).2.2) z, 0, 0) := by
            intro hF16
            by_cases hz : F o = 0
            · rw [lkS, if_pos hz] at h9
              refine t_Fs_like_58_2 hX (by rw [hz]; decide) (t_Fs_like_75_1 hX ?_)
              rw [nI_1]
              exact h9
            · rw [lkS, if_neg hz] at h9
              refine t_Fs_like_58_1 hX (nI_nle (by omega) (by omega)) (q_Fs_like_72 hX (ab_conT hC) (k_Ra_put_a hl2 (by omega) rfl) (by rw [hR]; decide) (fun v h' e => ?_) (fun E h' e => by cases e))
              cases e
              refine t_Fs_like_75_1 hX ?_
              rw [nI_1]
              exact h9
          by_cases h1 : o = r
          · have hz : F o = 0 := by rw [hF]; unfold facts; rw [if_pos h1]
            have h8 := hgo (by omega)
            rw [hz] at h8
            exact t_Fs_like_29_1 hX hlt (by rw [h1]) h8
          · obtain ⟨wo1, wo2⟩ := hc o (by omega)
            have hf : F o = fwS sw r o (cnt o) (cnt r) + ffS sv r o 4 := by rw [hF]; unfold facts; rw [if_neg h1]
            have b1 := fwS_le sw r o (cnt o) (cnt r)
            have b2 := ffS_le sv r o 4
            refine t_Fs_like_29_2 hX hlt (fun q => h1 ((nI_eq (by omega) (by omega)).mp q)) (q_Fs_like_55 hX (ab_conT hC) (k_Sh_factsShared hl2 (by omega) (by omega) wr1 wo1 wr2 wo2) (by rw [hR]; decide) (fun v h' e => ?_) (fun E h' e => by cases e))
            cases e
            rw [← hf]
            exact hgo (by omega)
      exact hloop n 0 (by omega)
    · rw [if_neg (fun q => h0 q.2)] at hC
      exact t_Fs_like_5_1 hX h0 (w_Fs_like_9 hX hC (by rw [hR]; decide) ⟨_, rfl⟩)
  · obtain ⟨c1, rfl, rfl⟩ := ab_ck_t e
    rw [if_neg (fun q => c1 q.1)] at hC
    exact ab_out hX hC rfl (by rw [hR]; decide) ⟨_, rfl⟩
end K14
