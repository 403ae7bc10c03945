/-! a word is added -/
theorem cp_in {nt ma : Nat → Int32} {w : Nat} : ∀ m j, j < m → cpL nt ma w m (10 * w + j) = ma j
  | 0, j, h => by omega
  | m + 1, j, h => by
    unfold cpL
    by_cases e : j = m
    · rw [e, up_s]
    · rw [up_n (by omega)]
      exact cp_in m j (by omega)
theorem cp_out {nt ma : Nat → Int32} {w : Nat} : ∀ m i, (i < 10 * w ∨ 10 * w + m ≤ i) → cpL nt ma w m i = nt i
  | 0, i, h => rfl
  | m + 1, i, h => by
    unfold cpL
    rw [up_n (by omega)]
    exact cp_out m i (by omega)
theorem used_ok {sw : Nat → Int64} {ny nl nt : Nat → Int32} {n : Nat} (hW : jW sw ny nl nt n) {v : Nat} (hu : useW (cnF ny) v = true) : wdOk nl nt v ∧ v / 12 < n := by
  unfold useW at hu
  have h1 := of_decide_eq_true hu
  have h2 : v / 12 < n := by
    by_cases q : v / 12 < n
    · exact q
    · rw [hW.2.1 (v / 12) (by omega)] at h1
      omega
  have h3 := hW.2.2.1 (v / 12) h2 (v % 12) h1
  rw [Nat.div_add_mod] at h3
  exact ⟨h3, h2⟩
theorem kn_iff {sw : Nat → Int64} {ny nl nt : Nat → Int32} {n : Nat} (hW : jW sw ny nl nt n) {w : Int64} : knW sw (cnF ny) n w = true ↔ w ∈ uL (mw nl nt) (cnF ny) (12 * n) := by
  unfold knW
  rw [List.any_eq_true, mem_uL]
  constructor
  · rintro ⟨r, h1, h2⟩
    have h1 := List.mem_range.mp h1
    obtain ⟨i, hi, e⟩ := mem_wls.mp ((hW.2.2.2 r h1).2.mem_iff.mp (hasW_iff.mp h2))
    have h12 := (hW.1 r).1
    refine ⟨12 * r + i, by omega, ?_, e⟩
    unfold useW
    rw [show (12 * r + i) / 12 = r by omega, show (12 * r + i) % 12 = i by omega]
    exact decide_eq_true hi
  · rintro ⟨v, h1, h2, h3⟩
    have h4 : v / 12 < n := by omega
    refine ⟨v / 12, List.mem_range.mpr h4, hasW_iff.mpr ((hW.2.2.2 _ h4).2.mem_iff.mpr (mem_wls.mpr ⟨v % 12, ?_, ?_⟩))⟩
    · unfold useW at h2
      exact of_decide_eq_true h2
    · rw [Nat.div_add_mod]; exact h3
theorem sumT_up {f g : Nat → Nat} {r : Nat} (h : ∀ i, i ≠ r → g i = f i) (h1 : g r = f r + 1) : ∀ n, (n ≤ r → sumT g n = sumT f n) ∧ (r < n → sumT g n = sumT f n + 1)
  | 0 => ⟨fun _ => rfl, fun h => by omega⟩
  | n + 1 => by
    obtain ⟨i1, i2⟩ := sumT_up h h1 n
    constructor
    · intro hn
      show sumT g n + g n = sumT f n + f n
      rw [i1 (by omega), h n (by omega)]
    · intro hn
      show sumT g n + g n = sumT f n + f n + 1
      by_cases e : n = r
      · subst e
        rw [i1 (Nat.le_refl _), h1]
        omega
      · rw [i2 (by omega), h n e]
        omega
theorem cn_up {ny : Nat → Int32} {r k : Nat} (hk : k ≤ 12) : ∀ i, cnF (upd ny r (nI k)) i = if i = r then k else cnF ny i := by
  intro i
  show (upd ny r (nI k) i).toNatClampNeg = _
  by_cases e : i = r
  · rw [e, up_s, if_pos rfl, nI_clamp (by omega)]
  · rw [up_n e, if_neg e]
theorem jW_add {sw : Nat → Int64} {ny nl nt ma : Nat → Int32} {n m r : Nat} (hW : jW sw ny nl nt n) (h32 : n ≤ 32) (hr : r < n) (hc : cnF ny r < 12) (e : lnP ma m 0 = m) (h1 : 1 ≤ m) (hnot : ¬ lfW ma m 0 10 0 0 ∈ wls sw (r * 12) (cnF ny r)) :
    jW (insL (r * 12) (lfW ma m 0 10 0 0) (cnF ny r) sw) (upd ny r (nI (cnF ny r + 1))) (upd nl (12 * r + cnF ny r) (nI m)) (cpL nt ma (12 * r + cnF ny r) m) n ∧
    dfS (cpL nt ma (12 * r + cnF ny r) m) (lnF (upd nl (12 * r + cnF ny r) (nI m))) (cnF (upd ny r (nI (cnF ny r + 1)))) (12 * n) = dfS nt (lnF nl) (cnF ny) (12 * n) + (if knW sw (cnF ny) n (lfW ma m 0 10 0 0) = true then 0 else 1) := by
  have hm10 : m ≤ 10 := by have := lnP_le ma m 0; omega
  obtain ⟨w0, hw0⟩ : ∃ w0, w0 = 12 * r + cnF ny r := ⟨_, rfl⟩
  obtain ⟨c, hcc⟩ : ∃ c, c = cnF ny r := ⟨_, rfl⟩
  rw [← hw0]
  have hcn := cn_up (ny := ny) (r := r) (k := cnF ny r + 1) (by omega)
  have hlv : ∀ v, v ≠ w0 → lnF (upd nl w0 (nI m)) v = lnF nl v := fun v hv => by
    show (upd nl w0 (nI m) v).toNatClampNeg = _
    rw [up_n hv]
  have hl0 : lnF (upd nl w0 (nI m)) w0 = m := by
    show (upd nl w0 (nI m) w0).toNatClampNeg = _
    rw [up_s, nI_clamp (by omega)]
  have hnt : ∀ v, v ≠ w0 → ∀ j, j < 10 → cpL nt ma w0 m (10 * v + j) = nt (10 * v + j) := fun v hv j hj => cp_out m _ (by omega)
  have hok : ∀ v, v ≠ w0 → wdOk nl nt v → wdOk (upd nl w0 (nI m)) (cpL nt ma w0 m) v := fun v hv h => by
    have h10 := h.1.2.1
    refine ⟨⟨h.1.1, by rw [hlv v hv]; exact h.1.2.1, by rw [hlv v hv, up_n hv]; exact h.1.2.2⟩, by rw [hlv v hv]; exact h.2.1, fun j hj => ?_⟩
    rw [hlv v hv] at hj
    rw [hnt v hv j (by omega)]
    exact h.2.2 j hj
  have hok0 : wdOk (upd nl w0 (nI m)) (cpL nt ma w0 m) w0 := by
    refine ⟨⟨by omega, by rw [hl0]; exact hm10, by rw [hl0, up_s]⟩, by rw [hl0]; exact h1, fun j hj => ?_⟩
    rw [hl0] at hj
    rw [cp_in m j hj]
    exact pad_lt e j hj
  have hmw : ∀ v, v ≠ w0 → wdOk nl nt v → mw (upd nl w0 (nI m)) (cpL nt ma w0 m) v = mw nl nt v := fun v hv h => by
    have h10 := h.1.2.1
    unfold mw wV
    rw [hlv v hv, hV_congr (lnF nl v) (fun j hj => ?_)]
    show (cpL nt ma w0 m (10 * v + j)).toNatClampNeg - 96 = _
    rw [hnt v hv j (by omega)]
    rfl
  have hmw0 : mw (upd nl w0 (nI m)) (cpL nt ma w0 m) w0 = lfW ma m 0 10 0 0 := by
    have hP := isW_pad ma m 0
    rw [e] at hP
    refine (isW_inj (mw_isW hok0) hP).mpr ⟨hl0, fun j hj => ?_⟩
    rw [hl0] at hj
    rw [cdP_pad hj]
    show (cpL nt ma w0 m (10 * w0 + j)).toNatClampNeg - 96 = _
    rw [cp_in m j hj]
  have hnew : jW (insL (r * 12) (lfW ma m 0 10 0 0) (cnF ny r) sw) (upd ny r (nI (cnF ny r + 1))) (upd nl w0 (nI m)) (cpL nt ma w0 m) n := by
    refine ⟨fun i => ?_, fun i hi => ?_, fun i hi q hq => ?_, fun i hi => ?_⟩
    · rw [hcn i]
      by_cases ei : i = r
      · rw [if_pos ei, ei, up_s]
        exact ⟨by omega, rfl⟩
      · rw [if_neg ei, up_n ei]
        exact hW.1 i
    · rw [hcn i, if_neg (by omega)]
      exact hW.2.1 i hi
    · rw [hcn i] at hq
      by_cases ei : i = r
      · subst ei
        rw [if_pos rfl] at hq
        by_cases eq : q = cnF ny i
        · rw [eq, ← hw0]; exact hok0
        · exact hok _ (by omega) (hW.2.2.1 i hi q (by omega))
      · rw [if_neg ei] at hq
        have := (hW.1 i).1
        exact hok _ (by omega) (hW.2.2.1 i hi q hq)
    · rw [hcn i]
      obtain ⟨s1, s2⟩ := hW.2.2.2 i hi
      by_cases ei : i = r
      · subst ei
        rw [if_pos rfl]
        refine ⟨fun a b h3 h4 => insL_sort (cnF ny i) sw s1 hnot a b h3 h4, ?_⟩
        refine (insL_perm (cnF ny i) sw).trans ?_
        rw [wls_s, ← hw0, hmw0, wls_congr (f := mw (upd nl w0 (nI m)) (cpL nt ma w0 m)) (g := mw nl nt) (fun q hq => hmw _ (by omega) (hW.2.2.1 i hi q hq))]
        exact (List.Perm.cons _ s2).trans (List.perm_append_comm (l₁ := [lfW ma m 0 10 0 0]))
      · rw [if_neg ei]
        have h12 := (hW.1 i).1
        have ho : ∀ q, q < cnF ny i → insL (r * 12) (lfW ma m 0 10 0 0) (cnF ny r) sw (i * 12 + q) = sw (i * 12 + q) := fun q hq => insL_out _ _ _ (by omega)
        refine ⟨fun a b h3 h4 => ?_, ?_⟩
        · rw [ho a (by omega), ho b h4]
          exact s1 a b h3 h4
        · rw [wls_congr (g := sw) ho, wls_congr (f := mw (upd nl w0 (nI m)) (cpL nt ma w0 m)) (g := mw nl nt) (fun q hq => hmw _ (by omega) (hW.2.2.1 i hi q hq))]
          exact s2
  refine ⟨hnew, ?_⟩
  rw [dfS_nd (12 * n) (fun v _ hu => (used_ok hnew hu).1), dfS_nd (12 * n) (fun v _ hu => (used_ok hW hu).1)]
  have hu0 : useW (cnF ny) w0 = false := by
    unfold useW
    rw [show w0 / 12 = r by omega, show w0 % 12 = cnF ny r by omega]
    exact decide_eq_false (by omega)
  have hu1 : useW (cnF (upd ny r (nI (cnF ny r + 1)))) w0 = true := by
    unfold useW
    rw [show w0 / 12 = r by omega, show w0 % 12 = cnF ny r by omega, hcn r, if_pos rfl]
    exact decide_eq_true (by omega)
  have huv : ∀ v, v ≠ w0 → useW (cnF (upd ny r (nI (cnF ny r + 1)))) v = useW (cnF ny) v := fun v hv => by
    unfold useW
    rw [hcn (v / 12)]
    by_cases ev : v / 12 = r
    · rw [if_pos ev, ev]
      have : v % 12 ≠ cnF ny r := fun q => hv (by omega)
      by_cases h9 : v % 12 < cnF ny r
      · rw [decide_eq_true h9, decide_eq_true (by omega)]
      · rw [decide_eq_false h9, decide_eq_false (by omega)]
    · rw [if_neg ev]
  have hp := (uL_ins (f := mw nl nt) (g := mw (upd nl w0 (nI m)) (cpL nt ma w0 m)) (w0 := w0) (fun v hu => hmw v (fun q => by rw [q, hu0] at hu; cases hu) (used_ok hW hu).1) huv hu0 hu1 (12 * n)).2 (by omega)
  rw [nd_perm hp, hmw0]
  show (if lfW ma m 0 10 0 0 ∈ uL (mw nl nt) (cnF ny) (12 * n) then 0 else 1) + nd _ = _
  by_cases hk : lfW ma m 0 10 0 0 ∈ uL (mw nl nt) (cnF ny) (12 * n)
  · rw [if_pos hk, if_pos ((kn_iff hW).mpr hk)]
    omega
  · rw [if_neg hk, if_neg (fun q => hk ((kn_iff hW).mp q))]
    omega
section J4
variable {l : Launch} {c : stF} {d : stM}
theorem okR_w2 {v : Option Value} {me : Int32} (h : me = 2) : okR [x_ns, x_ia, x_is] (.inr x_ia) v me := Or.inr ⟨x_ia, by simp, rfl, by rw [h]; decide +kernel⟩
theorem okR_w3 {v : Option Value} {me : Int32} (h : me = 3) : okR [x_ns, x_ia, x_is] (.inr x_is) v me := Or.inr ⟨x_is, by simp, rfl, by rw [h]; decide +kernel⟩
theorem jv_word (hl : l.stackTraces = false) (hJ : Jn c d) (x1 : Int32) : jL l Jn 0 M_Fs_word M_Mo_word [.int x1] [x_ns, x_ia, x_is] c d := by
  obtain ⟨⟨pf, pn⟩, ⟨sw, wc, sv, fy, ly, ro, ss, aw, dw⟩, tp, ru, qu, to, al⟩ := c
  obtain ⟨mt, ⟨ma, mn⟩, ⟨nr, ny, nl, nt, nv, np, nf, nu, nh⟩, mq, mo, mx⟩ := d
  have hJ0 := hJ
  obtain ⟨m, n, ⟨h60, h32⟩, ⟨e1, e2, e3, hsg⟩, ⟨e4, e5⟩, e6, hW, ⟨e7, e8⟩, h⟩ := hJ
  dsimp only at e1 e2 e3 e4 e5 e6 e7 e8 hsg h hW
  subst e1 e2 e3 e4 e5 e6 e7 e8
  have hlen : ∀ r, r < n → ∀ i, i < cnF wc r → ∃ k : Nat, k ≤ 10 ∧ nl (12 * r + i) = nI k := fun r hr i hi => ⟨_, (hW.2.2.1 r hr i hi).1.2.1, (hW.2.2.1 r hr i hi).1.2.2⟩
  by_cases h1 : ¬ x1 < 0 ∧ x1 < nI n
  · have hR : isR x1 n = true := isR_iff.mpr h1
    obtain ⟨r, hr, rfl⟩ := ab_ofI h1.1 h1.2 (by omega)
    have ecl : (nI r).toNatClampNeg = r := nI_clamp (by omega)
    by_cases h2 : lnP pf m 0 = 0 ∨ ¬ lnP pf m 0 = m
    · have hB : ¬ mIsW pf m = true := fun q => (pad_iff h60).mp q h2
      exact jL_det (.inr x_ia) _ (some (.int 0)) (2, (pf, nI m), (nI n, wc, nl, nt, nv, np, nf, nu, nh), mq, mo, mx) (by decide) (by decide) (fun z => ab_K_mono (fun q hq => by rw [if_pos h1, if_pos h2] at hq; exact hq) (k_Fs_word (cnt := cnF wc) hl h32 h60 (jW_c hW))) (fun z => ab_K_mono (fun q hq => by rw [if_pos hR, if_neg hB] at hq; exact hq) (k_Mo_word (cnt := cnF wc) hl h32 h60 (jW_c hW) hlen)) ⟨_, rfl⟩ (okR_w2 rfl) hJ0
    · have hB : mIsW pf m = true := (pad_iff h60).mpr h2
      have e : lnP pf m 0 = m := by omega
      have hH : hasW sw r (cnF wc r) (lfW pf m 0 10 0 0) = true ↔ mHas nl nt pf m r (cnF wc r) = true := by
        rw [hasW_iff, mHas_iff h60 e (hW.2.2.1 r hr)]
        exact (hW.2.2.2 r hr).2.mem_iff
      by_cases h3 : hasW sw r (cnF wc r) (lfW pf m 0 10 0 0) = true
      · refine jL_det (.inl (some (.int (nI (cnF wc r))))) ((pf, 0), (sw, wc, sv, fy, ly, ro, nI n, nI (sumT (cnF wc) n), nI (dfS nt (lnF nl) (cnF wc) (12 * n))), tp, ru, qu, to, al) (some (.int (nI (cnF wc r)))) (0, (pf, 0), (nI n, wc, nl, nt, nv, np, nf, nu, nh), mq, mo, mx) (by decide) (by decide) (fun z => ab_K_mono (fun q hq => by rw [if_pos h1, if_neg h2, ecl, if_pos h3] at hq; exact hq) (k_Fs_word (cnt := cnF wc) hl h32 h60 (jW_c hW))) (fun z => ab_K_mono (fun q hq => by rw [if_pos hR, if_pos hB, ecl, if_pos (hH.mp h3)] at hq; exact hq) (k_Mo_word (cnt := cnF wc) hl h32 h60 (jW_c hW) hlen)) ⟨_, rfl⟩ (okR_v rfl) ?_
        exact ⟨0, n, ⟨by omega, h32⟩, ⟨rfl, rfl, rfl, fun j hj => by omega⟩, ⟨rfl, rfl⟩, rfl, hW, ⟨rfl, rfl⟩, h⟩
      · have h3M : ¬ mHas nl nt pf m r (cnF wc r) = true := fun q => h3 (hH.mpr q)
        by_cases h4 : cnF wc r < 12
        · obtain ⟨g1, g2⟩ := jW_add (ma := pf) hW h32 hr h4 e (by omega) (fun q => h3 (hasW_iff.mpr q))
          refine jL_det (.inl (some (.int (nI (cnF wc r + 1))))) ((pf, 0), (insL (r * 12) (lfW pf m 0 10 0 0) (cnF wc r) sw, upd wc r (nI (cnF wc r + 1)), sv, fy, ly, ro, nI n, nI (sumT (cnF wc) n) + 1, if knW sw (cnF wc) n (lfW pf m 0 10 0 0) = true then nI (dfS nt (lnF nl) (cnF wc) (12 * n)) else nI (dfS nt (lnF nl) (cnF wc) (12 * n)) + 1), tp, ru, qu, to, al) (some (.int (nI (cnF wc r + 1)))) (0, (pf, 0), (nI n, upd wc r (nI (cnF wc r + 1)), upd nl (12 * r + cnF wc r) (nI m), cpL nt pf (12 * r + cnF wc r) m, nv, np, nf, nu, nh), mq, mo, mx) (by decide) (by decide) (fun z => ab_K_mono (fun q hq => by rw [if_pos h1, if_neg h2, ecl, if_neg h3, if_pos h4] at hq; exact hq) (k_Fs_word (cnt := cnF wc) hl h32 h60 (jW_c hW))) (fun z => ab_K_mono (fun q hq => by rw [if_pos hR, if_pos hB, ecl, if_neg h3M, if_pos h4] at hq; exact hq) (k_Mo_word (cnt := cnF wc) hl h32 h60 (jW_c hW) hlen)) ⟨_, rfl⟩ (okR_v rfl) ?_
          refine ⟨0, n, ⟨by omega, h32⟩, ⟨rfl, rfl, rfl, fun j hj => by omega⟩, ⟨rfl, rfl⟩, rfl, g1, ⟨?_, ?_⟩, h⟩
          · show nI (sumT (cnF wc) n) + 1 = nI (sumT (cnF (upd wc r (nI (cnF wc r + 1)))) n)
            have hcn := cn_up (ny := wc) (r := r) (k := cnF wc r + 1) (by omega)
            rw [(sumT_up (f := cnF wc) (g := cnF (upd wc r (nI (cnF wc r + 1)))) (r := r) (fun i hi => by rw [hcn i, if_neg hi]) (by rw [hcn r, if_pos rfl]) n).2 hr, nI_1]
          · show (if knW sw (cnF wc) n (lfW pf m 0 10 0 0) = true then nI (dfS nt (lnF nl) (cnF wc) (12 * n)) else nI (dfS nt (lnF nl) (cnF wc) (12 * n)) + 1) = nI (dfS (cpL nt pf (12 * r + cnF wc r) m) (lnF (upd nl (12 * r + cnF wc r) (nI m))) (cnF (upd wc r (nI (cnF wc r + 1)))) (12 * n))
            rw [g2]
            by_cases hk : knW sw (cnF wc) n (lfW pf m 0 10 0 0) = true
            · rw [if_pos hk, if_pos hk, Nat.add_zero]
            · rw [if_neg hk, if_neg hk, nI_1]
        · exact jL_det (.inr x_is) _ (some (.int 0)) (3, (pf, nI m), (nI n, wc, nl, nt, nv, np, nf, nu, nh), mq, mo, mx) (by decide) (by decide) (fun z => ab_K_mono (fun q hq => by rw [if_pos h1, if_neg h2, ecl, if_neg h3, if_neg h4] at hq; exact hq) (k_Fs_word (cnt := cnF wc) hl h32 h60 (jW_c hW))) (fun z => ab_K_mono (fun q hq => by rw [if_pos hR, if_pos hB, ecl, if_neg h3M, if_neg h4] at hq; exact hq) (k_Mo_word (cnt := cnF wc) hl h32 h60 (jW_c hW) hlen)) ⟨_, rfl⟩ (okR_w3 rfl) hJ0
  · have hR : ¬ isR x1 n = true := fun q => h1 (isR_iff.mp q)
    exact jL_det (.inr x_ns) _ (some (.int 0)) (1, (pf, nI m), (nI n, wc, nl, nt, nv, np, nf, nu, nh), mq, mo, mx) (by decide) (by decide) (fun z => ab_K_mono (fun q hq => by rw [if_neg h1] at hq; exact hq) (k_Fs_word (cnt := cnF wc) hl h32 h60 (jW_c hW))) (fun z => ab_K_mono (fun q hq => by rw [if_neg hR] at hq; exact hq) (k_Mo_word (cnt := cnF wc) hl h32 h60 (jW_c hW) hlen)) ⟨_, rfl⟩ (okR_c rfl) hJ0
end J4
