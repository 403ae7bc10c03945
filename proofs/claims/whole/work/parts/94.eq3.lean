/-! the words of the two states -/
theorem i64_tr {a b c : Int64} (h1 : a < b) (h2 : b < c) : a < c := by rw [Int64.lt_iff_toInt_lt] at *; omega
theorem i64_irr {a : Int64} : ¬ a < a := by rw [Int64.lt_iff_toInt_lt]; omega
theorem i64_tot {a b : Int64} (h1 : ¬ a < b) (h2 : ¬ a = b) : b < a := by
  rw [Int64.lt_iff_toInt_lt] at *
  rw [← Int64.toInt_inj] at h2
  omega
theorem mem_wls {f : Nat → Int64} {b c : Nat} {x : Int64} : x ∈ wls f b c ↔ ∃ i, i < c ∧ f (b + i) = x := by
  unfold wls
  rw [List.mem_map]
  constructor
  · rintro ⟨i, h1, h2⟩; exact ⟨i, List.mem_range.mp h1, h2⟩
  · rintro ⟨i, h1, h2⟩; exact ⟨i, List.mem_range.mpr h1, h2⟩
theorem wls_s (f : Nat → Int64) (b c : Nat) : wls f b (c + 1) = wls f b c ++ [f (b + c)] := by
  unfold wls
  rw [List.range_succ, List.map_append]
  rfl
theorem wls_congr {f g : Nat → Int64} {b c : Nat} (h : ∀ i, i < c → f (b + i) = g (b + i)) : wls f b c = wls g b c := by
  unfold wls
  exact List.map_congr_left (fun i hi => h i (List.mem_range.mp hi))
theorem hasW_iff {sw : Nat → Int64} {r c : Nat} {w : Int64} : hasW sw r c w = true ↔ w ∈ wls sw (r * 12) c := by
  rw [mem_wls]
  unfold hasW
  rw [List.any_eq_true]
  constructor
  · rintro ⟨i, h1, h2⟩; exact ⟨i, List.mem_range.mp h1, of_decide_eq_true h2⟩
  · rintro ⟨i, h1, h2⟩; exact ⟨i, List.mem_range.mpr h1, decide_eq_true h2⟩
theorem mw_isW {nl nt : Nat → Int32} {v : Nat} (h : wdOk nl nt v) : isW (mw nl nt v) (cd (fun j => nt (10 * v + j))) (lnF nl v) := by
  refine ⟨h.1.2.1, fun j hj => ?_, rfl⟩
  obtain ⟨c, c1, c2, -, c4⟩ := isLt_of (h.2.2 j hj)
  show 1 ≤ (nt (10 * v + j)).toNatClampNeg - 96 ∧ (nt (10 * v + j)).toNatClampNeg - 96 ≤ 26
  omega
theorem lt_inj {s t : Int32} (hs : isLt s = true) (ht : isLt t = true) : s.toNatClampNeg - 96 = t.toNatClampNeg - 96 ↔ s = t := by
  obtain ⟨a, -, -, a3, a4⟩ := isLt_of hs
  obtain ⟨b, -, -, b3, b4⟩ := isLt_of ht
  constructor
  · intro h
    rw [a3, b3, ← a4, ← b4, h]
  · intro h; rw [h]
theorem isS_iff {nl nt : Nat → Int32} {v w : Nat} (hv : wdOk nl nt v) (hw : wdOk nl nt w) : isS nt (lnF nl) v w = true ↔ mw nl nt v = mw nl nt w := by
  unfold isS
  rw [smM_t, decide_eq_true_eq, isW_inj (mw_isW hv) (mw_isW hw)]
  constructor
  · rintro ⟨h1, h2⟩
    refine ⟨h1, fun j hj => ?_⟩
    show (nt (10 * v + j)).toNatClampNeg - 96 = (nt (10 * w + j)).toNatClampNeg - 96
    rw [h2 j hj]
  · rintro ⟨h1, h2⟩
    refine ⟨h1, fun j hj => ?_⟩
    exact (lt_inj (hv.2.2 j hj) (hw.2.2 j (by rw [← h1]; exact hj))).mp (h2 j hj)
theorem isLt_0 : isLt 0 = false := by decide
theorem pad_iff {ma : Nat → Int32} {m : Nat} (h60 : m ≤ 60) : mIsW ma m = true ↔ ¬ (lnP ma m 0 = 0 ∨ ¬ lnP ma m 0 = m) := by
  rw [mIsW_t (by omega)]
  have hlt : ∀ j, j < lnP ma m 0 → isLt (sgN ma m (0 + j)) = true := fun j hj => lnS_lt ma m 0 10 0 j (Nat.zero_le _) hj
  have hend : lnP ma m 0 < 10 → isLt (sgN ma m (0 + lnP ma m 0)) = false := fun h => lnS_end ma m 0 10 0 (by unfold lnP at h; omega)
  have hle := lnP_le ma m 0
  have hin : ∀ j, j < m → sgN ma m (0 + j) = ma j := fun j hj => by
    rw [Nat.zero_add]
    exact if_pos hj
  have hout : sgN ma m (0 + m) = 0 := by
    rw [Nat.zero_add]
    exact if_neg (by omega)
  constructor
  · rintro ⟨⟨h1, h2⟩, h3⟩
    have hge : ¬ lnP ma m 0 < m := fun q => by
      have := hend (by omega)
      rw [hin _ q, h3 _ q] at this
      cases this
    have hge2 : ¬ m < lnP ma m 0 := fun q => by
      have := hlt m q
      rw [hout, isLt_0] at this
      cases this
    omega
  · intro h
    have e : lnP ma m 0 = m := by omega
    refine ⟨by omega, fun j hj => ?_⟩
    rw [← hin j hj]
    exact hlt j (by omega)
theorem pad_lt {ma : Nat → Int32} {m : Nat} (e : lnP ma m 0 = m) : ∀ j, j < m → isLt (ma j) = true := fun j hj => by
  have := lnS_lt ma m 0 10 0 j (Nat.zero_le _) (by show j < lnP ma m 0; omega)
  rw [Nat.zero_add, show sgN ma m j = ma j from if_pos hj] at this
  exact this
theorem cdP_pad {ma : Nat → Int32} {m j : Nat} (hj : j < m) : cdP ma m 0 j = (ma j).toNatClampNeg - 96 := by
  show (sgN ma m (0 + j)).toNatClampNeg - 96 = _
  rw [Nat.zero_add, show sgN ma m j = ma j from if_pos hj]
theorem mHas_iff {nl nt ma : Nat → Int32} {m r c : Nat} (h60 : m ≤ 60) (e : lnP ma m 0 = m) (hw : ∀ i, i < c → wdOk nl nt (12 * r + i)) : mHas nl nt ma m r c = true ↔ lfW ma m 0 10 0 0 ∈ wls (mw nl nt) (12 * r) c := by
  rw [mHas_t, mem_wls]
  have hP := isW_pad ma m 0
  rw [e] at hP
  have key : ∀ i, i < c → ((nl (12 * r + i) = nI m ∧ ∀ j, j < m → nt (10 * (12 * r + i) + j) = ma j) ↔ mw nl nt (12 * r + i) = lfW ma m 0 10 0 0) := by
    intro i hi
    have hv := hw i hi
    rw [isW_inj (mw_isW hv) hP]
    constructor
    · rintro ⟨h1, h2⟩
      have hl : lnF nl (12 * r + i) = m := by
        show (nl (12 * r + i)).toNatClampNeg = m
        rw [h1, nI_clamp (by omega)]
      refine ⟨hl, fun j hj => ?_⟩
      rw [hl] at hj
      rw [cdP_pad hj]
      show (nt (10 * (12 * r + i) + j)).toNatClampNeg - 96 = _
      rw [h2 j hj]
    · rintro ⟨h1, h2⟩
      refine ⟨by rw [hv.1.2.2, h1], fun j hj => ?_⟩
      have h3 := h2 j (by omega)
      rw [cdP_pad hj] at h3
      exact (lt_inj (hv.2.2 j (by omega)) (pad_lt e j hj)).mp h3
  constructor
  · rintro ⟨i, hi, h⟩; exact ⟨i, hi, (key i hi).mp h⟩
  · rintro ⟨i, hi, h⟩; exact ⟨i, hi, (key i hi).mpr h⟩
/-! putting a word in its place -/
theorem insL_out {st : Nat} {w : Int64} : ∀ (k : Nat) (sw : Nat → Int64) (j : Nat), (j < st ∨ st + k < j) → insL st w k sw j = sw j
  | 0, sw, j, h => by
    show vp_updL sw st w j = sw j
    exact pk_uLn (by omega)
  | k + 1, sw, j, h => by
    unfold insL
    split
    · rw [insL_out k _ j (by omega), pk_uLn (by omega)]
    · exact pk_uLn (by omega)
theorem insL_perm {st : Nat} {w : Int64} : ∀ (k : Nat) (sw : Nat → Int64), List.Perm (wls (insL st w k sw) st (k + 1)) (w :: wls sw st k)
  | 0, sw => by
    rw [wls_s]
    show List.Perm ([] ++ [vp_updL sw st w (st + 0)]) [w]
    rw [Nat.add_zero, pk_uLs]
    exact List.Perm.refl _
  | k + 1, sw => by
    rw [wls_s]
    unfold insL
    split
    · rw [insL_out k _ (st + (k + 1)) (by omega), pk_uLs, wls_s sw]
      have h1 := insL_perm (st := st) (w := w) k (vp_updL sw (st + (k + 1)) (sw (st + k)))
      rw [wls_congr (f := vp_updL sw (st + (k + 1)) (sw (st + k))) (g := sw) (c := k) (fun i hi => pk_uLn (by omega))] at h1
      exact List.Perm.append_right _ h1
    · rw [pk_uLs, wls_congr (f := vp_updL sw (st + (k + 1)) w) (g := sw) (fun i hi => pk_uLn (by omega))]
      exact List.perm_append_comm
theorem insL_sort {st : Nat} {w : Int64} : ∀ (k : Nat) (sw : Nat → Int64), (∀ i j, i < j → j < k → sw (st + i) < sw (st + j)) → ¬ w ∈ wls sw st k → ∀ i j, i < j → j < k + 1 → insL st w k sw (st + i) < insL st w k sw (st + j)
  | 0, sw, _, _, i, j, h1, h2 => by omega
  | k + 1, sw, hs, hw, i, j, h1, h2 => by
    have hne : ¬ w = sw (st + k) := fun q => hw (mem_wls.mpr ⟨k, by omega, q.symm⟩)
    unfold insL
    by_cases hlt : w < sw (st + k)
    · rw [if_pos hlt]
      have hs' : ∀ i j, i < j → j < k → vp_updL sw (st + (k + 1)) (sw (st + k)) (st + i) < vp_updL sw (st + (k + 1)) (sw (st + k)) (st + j) := fun i j a b => by
        rw [pk_uLn (by omega), pk_uLn (by omega)]
        exact hs i j a (by omega)
      have hc : wls (vp_updL sw (st + (k + 1)) (sw (st + k))) st k = wls sw st k := wls_congr (fun i hi => pk_uLn (by omega))
      have hw' : ¬ w ∈ wls (vp_updL sw (st + (k + 1)) (sw (st + k))) st k := by
        rw [hc]
        intro q
        obtain ⟨i, hi, e⟩ := mem_wls.mp q
        exact hw (mem_wls.mpr ⟨i, by omega, e⟩)
      by_cases ej : j = k + 1
      · subst ej
        rw [insL_out k _ (st + (k + 1)) (by omega), pk_uLs]
        have hm : insL st w k (vp_updL sw (st + (k + 1)) (sw (st + k))) (st + i) ∈ w :: wls sw st k := by
          rw [← hc]
          exact (insL_perm k _).mem_iff.mp (mem_wls.mpr ⟨i, by omega, rfl⟩)
        rcases List.mem_cons.mp hm with e | e
        · rw [e]; exact hlt
        · obtain ⟨q, hq, e⟩ := mem_wls.mp e
          rw [← e]
          exact hs q k hq (by omega)
      · exact insL_sort k _ hs' hw' i j h1 (by omega)
    · rw [if_neg hlt]
      have hgt := i64_tot hlt hne
      by_cases ej : j = k + 1
      · subst ej
        rw [pk_uLs, pk_uLn (by omega)]
        by_cases ei : i = k
        · rw [ei]; exact hgt
        · exact i64_tr (hs i k (by omega) (by omega)) hgt
      · rw [pk_uLn (by omega), pk_uLn (by omega)]
        exact hs i j h1 (by omega)
/-! how many different words -/
def nd : List Int64 → Nat
  | [] => 0
  | x :: L => (if x ∈ L then 0 else 1) + nd L
theorem nd_perm {L M : List Int64} (h : List.Perm L M) : nd L = nd M := by
  induction h with
  | nil => rfl
  | @cons x l1 l2 h ih =>
    show (if x ∈ l1 then 0 else 1) + nd l1 = (if x ∈ l2 then 0 else 1) + nd l2
    rw [ih]
    by_cases hx : x ∈ l1
    · rw [if_pos hx, if_pos (h.mem_iff.mp hx)]
    · rw [if_neg hx, if_neg (fun q => hx (h.mem_iff.mpr q))]
  | swap x y l =>
    show (if y ∈ x :: l then 0 else 1) + ((if x ∈ l then 0 else 1) + nd l) = (if x ∈ y :: l then 0 else 1) + ((if y ∈ l then 0 else 1) + nd l)
    by_cases e : x = y
    · rw [e]
    · have h1 : (y ∈ x :: l) ↔ y ∈ l := ⟨fun q => (List.mem_cons.mp q).resolve_left (fun z => e z.symm), List.mem_cons_of_mem _⟩
      have h2 : (x ∈ y :: l) ↔ x ∈ l := ⟨fun q => (List.mem_cons.mp q).resolve_left e, List.mem_cons_of_mem _⟩
      by_cases a : y ∈ l <;> by_cases b : x ∈ l <;> simp [a, b, e, Ne.symm e] <;> omega
  | trans _ _ ih1 ih2 => exact ih1.trans ih2
def uL (f : Nat → Int64) (cnt : Nat → Nat) : Nat → List Int64
  | 0 => []
  | w + 1 => if useW cnt w = true then f w :: uL f cnt w else uL f cnt w
theorem mem_uL {f : Nat → Int64} {cnt : Nat → Nat} {x : Int64} : ∀ W, x ∈ uL f cnt W ↔ ∃ v, v < W ∧ useW cnt v = true ∧ f v = x
  | 0 => ⟨(fun h => by cases h), (fun ⟨v, h, _⟩ => by omega)⟩
  | W + 1 => by
    unfold uL
    by_cases hu : useW cnt W = true
    · rw [if_pos hu, List.mem_cons, mem_uL W]
      constructor
      · rintro (h | ⟨v, h1, h2⟩)
        · exact ⟨W, by omega, hu, h.symm⟩
        · exact ⟨v, by omega, h2⟩
      · rintro ⟨v, h1, h2, h3⟩
        by_cases e : v = W
        · subst e; exact Or.inl h3.symm
        · exact Or.inr ⟨v, by omega, h2, h3⟩
    · rw [if_neg hu, mem_uL W]
      constructor
      · rintro ⟨v, h1, h2⟩; exact ⟨v, by omega, h2⟩
      · rintro ⟨v, h1, h2, h3⟩
        by_cases e : v = W
        · subst e; exact absurd h2 hu
        · exact ⟨v, by omega, h2, h3⟩
theorem fsS_t {nt : Nat → Int32} {ln cnt : Nat → Nat} {w : Nat} {b : Bool} : ∀ k, fsS nt ln cnt w b k = true ↔ b = true ∧ ∀ v, v < k → ¬ (useW cnt v = true ∧ isS nt ln v w = true)
  | 0 => ⟨fun h => ⟨h, fun v hv => by omega⟩, fun h => h.1⟩
  | k + 1 => by
    unfold fsS
    rw [Bool.and_eq_true, fsS_t k, Bool.not_eq_true', ← Bool.not_eq_true, Bool.and_eq_true]
    constructor
    · rintro ⟨⟨h1, h2⟩, h3⟩
      refine ⟨h1, fun v hv => ?_⟩
      by_cases e : v = k
      · rw [e]; exact h3
      · exact h2 v (by omega)
    · rintro ⟨h1, h2⟩
      exact ⟨⟨h1, fun v hv => h2 v (by omega)⟩, h2 k (by omega)⟩
theorem dfS_nd {nl nt : Nat → Int32} {cnt : Nat → Nat} : ∀ W, (∀ v, v < W → useW cnt v = true → wdOk nl nt v) → dfS nt (lnF nl) cnt W = nd (uL (mw nl nt) cnt W)
  | 0, _ => rfl
  | W + 1, h => by
    unfold dfS uL
    rw [dfS_nd W (fun v hv => h v (by omega))]
    by_cases hu : useW cnt W = true
    · rw [if_pos hu]
      show _ = (if mw nl nt W ∈ uL (mw nl nt) cnt W then 0 else 1) + nd (uL (mw nl nt) cnt W)
      by_cases hm : mw nl nt W ∈ uL (mw nl nt) cnt W
      · rw [if_pos hm, if_neg]
        · omega
        · intro q
          obtain ⟨v, h1, h2, h3⟩ := (mem_uL W).mp hm
          exact ((fsS_t W).mp q).2 v h1 ⟨h2, (isS_iff (h v (by omega) h2) (h W (by omega) hu)).mpr h3⟩
      · rw [if_neg hm, if_pos]
        · omega
        · refine (fsS_t W).mpr ⟨hu, fun v hv q => hm ((mem_uL W).mpr ⟨v, hv, q.1, ?_⟩)⟩
          exact (isS_iff (h v (by omega) q.1) (h W (by omega) hu)).mp q.2
    · rw [if_neg hu, if_neg]
      · omega
      · intro q
        exact hu ((fsS_t W).mp q).1
theorem uL_ins {f g : Nat → Int64} {cnt cnt' : Nat → Nat} {w0 : Nat} (hf : ∀ v, useW cnt v = true → g v = f v) (hu : ∀ v, v ≠ w0 → useW cnt' v = useW cnt v) (h0 : useW cnt w0 = false) (h1 : useW cnt' w0 = true) : ∀ W, (W ≤ w0 → uL g cnt' W = uL f cnt W) ∧ (w0 < W → List.Perm (uL g cnt' W) (g w0 :: uL f cnt W))
  | 0 => ⟨fun _ => rfl, fun h => by omega⟩
  | W + 1 => by
    obtain ⟨ih1, ih2⟩ := uL_ins hf hu h0 h1 W
    constructor
    · intro h
      unfold uL
      rw [hu W (by omega), ih1 (by omega)]
      by_cases e : useW cnt W = true
      · rw [if_pos e, if_pos e, hf W e]
      · rw [if_neg e, if_neg e]
    · intro h
      unfold uL
      by_cases e : W = w0
      · subst e
        rw [if_pos h1, h0, if_neg (by decide), ih1 (Nat.le_refl _)]
      · rw [hu W e]
        have hp := ih2 (by omega)
        by_cases e2 : useW cnt W = true
        · rw [if_pos e2, if_pos e2, hf W e2]
          exact (List.Perm.cons _ hp).trans (List.Perm.swap _ _ _)
        · rw [if_neg e2, if_neg e2]
          exact hp
