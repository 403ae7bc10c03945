/-! WORDS AS NUMBERS: five bits a letter. (pf_lI, pf_shr, g_or: pasted from kit/laws/BITS; the names wk_ are mine) -/
theorem wk_tn {n : Nat} (h : n < 2 ^ 64) : (UInt64.ofNat n).toNat = n := by rw [UInt64.toNat_ofNat', Nat.mod_eq_of_lt h]
theorem wk_or {k p a b : Nat} (hp : 2 ^ k = p) (ha : a < p) (h : b * p + a < 2 ^ 64) : lN (b * p) ||| lN a = lN (b * p + a) := by
  subst hp
  have h1 : b * 2 ^ k ||| a = b * 2 ^ k + a := by rw [← Nat.shiftLeft_eq, Nat.shiftLeft_add_eq_or_of_lt ha]
  have h3 : UInt64.ofNat (b * 2 ^ k) ||| UInt64.ofNat a = UInt64.ofNat (b * 2 ^ k + a) := UInt64.toNat_inj.mp (by rw [UInt64.toNat_or, wk_tn (by omega), wk_tn (by omega), wk_tn h, h1])
  have h2 := congrArg UInt64.toInt64 h3
  exact h2
theorem wk_shr {a d : Nat} {D : Int64} (hD : (D.toBitVec.smod 64).toNat = d) (h : a < 2 ^ 62) : lN a >>> D = lN (a / 2 ^ d) := by
  have hd : a / 2 ^ d ≤ a := Nat.div_le_self _ _
  apply Int64.toInt_inj.mp
  have e : (lN a >>> D).toInt = (lN a).toInt >>> d := by
    rw [← hD]
    exact BitVec.toInt_sshiftRight ..
  rw [e, Int.shiftRight_eq_div_pow, pk_lT (by omega), pk_lT (by omega)]
  rfl
theorem wk_shl {a d : Nat} {D : Int64} (hD : (D.toBitVec.smod 64) = BitVec.ofNat 64 d) (hd : d < 64) (ha : a < 2 ^ 64) : lN a <<< D = lN (a * 2 ^ d) := by
  apply Int64.toBitVec_inj.mp
  rw [Int64.toBitVec_shiftLeft, hD]
  apply BitVec.eq_of_toNat_eq
  have hb : (lN a).toBitVec.toNat = a := Nat.mod_eq_of_lt ha
  have hk' : (BitVec.ofNat 64 d).toNat = d := Nat.mod_eq_of_lt (by omega)
  have h : ((lN a).toBitVec <<< BitVec.ofNat 64 d).toNat = (a * 2 ^ d) % 2 ^ 64 := by simp only [BitVec.shiftLeft_eq', BitVec.toNat_shiftLeft, hb, hk', Nat.shiftLeft_eq]
  exact h
theorem wk_D : ∀ j : Nat, j < 10 → (((Int32.toInt64 (5 * (9 - nI j)) &&& 63).toBitVec.smod 64)) = BitVec.ofNat 64 (5 * (9 - j)) := by decide +kernel
theorem wk_D2 {j : Nat} (hj : j < 10) : ((Int32.toInt64 (5 * (9 - nI j)) &&& 63).toBitVec.smod 64).toNat = 5 * (9 - j) := by
  rw [wk_D j hj]
  exact Nat.mod_eq_of_lt (by omega)
theorem wk_pow (k : Nat) : 2 ^ (5 * k) = 32 ^ k := by rw [Nat.pow_mul]
theorem wk_pow1 {i : Nat} (h : i < 10) : 32 ^ (10 - i) = 32 ^ (9 - i) * 32 := by rw [show 10 - i = 9 - i + 1 by omega, Nat.pow_succ]
def hV (c : Nat → Nat) : Nat → Nat
  | 0 => 0
  | m + 1 => hV c m * 32 + c m
theorem hV_lt {c : Nat → Nat} : ∀ m, (∀ j, j < m → c j < 32) → hV c m < 32 ^ m
  | 0, _ => by show (0 : Nat) < 1; decide
  | m + 1, h => by
    have h1 := hV_lt m (fun j hj => h j (by omega))
    have h2 := h m (by omega)
    unfold hV
    rw [Nat.pow_succ]
    omega
theorem hV_congr {c d : Nat → Nat} : ∀ m, (∀ j, j < m → c j = d j) → hV c m = hV d m
  | 0, _ => rfl
  | m + 1, h => by unfold hV; rw [hV_congr m (fun j hj => h j (by omega)), h m (by omega)]
theorem hV_digit {c : Nat → Nat} : ∀ m j, (∀ j, j < m → c j < 32) → j < m → hV c m / 32 ^ (m - 1 - j) % 32 = c j
  | 0, j, _, h => absurd h (Nat.not_lt_zero j)
  | m + 1, j, hc, h => by
    unfold hV
    have hm := hc m (by omega)
    by_cases e : j = m
    · subst e
      rw [show j + 1 - 1 - j = 0 by omega, Nat.pow_zero, Nat.div_one]
      omega
    · have ih := hV_digit m j (fun j hj => hc j (by omega)) (by omega)
      rw [show m + 1 - 1 - j = (m - 1 - j) + 1 by omega, Nat.pow_succ, Nat.mul_comm (32 ^ (m - 1 - j)) 32, ← Nat.div_div_eq_div_mul, show (hV c m * 32 + c m) / 32 = hV c m by omega]
      exact ih
def wV (c : Nat → Nat) (m : Nat) : Nat := hV c m * 32 ^ (10 - m)
theorem wV_lt {c : Nat → Nat} {m : Nat} (hm : m ≤ 10) (h : ∀ j, j < m → c j < 32) : wV c m < 32 ^ 10 := by
  have h1 := hV_lt m h
  have h2 : 0 < 32 ^ (10 - m) := Nat.pow_pos (by decide)
  unfold wV
  calc hV c m * 32 ^ (10 - m) < 32 ^ m * 32 ^ (10 - m) := Nat.mul_lt_mul_of_pos_right h1 h2
    _ = 32 ^ 10 := by rw [← Nat.pow_add]; congr 1; omega
theorem wV_digit {c : Nat → Nat} {m j : Nat} (hm : m ≤ 10) (h : ∀ j, j < m → c j < 32) (hj : j < 10) : wV c m / 32 ^ (9 - j) % 32 = if j < m then c j else 0 := by
  unfold wV
  by_cases e : j < m
  · rw [if_pos e, show 9 - j = (10 - m) + (m - 1 - j) by omega, Nat.pow_add, ← Nat.div_div_eq_div_mul, Nat.mul_div_cancel _ (Nat.pow_pos (by decide))]
    exact hV_digit m j h e
  · rw [if_neg e, show 10 - m = (j - m) + 1 + (9 - j) by omega, Nat.pow_add, ← Nat.mul_assoc, Nat.mul_div_cancel _ (Nat.pow_pos (by decide)), Nat.pow_succ, ← Nat.mul_assoc, Nat.mul_mod_left]
theorem cA_V {V j : Nat} (hV : V < 32 ^ 10) (hj : j < 10) : cA (lN V) (nI j) = nI (V / 32 ^ (9 - j) % 32) := by
  unfold cA
  rw [wk_shr (wk_D2 hj) (by omega), lN_i, wk_pow, pk_and _ 5 (by decide)]
  congr 1
  show (BitVec.ofNat 32 _).toNat % 2 ^ 5 = _
  rw [BitVec.toNat_ofNat]
  omega
theorem cA_w {c : Nat → Nat} {m j : Nat} (hm : m ≤ 10) (h : ∀ j, j < m → c j < 32) (hj : j < 10) : cA (lN (wV c m)) (nI j) = nI (if j < m then c j else 0) := by
  rw [cA_V (wV_lt hm h) hj, wV_digit hm h hj]
theorem wL_V {c : Nat → Nat} {i : Nat} (hi : i < 10) (h : ∀ j, j < i + 1 → c j < 32) : wL (lN (wV c i)) (nI i) (nI (96 + c i)) = lN (wV c (i + 1)) := by
  have hci := h i (by omega)
  have e1 : nI (96 + c i) - 96 = nI (c i) := by
    have := pk_sub (a := 96 + c i) (b := 96) (by omega)
    rw [show 96 + c i - 96 = c i by omega] at this
    exact this
  have h9 := wV_lt (c := c) (m := i + 1) (by omega) h
  have hp : 32 ^ (9 - i) ≤ 32 ^ 9 := Nat.pow_le_pow_right (by decide) (by omega)
  have hlt : c i * 32 ^ (9 - i) < 32 ^ (10 - i) := by rw [wk_pow1 hi, Nat.mul_comm]; exact Nat.mul_lt_mul_of_pos_left hci (Nat.pow_pos (by decide))
  have hs : wV c i + c i * 32 ^ (9 - i) = wV c (i + 1) := by
    unfold wV
    show _ = (hV c i * 32 + c i) * 32 ^ (10 - (i + 1))
    rw [show 10 - (i + 1) = 9 - i by omega, wk_pow1 hi, Nat.add_mul, Nat.mul_assoc, Nat.mul_comm 32]
  unfold wL
  rw [e1, nI_l (by omega), wk_shl (wk_D i hi) (by omega) (by omega), wk_pow]
  unfold wV at hs ⊢
  rw [wk_or (k := 5 * (10 - i)) (wk_pow (10 - i)) hlt (by unfold wV at h9; omega), hs]
/-- the letter runs of the pad -/
def lnS (pf : Nat → Int32) (n p : Nat) : Nat → Nat → Nat
  | 0, i => i
  | k + 1, i => if isLt (sgN pf n (p + i)) = true then lnS pf n p k (i + 1) else i
def cd (f : Nat → Int32) (j : Nat) : Nat := (f j).toNatClampNeg - 96
theorem isLt_of {s : Int32} (h : isLt s = true) : ∃ c : Nat, 1 ≤ c ∧ c ≤ 26 ∧ s = nI (96 + c) ∧ s.toNatClampNeg - 96 = c := by
  unfold isLt at h
  obtain ⟨h1, h2⟩ := ab_and h
  have h1 := of_decide_eq_true h1
  have h2 := of_decide_eq_true h2
  have h0 : ¬ s < 0 := by
    rw [Int32.lt_iff_toInt_lt] at h1 ⊢
    have e0 : (0 : Int32).toInt = 0 := rfl
    have e97 : (97 : Int32).toInt = 97 := rfl
    omega
  obtain ⟨j, hj, rfl⟩ := nI_of h0
  have h3 : 97 ≤ j := by
    by_cases q : j < 97
    · exact absurd (nI_lt (b := 97) q (by omega)) h1
    · omega
  have h4 : j ≤ 122 := (nI_leI (b := 122) hj (by omega)).mp h2
  exact ⟨j - 96, by omega, by omega, by rw [show 96 + (j - 96) = j by omega], by rw [nI_clamp hj]⟩
theorem lnS_ge (pf : Nat → Int32) (n p : Nat) : ∀ k i, i ≤ lnS pf n p k i ∧ lnS pf n p k i ≤ i + k
  | 0, i => ⟨Nat.le_refl _, Nat.le_refl _⟩
  | k + 1, i => by
    unfold lnS
    split
    · have := lnS_ge pf n p k (i + 1); omega
    · omega
theorem lnS_lt (pf : Nat → Int32) (n p : Nat) : ∀ k i j, i ≤ j → j < lnS pf n p k i → isLt (sgN pf n (p + j)) = true
  | 0, i, j, h1, h2 => by unfold lnS at h2; omega
  | k + 1, i, j, h1, h2 => by
    unfold lnS at h2
    split at h2
    · rename_i h
      by_cases e : j = i
      · rw [e]; exact h
      · exact lnS_lt pf n p k (i + 1) j (by omega) h2
    · omega
theorem lnS_end (pf : Nat → Int32) (n p : Nat) : ∀ k i, lnS pf n p k i < i + k → isLt (sgN pf n (p + lnS pf n p k i)) = false
  | 0, i, h => by unfold lnS at h; omega
  | k + 1, i, h => by
    unfold lnS at h ⊢
    split at h
    · rename_i h1
      rw [if_pos h1]
      exact lnS_end pf n p k (i + 1) (by omega)
    · rename_i h1
      rw [if_neg h1]
      cases hq : isLt (sgN pf n (p + i)) with
      | false => rfl
      | true => exact absurd hq h1
def cdP (pf : Nat → Int32) (n p : Nat) : Nat → Nat := cd (fun j => sgN pf n (p + j))
def lnP (pf : Nat → Int32) (n p : Nat) : Nat := lnS pf n p 10 0
theorem lnP_le (pf : Nat → Int32) (n p : Nat) : lnP pf n p ≤ 10 := by have := (lnS_ge pf n p 10 0).2; unfold lnP; omega
theorem cdP_ok (pf : Nat → Int32) (n p : Nat) : ∀ j, j < lnP pf n p → 1 ≤ cdP pf n p j ∧ cdP pf n p j ≤ 26 ∧ sgN pf n (p + j) = nI (96 + cdP pf n p j) := fun j hj => by
  obtain ⟨c, h1, h2, h3, h4⟩ := isLt_of (lnS_lt pf n p 10 0 j (Nat.zero_le _) hj)
  have e : cdP pf n p j = c := h4
  rw [e]
  exact ⟨h1, h2, h3⟩
theorem lfW_V (pf : Nat → Int32) (n p : Nat) : ∀ k i, i + k = 10 → (∀ j, j < i → cdP pf n p j < 32) → lfW pf n p k i (lN (wV (cdP pf n p) i)) = lN (wV (cdP pf n p) (lnS pf n p k i))
  | 0, i, _, _ => rfl
  | k + 1, i, hi, hc => by
    unfold lfW lnS
    by_cases h : isLt (sgN pf n (p + i)) = true
    · rw [if_pos h, if_pos h]
      obtain ⟨c, h1, h2, h3, h4⟩ := isLt_of h
      have e : cdP pf n p i = c := h4
      have hc2 : ∀ j, j < i + 1 → cdP pf n p j < 32 := fun j hj => by
        by_cases q : j = i
        · rw [q, e]; omega
        · exact hc j (by omega)
      rw [h3, ← e, wL_V (by omega) hc2]
      exact lfW_V pf n p k (i + 1) (by omega) hc2
    · rw [if_neg h, if_neg h]
/-- w is the number of a word of m letters, a = 1 -/
def isW (w : Int64) (c : Nat → Nat) (m : Nat) : Prop := m ≤ 10 ∧ (∀ j, j < m → 1 ≤ c j ∧ c j ≤ 26) ∧ w = lN (wV c m)
theorem isW_pad (pf : Nat → Int32) (n p : Nat) : isW (lfW pf n p 10 0 0) (cdP pf n p) (lnP pf n p) := by
  refine ⟨lnP_le pf n p, fun j hj => ⟨(cdP_ok pf n p j hj).1, (cdP_ok pf n p j hj).2.1⟩, ?_⟩
  have h := lfW_V pf n p 10 0 rfl (fun j hj => absurd hj (Nat.not_lt_zero j))
  have e : lN (wV (cdP pf n p) 0) = 0 := by
    unfold wV hV
    rw [Nat.zero_mul]
    rfl
  rw [e] at h
  exact h
theorem isW_cA {w : Int64} {c : Nat → Nat} {m j : Nat} (h : isW w c m) (hj : j < 10) : cA w (nI j) = nI (if j < m then c j else 0) := by
  rw [h.2.2]
  exact cA_w h.1 (fun j hj => by have := (h.2.1 j hj).2; omega) hj
theorem isW_z {w : Int64} {c : Nat → Nat} {m j : Nat} (h : isW w c m) (hj : j < 10) : cA w (nI j) = 0 ↔ m ≤ j := by
  rw [isW_cA h hj]
  by_cases e : j < m
  · have := h.2.1 j e
    rw [if_pos e]
    exact ⟨fun q => absurd q (nI_ne0 (by omega) (by omega)), fun q => by omega⟩
  · rw [if_neg e]
    exact ⟨fun _ => by omega, fun _ => rfl⟩
theorem lenF_eq {c : Nat → Int32} {m : Nat} : ∀ k i, i ≤ m → m ≤ i + k → (∀ j, i ≤ j → j < i + k → (c j = 0 ↔ m ≤ j)) → lenF c k i = m
  | 0, i, h1, h2, _ => by unfold lenF; omega
  | k + 1, i, h1, h2, h => by
    unfold lenF
    by_cases e : c i = 0
    · rw [if_pos e]
      have := (h i (Nat.le_refl _) (by omega)).mp e
      omega
    · rw [if_neg e]
      have hm : i < m := by
        by_cases q : m ≤ i
        · exact absurd ((h i (Nat.le_refl _) (by omega)).mpr q) e
        · omega
      exact lenF_eq k (i + 1) (by omega) (by omega) (fun j h3 h4 => h j (by omega) (by omega))
theorem isW_len {w : Int64} {c : Nat → Nat} {m : Nat} (h : isW w c m) : lenW w = m := lenF_eq 10 0 (Nat.zero_le _) (by have := h.1; omega) (fun j _ hj => isW_z h (by omega))
theorem isW_0 {w : Int64} {c : Nat → Nat} {m : Nat} (h : isW w c m) : w = 0 ↔ m = 0 := by
  constructor
  · intro e
    have h1 := (isW_z (j := 0) h (by omega)).mp (by rw [e]; decide +kernel)
    omega
  · intro e
    rw [h.2.2, e]
    unfold wV hV
    rw [Nat.zero_mul]
    rfl
/-- one word's number alone -/
theorem isW_inj {w v : Int64} {c d : Nat → Nat} {m k : Nat} (h : isW w c m) (h2 : isW v d k) : w = v ↔ (m = k ∧ ∀ j, j < m → c j = d j) := by
  constructor
  · intro e
    subst e
    have hm : m = k := by rw [← isW_len h, ← isW_len h2]
    refine ⟨hm, fun j hj => ?_⟩
    have h10 := h.1
    have e1 := isW_cA h (j := j) (by omega)
    rw [isW_cA h2 (j := j) (by omega), if_pos hj, if_pos (by omega)] at e1
    have b1 := h.2.1 j hj
    have b2 := h2.2.1 j (by omega)
    exact ((nI_eq (by omega) (by omega)).mp e1).symm
  · rintro ⟨rfl, hc⟩
    rw [h.2.2, h2.2.2]
    unfold wV
    rw [hV_congr m hc]
/-- the order of the numbers is that of the words -/
theorem hV_less {c d : Nat → Nat} {i : Nat} (hc : ∀ j, c j < 32) (h1 : ∀ j, j < i → c j = d j) (h2 : c i < d i) : ∀ k, hV c (i + 1 + k) < hV d (i + 1 + k)
  | 0 => by
    show hV c i * 32 + c i < hV d i * 32 + d i
    rw [hV_congr i h1]
    omega
  | k + 1 => by
    have ih := hV_less hc h1 h2 k
    have := hc (i + 1 + k)
    show hV c (i + 1 + k) * 32 + c (i + 1 + k) < hV d (i + 1 + k) * 32 + d (i + 1 + k)
    omega
def padC (c : Nat → Nat) (m j : Nat) : Nat := if j < m then c j else 0
theorem wV_pad {c : Nat → Nat} {m : Nat} : ∀ k, m + k = 10 → wV c m = hV (padC c m) 10 := by
  have h : ∀ k, hV (padC c m) (m + k) = hV c m * 32 ^ k := fun k => by
    induction k with
    | zero => rw [Nat.pow_zero, Nat.mul_one]; exact hV_congr m (fun j hj => if_pos hj)
    | succ k ih =>
      show hV (padC c m) (m + k) * 32 + padC c m (m + k) = _
      rw [ih, show padC c m (m + k) = 0 from if_neg (by omega), Nat.pow_succ, ← Nat.mul_assoc, Nat.add_zero]
  intro k hk
  have h9 := h k
  rw [hk] at h9
  rw [h9]
  unfold wV
  rw [show 10 - m = k by omega]
theorem isW_lt {w v : Int64} {c d : Nat → Nat} {m k : Nat} (h : isW w c m) (h2 : isW v d k) {i : Nat} (hi : i < 10) (he : ∀ j, j < i → padC c m j = padC d k j) (hl : padC c m i < padC d k i) : w < v := by
  have b : ∀ j, padC c m j < 32 := fun j => by
    unfold padC
    split
    · rename_i q; have := (h.2.1 j q).2; omega
    · omega
  have h10 := h.1
  have k10 := h2.1
  have w1 := wV_lt (c := c) (m := m) h.1 (fun j hj => by have := (h.2.1 j hj).2; omega)
  have w2 := wV_lt (c := d) (m := k) h2.1 (fun j hj => by have := (h2.2.1 j hj).2; omega)
  have h3 := hV_less b he hl (9 - i)
  rw [show i + 1 + (9 - i) = 10 by omega, ← wV_pad (10 - m) (by omega), ← wV_pad (10 - k) (by omega)] at h3
  rw [h.2.2, h2.2.2]
  exact (pk_lLT (by omega) (by omega)).mpr h3
