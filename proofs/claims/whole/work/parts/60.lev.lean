/-! HOW FAR: the table of beginnings and the table of endings come to the same -/
def gI (c : Nat → Nat) (f : Nat → Nat) : Nat → Nat
  | 0 => f 0 + 1
  | j + 1 => min (f j + c j) (min (f (j + 1) + 1) (gI c f j + 1))
def gD (c : Nat → Nat → Nat) : Nat → Nat → Nat
  | 0 => fun j => j
  | i + 1 => gI (c i) (gD c i)
theorem gD_0 (c : Nat → Nat → Nat) (j : Nat) : gD c 0 j = j := rfl
theorem gD_s0 (c : Nat → Nat → Nat) (i : Nat) : gD c (i + 1) 0 = gD c i 0 + 1 := rfl
theorem gD_ss (c : Nat → Nat → Nat) (i j : Nat) : gD c (i + 1) (j + 1) = min (gD c i j + c i j) (min (gD c i (j + 1) + 1) (gD c (i + 1) j + 1)) := rfl
theorem gD_i0 (c : Nat → Nat → Nat) : ∀ i, gD c i 0 = i
  | 0 => rfl
  | i + 1 => by rw [gD_s0, gD_i0 c i]
theorem gD_congr {c d : Nat → Nat → Nat} : ∀ (i j : Nat), (∀ a b, a < i → b < j → c a b = d a b) → gD c i j = gD d i j
  | 0, j, _ => rfl
  | i + 1, 0, h => by rw [gD_s0, gD_s0, gD_congr i 0 (fun a b _ hb => absurd hb (Nat.not_lt_zero b))]
  | i + 1, j + 1, h => by
    rw [gD_ss, gD_ss, gD_congr i j (fun a b ha hb => h a b (by omega) (by omega)), gD_congr i (j + 1) (fun a b ha hb => h a b (by omega) hb), gD_congr (i + 1) j (fun a b ha hb => h a b ha (by omega)), h i j (by omega) (by omega)]
termination_by i j => i + j
theorem gD_down {c : Nat → Nat → Nat} (i j : Nat) : gD c (i + 1) j ≤ gD c i j + 1 := by
  cases j with
  | zero => rw [gD_s0]; omega
  | succ j => rw [gD_ss]; omega
theorem gD_right {c : Nat → Nat → Nat} (i j : Nat) : gD c i (j + 1) ≤ gD c i j + 1 := by
  cases i with
  | zero => rw [gD_0, gD_0]; omega
  | succ i => rw [gD_ss]; omega
theorem gD_diag {c : Nat → Nat → Nat} (i j : Nat) : gD c (i + 1) (j + 1) ≤ gD c i j + c i j := by rw [gD_ss]; omega
/-- from a place of the table on, by the endings -/
theorem gD_tri {c : Nat → Nat → Nat} {m n : Nat} : ∀ (p q : Nat), p ≤ m → q ≤ n → gD c m n ≤ gD c (m - p) (n - q) + gD (fun a b => c (m - 1 - a) (n - 1 - b)) p q
  | 0, 0, _, _ => by rw [gD_0]; exact Nat.le_refl _
  | 0, q + 1, hp, hq => by
    have ih := gD_tri (c := c) (m := m) (n := n) 0 q hp (by omega)
    have h := gD_right (c := c) (m - 0) (n - (q + 1))
    rw [show n - (q + 1) + 1 = n - q by omega] at h
    rw [gD_0] at ih ⊢
    omega
  | p + 1, 0, hp, hq => by
    have ih := gD_tri (c := c) (m := m) (n := n) p 0 (by omega) hq
    have h := gD_down (c := c) (m - (p + 1)) (n - 0)
    rw [show m - (p + 1) + 1 = m - p by omega] at h
    rw [gD_i0] at ih ⊢
    omega
  | p + 1, q + 1, hp, hq => by
    have i1 := gD_tri (c := c) (m := m) (n := n) p q (by omega) (by omega)
    have i2 := gD_tri (c := c) (m := m) (n := n) p (q + 1) (by omega) hq
    have i3 := gD_tri (c := c) (m := m) (n := n) (p + 1) q hp (by omega)
    have h1 := gD_diag (c := c) (m - (p + 1)) (n - (q + 1))
    have h2 := gD_down (c := c) (m - (p + 1)) (n - (q + 1))
    have h3 := gD_right (c := c) (m - (p + 1)) (n - (q + 1))
    rw [show m - (p + 1) + 1 = m - p by omega] at h1 h2
    rw [show n - (q + 1) + 1 = n - q by omega] at h1 h3
    rw [gD_ss]
    rw [show m - 1 - p = m - (p + 1) by omega, show n - 1 - q = n - (q + 1) by omega]
    omega
termination_by p q => p + q
theorem gD_flip (c : Nat → Nat → Nat) (m n : Nat) : gD (fun a b => c (m - 1 - a) (n - 1 - b)) m n = gD c m n := by
  apply Nat.le_antisymm
  · have h := gD_tri (c := fun a b => c (m - 1 - a) (n - 1 - b)) (m := m) (n := n) m n (Nat.le_refl _) (Nat.le_refl _)
    rw [Nat.sub_self, Nat.sub_self, gD_0, Nat.zero_add] at h
    rw [gD_congr (c := fun a b => c (m - 1 - (m - 1 - a)) (n - 1 - (n - 1 - b))) (d := c) m n (fun a b ha hb => by rw [show m - 1 - (m - 1 - a) = a by omega, show n - 1 - (n - 1 - b) = b by omega])] at h
    exact h
  · have h := gD_tri (c := c) (m := m) (n := n) m n (Nat.le_refl _) (Nat.le_refl _)
    rw [Nat.sub_self, Nat.sub_self, gD_0, Nat.zero_add] at h
    exact h
/-- no farther than the longer, no nearer than the difference -/
theorem gD_bounds {c : Nat → Nat → Nat} (hc : ∀ a b, c a b ≤ 1) : ∀ i j, i ≤ gD c i j + j ∧ j ≤ gD c i j + i ∧ gD c i j ≤ max i j
  | 0, j => by rw [gD_0]; omega
  | i + 1, 0 => by rw [gD_i0]; omega
  | i + 1, j + 1 => by
    have h1 := gD_bounds hc i j
    have h2 := gD_bounds hc i (j + 1)
    have h3 := gD_bounds hc (i + 1) j
    have h4 := hc i j
    rw [gD_ss]
    omega
termination_by i j => i + j
/-- the least of a row's first n + 1 -/
def rowMin (f : Nat → Nat) : Nat → Nat
  | 0 => f 0
  | n + 1 => min (rowMin f n) (f (n + 1))
theorem rowMin_le (f : Nat → Nat) : ∀ n j, j ≤ n → rowMin f n ≤ f j
  | 0, j, h => by rw [show j = 0 by omega]; exact Nat.le_refl _
  | n + 1, j, h => by
    unfold rowMin
    by_cases hj : j = n + 1
    · rw [hj]; omega
    · have := rowMin_le f n j (by omega); omega
theorem le_rowMin {f : Nat → Nat} {t : Nat} : ∀ n, (∀ j, j ≤ n → t ≤ f j) → t ≤ rowMin f n
  | 0, h => h 0 (Nat.le_refl _)
  | n + 1, h => by
    have h1 := le_rowMin n (fun j hj => h j (by omega))
    have h2 := h (n + 1) (Nat.le_refl _)
    unfold rowMin
    omega
theorem gD_row {c : Nat → Nat → Nat} {t n i : Nat} (h : ∀ j, j ≤ n → t ≤ gD c i j) : ∀ j, j ≤ n → t ≤ gD c (i + 1) j
  | 0, hj => by rw [gD_s0]; have := h 0 hj; omega
  | j + 1, hj => by
    have h1 := h j (by omega)
    have h2 := h (j + 1) hj
    have h3 := gD_row h j (by omega)
    rw [gD_ss]
    omega
theorem gD_rows {c : Nat → Nat → Nat} {t n i : Nat} (h : ∀ j, j ≤ n → t ≤ gD c i j) : ∀ k j, j ≤ n → t ≤ gD c (i + k) j
  | 0, j, hj => h j hj
  | k + 1, j, hj => gD_row (gD_rows h k) j hj
