/-! THE TWO STATES TOGETHER: score, counted, count, record, facet, span -/
theorem wi_iff {x lo hi : Int32} : wi x lo hi = true ↔ lo.toInt ≤ x.toInt ∧ x.toInt ≤ hi.toInt := by
  unfold wi
  rw [Bool.and_eq_true, decide_eq_true_eq, decide_eq_true_eq, Int32.lt_iff_toInt_lt, Int32.lt_iff_toInt_lt]
  omega
theorem isR_iff {x : Int32} {n : Nat} : isR x n = true ↔ ¬ x < 0 ∧ x < nI n := by
  unfold isR
  rw [Bool.and_eq_true, decide_eq_true_eq, decide_eq_true_eq]
theorem up_s {f : Nat → Int32} {i : Nat} {v : Int32} : upd f i v i = v := if_pos rfl
theorem up_n {f : Nat → Int32} {i j : Nat} {v : Int32} (h : j ≠ i) : upd f i v j = f j := if_neg h
theorem rg4 {x : Int32} : (¬ x < 0 ∧ x < 4) ↔ wi x 0 3 = true := by
  rw [wi_iff, Int32.lt_iff_toInt_lt, Int32.lt_iff_toInt_lt]
  have e0 : (0 : Int32).toInt = 0 := rfl
  have e1 : (3 : Int32).toInt = 3 := rfl
  have e2 : (4 : Int32).toInt = 4 := rfl
  omega
theorem rg8 {x : Int32} : (¬ x < 0 ∧ x < 8) ↔ wi x 0 7 = true := by
  rw [wi_iff, Int32.lt_iff_toInt_lt, Int32.lt_iff_toInt_lt]
  have e0 : (0 : Int32).toInt = 0 := rfl
  have e1 : (7 : Int32).toInt = 7 := rfl
  have e2 : (8 : Int32).toInt = 8 := rfl
  omega
theorem rg6 {x : Int32} : (¬ x < 0 ∧ x < 6) ↔ wi x 0 5 = true := by
  rw [wi_iff, Int32.lt_iff_toInt_lt, Int32.lt_iff_toInt_lt]
  have e0 : (0 : Int32).toInt = 0 := rfl
  have e1 : (5 : Int32).toInt = 5 := rfl
  have e2 : (6 : Int32).toInt = 6 := rfl
  omega
theorem rg16 {x : Int32} : (¬ x < 0 ∧ x < 16) ↔ wi x 0 15 = true := by
  rw [wi_iff, Int32.lt_iff_toInt_lt, Int32.lt_iff_toInt_lt]
  have e0 : (0 : Int32).toInt = 0 := rfl
  have e1 : (15 : Int32).toInt = 15 := rfl
  have e2 : (16 : Int32).toInt = 16 := rfl
  omega
theorem rgN {x : Int32} : (x = -1 ∨ ¬ x < 0 ∧ x < 16) ↔ wi x (-1) 15 = true := by
  rw [wi_iff, Int32.lt_iff_toInt_lt, Int32.lt_iff_toInt_lt, ← Int32.toInt_inj]
  have e0 : (0 : Int32).toInt = 0 := rfl
  have e1 : (15 : Int32).toInt = 15 := rfl
  have e2 : (16 : Int32).toInt = 16 := rfl
  have e3 : (-1 : Int32).toInt = -1 := rfl
  omega
theorem rgO {x : Int32} (h : x = -1 ∨ ¬ x < 0 ∧ x < 16) : okv x := by
  rcases h with h | ⟨h1, h2⟩
  · exact Or.inl h
  · obtain ⟨a, ha, e⟩ := ab_ofI (n := 16) h1 h2 (by omega)
    exact Or.inr ⟨a, ha, e⟩
theorem jW_c {sw : Nat → Int64} {ny nl nt : Nat → Int32} {n : Nat} (h : jW sw ny nl nt n) : ∀ r, r < n → cnF ny r ≤ 12 ∧ ny r = nI (cnF ny r) := fun r _ => h.1 r
theorem jW_l {sw : Nat → Int64} {ny nl nt : Nat → Int32} {n : Nat} (h : jW sw ny nl nt n) : ∀ r, r < n → ∀ i, i < cnF ny r → lnOk nl (lnF nl) (12 * r + i) := fun r hr i hi => (h.2.2.1 r hr i hi).1
theorem fsS_z (nt : Nat → Int32) (ln cnt : Nat → Nat) (w : Nat) : ∀ v, fsS nt ln cnt w false v = false
  | 0 => rfl
  | v + 1 => by
    unfold fsS
    rw [fsS_z nt ln cnt w v]
    rfl
theorem dfS_un (nt : Nat → Int32) (ln cnt : Nat → Nat) {n : Nat} (h : cnt n = 0) : ∀ k, k ≤ 12 → dfS nt ln cnt (12 * n + k) = dfS nt ln cnt (12 * n)
  | 0, _ => rfl
  | k + 1, hk => by
    show dfS nt ln cnt (12 * n + k) + (if fsS nt ln cnt (12 * n + k) (useW cnt (12 * n + k)) (12 * n + k) = true then 1 else 0) = _
    have hu : useW cnt (12 * n + k) = false := by
      unfold useW
      rw [show (12 * n + k) / 12 = n by omega, h]
      exact decide_eq_false (by omega)
    rw [hu, fsS_z, dfS_un nt ln cnt h k (by omega)]
    rfl
section J1
variable {l : Launch} {c : stF} {d : stM}
theorem jv_score (hl : l.stackTraces = false) (hJ : Jn c d) (x1 x2 : Int32) : jL l Jn 0 M_Fs_score M_Mo_score [.int x1, .int x2] [x_ns] c d := by
  obtain ⟨⟨pf, pn⟩, ⟨sw, wc, sv, fy, ly, ro, ss, aw, dw⟩, tp, ru, qu, ⟨hr, hp, hz, ts, vc, tt⟩, al⟩ := c
  obtain ⟨mt, ⟨ma, mn⟩, ⟨nr, ny, nl, nt, nv, np, nf, nu, nh⟩, mq, ⟨vt, vh, vr, vs, vp, vo, vx, vn⟩, mx⟩ := d
  have hJ0 := hJ
  obtain ⟨m, n, h1, h2, h3, h4, h5, h6, h7, h8, h9, h10, hs, T, g1, g2, g3, g4, g5, g6, g7, g8⟩ := hJ
  dsimp only at g3 g4 g5 g6 g7 g8
  subst g3 g4 g5 g6
  have hh : ∀ j, j < hs → ∃ r : Nat, r < 32 ∧ hr j = nI r := fun j hj => by
    obtain ⟨r, q0, q1, -⟩ := g7 j hj
    exact ⟨r, q0, q1⟩
  have hcd : ((¬ x1 < 0 ∧ x1 < nI hs) ∧ ¬ x2 < 0 ∧ x2 < nI T) ↔ (isR x1 hs && isR x2 T) = true := by
    rw [Bool.and_eq_true, isR_iff, isR_iff]
  by_cases hc : (¬ x1 < 0 ∧ x1 < nI hs) ∧ ¬ x2 < 0 ∧ x2 < nI T
  · obtain ⟨k, hk, rfl⟩ := ab_ofI hc.1.1 hc.1.2 (by omega)
    obtain ⟨t, ht, rfl⟩ := ab_ofI hc.2.1 hc.2.2 (by omega)
    obtain ⟨r, hr32, q1, q2, q3, q4⟩ := g7 k hk
    have ecl : (nI k).toNatClampNeg = k := nI_clamp (by omega)
    have ecl2 : (nI t).toNatClampNeg = t := nI_clamp (by omega)
    refine jL_det (.inl (some (.int (ts ((hr (nI k).toNatClampNeg).toNatClampNeg * 8 + (nI t).toNatClampNeg))))) _ (some (.int (vp (8 * (nI k).toNatClampNeg + (nI t).toNatClampNeg)))) (0, (ma, mn), (nr, ny, nl, nt, nv, np, nf, nu, nh), mq, (nI T, nI hs, vr, vs, vp, vo, vx, vn), mx) (by decide) (by decide) (fun z => ab_K_mono (fun r hr => by rw [if_pos hc] at hr; exact hr) (k_Fs_score hl g1 g2 hh)) (fun z => ab_K_mono (fun r hr => by rw [if_pos (hcd.mp hc)] at hr; exact hr) (k_Mo_score hl g1 g2)) ⟨_, rfl⟩ ?_ hJ0
    rw [ecl, ecl2, q1, nI_clamp (show r < 2 ^ 31 by omega), q4 t ht]
    exact okR_v rfl
  · refine jL_det (.inr x_ns) _ (some (.int 0)) (1, (ma, mn), (nr, ny, nl, nt, nv, np, nf, nu, nh), mq, (nI T, nI hs, vr, vs, vp, vo, vx, vn), mx) (by decide) (by decide) (fun z => ab_K_mono (fun r hr => by rw [if_neg hc] at hr; exact hr) (k_Fs_score hl g1 g2 hh)) (fun z => ab_K_mono (fun r hr => by rw [if_neg (fun q => hc (hcd.mpr q))] at hr; exact hr) (k_Mo_score hl g1 g2)) ⟨_, rfl⟩ (okR_1 rfl) hJ0
theorem jv_counted (hl : l.stackTraces = false) (hJ : Jn c d) (x1 x2 : Int32) : jL l Jn 0 M_Fs_counted M_Mo_counted [.int x1, .int x2] [x_ns] c d := by
  obtain ⟨⟨pf, pn⟩, ⟨sw, wc, sv, fy, ly, ro, ss, aw, dw⟩, tp, ru, qu, ⟨hr, hp, hz, ts, vc, tt⟩, al⟩ := c
  obtain ⟨mt, ⟨ma, mn⟩, ⟨nr, ny, nl, nt, nv, np, nf, nu, nh⟩, mq, ⟨vt, vh, vr, vs, vp, vo, vx, vn⟩, mx⟩ := d
  have hJ0 := hJ
  obtain ⟨m, n, h1, h2, h3, h4, h5, h6, h7, h8, h9, h10, hs, T, g1, g2, g3, g4, g5, g6, g7, g8⟩ := hJ
  dsimp only at g3 g4 g5 g6 g7 g8
  have hcd : ((¬ x1 < 0 ∧ x1 < 4) ∧ ¬ x2 < 0 ∧ x2 < 16) ↔ (wi x1 0 3 && wi x2 0 15) = true := by
    rw [Bool.and_eq_true, rg4, rg16]
  by_cases hc : (¬ x1 < 0 ∧ x1 < 4) ∧ ¬ x2 < 0 ∧ x2 < 16
  · obtain ⟨k, hk, rfl⟩ := ab_ofI (n := 4) hc.1.1 hc.1.2 (by omega)
    obtain ⟨t, ht, rfl⟩ := ab_ofI (n := 16) hc.2.1 hc.2.2 (by omega)
    have ecl : (nI k).toNatClampNeg = k := nI_clamp (by omega)
    have ecl2 : (nI t).toNatClampNeg = t := nI_clamp (by omega)
    refine jL_det (.inl (some (.int (vc ((nI k).toNatClampNeg * 16 + (nI t).toNatClampNeg))))) _ (some (.int (vn ((nI k).toNatClampNeg * 16 + (nI t).toNatClampNeg)))) (0, (ma, mn), (nr, ny, nl, nt, nv, np, nf, nu, nh), mq, (vt, vh, vr, vs, vp, vo, vx, vn), mx) (by decide) (by decide) (fun z => ab_K_mono (fun r hr => by rw [if_pos hc] at hr; exact hr) (k_Fs_counted hl)) (fun z => ab_K_mono (fun r hr => by rw [if_pos (hcd.mp hc)] at hr; exact hr) (k_Mo_counted hl)) ⟨_, rfl⟩ ?_ hJ0
    rw [ecl, ecl2, g8 _ (by omega)]
    exact okR_v rfl
  · refine jL_det (.inr x_ns) _ (some (.int 0)) (1, (ma, mn), (nr, ny, nl, nt, nv, np, nf, nu, nh), mq, (vt, vh, vr, vs, vp, vo, vx, vn), mx) (by decide) (by decide) (fun z => ab_K_mono (fun r hr => by rw [if_neg hc] at hr; exact hr) (k_Fs_counted hl)) (fun z => ab_K_mono (fun r hr => by rw [if_neg (fun q => hc (hcd.mpr q))] at hr; exact hr) (k_Mo_counted hl)) ⟨_, rfl⟩ (okR_1 rfl) hJ0
theorem jv_count (hl : l.stackTraces = false) (hJ : Jn c d) (x : Int32) : jL l Jn 0 M_Fs_count M_Mo_count [.int x] [x_ia] c d := by
  obtain ⟨⟨pf, pn⟩, ⟨sw, wc, sv, fy, ly, ro, ss, aw, dw⟩, tp, ru, qu, ⟨hr, hp, hz, ts, vc, tt⟩, al⟩ := c
  obtain ⟨mt, ⟨ma, mn⟩, ⟨nr, ny, nl, nt, nv, np, nf, nu, nh⟩, mq, ⟨vt, vh, vr, vs, vp, vo, vx, vn⟩, mx⟩ := d
  have hJ0 := hJ
  obtain ⟨m, n, ⟨h60, h32⟩, ⟨e1, e2, e3, hsg⟩, ⟨e4, e5⟩, e6, hW, ⟨e7, e8⟩, h7, h8, h9, h10, hs, T, g1, g2, g3, g4, g5, g6, g7, g8⟩ := hJ
  dsimp only at e1 e2 e3 e4 e5 e6 e7 e8 hW g3 g4 g5 g6
  subst e2 e3 e4 e5 e7 e8 g3 g4 g5 g6
  by_cases hc : ¬ x < 0 ∧ x < 6
  · refine jL_det (.inl (some (.int (cntV x (nI m) (nI n) (nI (sumT (cnF ny) n)) (nI (dfS nt (lnF nl) (cnF ny) (12 * n))) (nI hs) (nI T))))) _ (some (.int (cntV x (nI m) (nI n) (nI (sumT (cnF ny) n)) (nI (dfS nt (lnF nl) (cnF ny) (12 * n))) (nI hs) (nI T)))) (0, (ma, nI m), (nI n, ny, nl, nt, nv, np, nf, nu, nh), mq, (nI T, nI hs, vr, vs, vp, vo, vx, vn), mx) (by decide) (by decide) (fun z => ab_K_mono (fun r hr => by rw [if_pos hc] at hr; exact hr) (k_Fs_count hl)) (fun z => ab_K_mono (fun r hr => by rw [if_pos (rg6.mp hc)] at hr; exact hr) (k_Mo_count hl h32 (jW_c hW) (jW_l hW))) ⟨_, rfl⟩ (okR_v rfl) hJ0
  · refine jL_det (.inr x_ia) _ (some (.int 0)) (1, (ma, nI m), (nI n, ny, nl, nt, nv, np, nf, nu, nh), mq, (nI T, nI hs, vr, vs, vp, vo, vx, vn), mx) (by decide) (by decide) (fun z => ab_K_mono (fun r hr => by rw [if_neg hc] at hr; exact hr) (k_Fs_count hl)) (fun z => ab_K_mono (fun r hr => by rw [if_neg (fun q => hc (rg6.mpr q))] at hr; exact hr) (k_Mo_count hl h32 (jW_c hW) (jW_l hW))) ⟨_, rfl⟩ (okR_1 rfl) hJ0
theorem jv_record (hl : l.stackTraces = false) (hJ : Jn c d) : jL l Jn 0 M_Fs_record M_Mo_record [] [x_is] c d := by
  obtain ⟨⟨pf, pn⟩, ⟨sw, wc, sv, fy, ly, ro, ss, aw, dw⟩, tp, ru, qu, to, al⟩ := c
  obtain ⟨mt, ⟨ma, mn⟩, ⟨nr, ny, nl, nt, nv, np, nf, nu, nh⟩, mq, mo, mx⟩ := d
  have hJ0 := hJ
  obtain ⟨m, n, ⟨h60, h32⟩, hp, ⟨e4, e5⟩, e6, hW, ⟨e7, e8⟩, h⟩ := hJ
  dsimp only at e4 e5 e6 e7 e8 hW hp h
  subst e4 e5 e7 e8
  by_cases hc : n < 32
  · have hcc : nI n < 32 := nI_lt (b := 32) hc (by omega)
    refine jL_det (.inl (some (.int (nI n)))) ((pf, pn), (sw, wc, sv, fy, ly, ro, nI (n + 1), nI (sumT (cnF ny) n), nI (dfS nt (lnF nl) (cnF ny) (12 * n))), tp, ru, qu, to, al) (some (.int (nI n))) (0, (ma, mn), (nI (n + 1), ny, nl, nt, nv, np, nf, nu, nh), mq, mo, mx) (by decide) (by decide) (fun z => ab_K_mono (fun r hr => ?_) (k_Fs_record hl)) (fun z => ab_K_mono (fun r hr => by rw [if_pos hc] at hr; exact hr) (k_Mo_record hl h32)) ⟨_, rfl⟩ (okR_v rfl) ?_
    · rcases hr with ⟨-, e⟩ | ⟨q, -⟩
      · rw [e, nI_1]
      · exact absurd hcc q
    · have hz := hW.2.1 n (Nat.le_refl _)
      refine ⟨m, n + 1, ⟨h60, by omega⟩, hp, ⟨rfl, rfl⟩, e6, ⟨hW.1, fun r hr => hW.2.1 r (by omega), fun r hr i hi => ?_, fun r hr => ?_⟩, ⟨?_, ?_⟩, h⟩
      · by_cases e : r = n
        · subst e
          dsimp only at hi
          rw [hz] at hi
          omega
        · exact hW.2.2.1 r (by omega) i hi
      · by_cases e : r = n
        · subst e
          dsimp only
          rw [hz]
          exact ⟨fun i j _ hj => by omega, List.Perm.refl _⟩
        · exact hW.2.2.2 r (by omega)
      · show nI (sumT (cnF ny) n) = nI (sumT (cnF ny) n + cnF ny n)
        rw [hz]
        rfl
      · show nI (dfS nt (lnF nl) (cnF ny) (12 * n)) = nI (dfS nt (lnF nl) (cnF ny) (12 * n + 12))
        rw [dfS_un nt (lnF nl) (cnF ny) hz 12 (by omega)]
  · have hcc : ¬ nI n < 32 := nI_nlt (b := 32) (by omega) (by omega)
    refine jL_det (.inr x_is) _ (some (.int 0)) (1, (ma, mn), (nI n, ny, nl, nt, nv, np, nf, nu, nh), mq, mo, mx) (by decide) (by decide) (fun z => ab_K_mono (fun r hr => ?_) (k_Fs_record hl)) (fun z => ab_K_mono (fun r hr => by rw [if_neg hc] at hr; exact hr) (k_Mo_record hl h32)) ⟨_, rfl⟩ (okR_1 rfl) hJ0
    rcases hr with ⟨q, -⟩ | ⟨-, e⟩
    · exact absurd q hcc
    · exact e
theorem jv_facet (hl : l.stackTraces = false) (hJ : Jn c d) (x1 x2 x3 : Int32) : jL l Jn 0 M_Fs_facet M_Mo_facet [.int x1, .int x2, .int x3] [x_ns] c d := by
  obtain ⟨⟨pf, pn⟩, ⟨sw, wc, sv, fy, ly, ro, ss, aw, dw⟩, tp, ru, qu, to, al⟩ := c
  obtain ⟨mt, ⟨ma, mn⟩, ⟨nr, ny, nl, nt, nv, np, nf, nu, nh⟩, mq, mo, mx⟩ := d
  have hJ0 := hJ
  obtain ⟨m, n, ⟨h60, h32⟩, hp, ⟨e4, e5⟩, e6, hW, ⟨e7, e8⟩, hV, h⟩ := hJ
  dsimp only at e4 e5 hV h hp e6 hW e7 e8
  subst e4 e5
  have hcd : (((¬ x1 < 0 ∧ x1 < nI n) ∧ ¬ x2 < 0 ∧ x2 < 4) ∧ (x3 = -1 ∨ ¬ x3 < 0 ∧ x3 < 16)) ↔ (isR x1 n && (wi x2 0 3 && wi x3 (-1) 15)) = true := by
    rw [Bool.and_eq_true, Bool.and_eq_true, isR_iff, rg4, rgN, and_assoc]
  by_cases hc : ((¬ x1 < 0 ∧ x1 < nI n) ∧ ¬ x2 < 0 ∧ x2 < 4) ∧ (x3 = -1 ∨ ¬ x3 < 0 ∧ x3 < 16)
  · have hco := hc
    have hcM := hcd.mp hc
    obtain ⟨r, hr, rfl⟩ := ab_ofI hc.1.1.1 hc.1.1.2 (by omega)
    obtain ⟨f, hf4, rfl⟩ := ab_ofI (n := 4) hc.1.2.1 hc.1.2.2 (by omega)
    have ecl : (nI r).toNatClampNeg = r := nI_clamp (by omega)
    have ecl2 : (nI f).toNatClampNeg = f := nI_clamp (by omega)
    have ej := (ab_j4 (r := r) (i := f) (by omega) hf4).2.2
    refine jL_det (.inl (some (.int (sv (r * 4 + f))))) ((pf, pn), (sw, wc, upd sv (r * 4 + f) x3, fy, ly, ro, nI n, aw, dw), tp, ru, qu, to, al) (some (.int (nv (r * 4 + f)))) (0, (ma, mn), (nI n, ny, nl, nt, upd nv (r * 4 + f) x3, np, nf, nu, nh), mq, mo, mx) (by decide) (by decide) (fun z => ab_K_mono (fun q hq => ?_) (k_Fs_facet hl h32 rfl)) (fun z => ab_K_mono (fun q hq => ?_) (k_Mo_facet hl h32)) ⟨_, rfl⟩ ?_ ?_
    · rcases hq with ⟨-, e⟩ | ⟨q9, -⟩
      · rw [ej] at e; exact e
      · exact absurd hc q9
    · rw [if_pos hcM, ecl, ecl2] at hq
      exact hq
    · rw [(hV (r * 4 + f) (by omega)).1]
      exact okR_v rfl
    · refine ⟨m, n, ⟨h60, h32⟩, hp, ⟨rfl, rfl⟩, e6, hW, ⟨e7, e8⟩, fun j hj => ?_, h⟩
      show upd sv (r * 4 + f) x3 j = upd nv (r * 4 + f) x3 j ∧ okv (upd nv (r * 4 + f) x3 j)
      by_cases e : j = r * 4 + f
      · rw [e, up_s, up_s]
        exact ⟨rfl, rgO hc.2⟩
      · rw [up_n e, up_n e]
        exact hV j hj
  · refine jL_det (.inr x_ns) _ (some (.int 0)) (1, (ma, mn), (nI n, ny, nl, nt, nv, np, nf, nu, nh), mq, mo, mx) (by decide) (by decide) (fun z => ab_K_mono (fun q hq => ?_) (k_Fs_facet hl h32 rfl)) (fun z => ab_K_mono (fun q hq => by rw [if_neg (fun q => hc (hcd.mpr q))] at hq; exact hq) (k_Mo_facet hl h32)) ⟨_, rfl⟩ (okR_1 rfl) hJ0
    rcases hq with ⟨q9, -⟩ | ⟨-, e⟩
    · exact absurd q9 hc
    · exact e
theorem okR_ia {v : Option Value} {me : Int32} (h : me = 2) : okR [x_ns, x_ia] (.inr x_ia) v me := Or.inr ⟨x_ia, by simp, rfl, by rw [h]; decide +kernel⟩
theorem okR_c {E : String} {Es : List String} {v : Option Value} {me : Int32} (h : me = 1) : okR (E :: Es) (.inr E) v me := Or.inr ⟨E, List.mem_cons_self, rfl, by rw [h]; unfold exN; rw [List.idxOf_cons_self]; rfl⟩
theorem jv_span (hl : l.stackTraces = false) (hJ : Jn c d) (x1 x2 x3 : Int32) : jL l Jn 2 M_Fs_span M_Mo_span [.int x1, .int x2, .int x3] [x_ns, x_ia] c d := by
  obtain ⟨⟨pf, pn⟩, ⟨sw, wc, sv, fy, ly, ro, ss, aw, dw⟩, tp, ru, qu, to, al⟩ := c
  obtain ⟨mt, ⟨ma, mn⟩, ⟨nr, ny, nl, nt, nv, np, nf, nu, nh⟩, mq, mo, mx⟩ := d
  have hJ0 := hJ
  obtain ⟨m, n, ⟨h60, h32⟩, hp, ⟨e4, e5⟩, e6, hW, ⟨e7, e8⟩, hV, hT, ⟨hY, e9⟩, h⟩ := hJ
  dsimp only at e4 e5 hV h hp e6 hW e7 e8 hT hY e9
  subst e4 e5 e9
  have hcd : (¬ x2 < 0 ∧ ¬ x3 < x2 ∧ x3 ≤ 9999) ↔ spB x2 x3 = true := by
    unfold spB
    rw [Bool.and_eq_true, Bool.and_eq_true, wi_iff, wi_iff, decide_eq_true_eq, Int32.lt_iff_toInt_lt, Int32.lt_iff_toInt_lt, Int32.le_iff_toInt_le]
    have e0 : (0 : Int32).toInt = 0 := rfl
    have e1 : (9999 : Int32).toInt = 9999 := rfl
    omega
  by_cases h1 : ¬ x1 < 0 ∧ x1 < nI n
  · have hR : isR x1 n = true := isR_iff.mpr h1
    by_cases h2 : ¬ x2 < 0 ∧ ¬ x3 < x2 ∧ x3 ≤ 9999
    · have hB : spB x2 x3 = true := hcd.mp h2
      obtain ⟨r, hr, rfl⟩ := ab_ofI h1.1 h1.2 (by omega)
      have ecl : (nI r).toNatClampNeg = r := nI_clamp (by omega)
      refine jL_det (.inl none) ((pf, pn), (sw, wc, sv, upd fy r x2, upd ly r x3, ro, nI n, aw, dw), tp, ru, qu, to, al) none (0, (ma, mn), (nI n, ny, nl, nt, nv, np, upd nf r x2, upd ly r x3, nh), mq, mo, mx) (by decide) (by decide) (fun z => ab_K_mono (fun q hq => by rw [if_pos h1, if_pos h2, ecl] at hq; exact hq) (k_Fs_span hl h32)) (fun z => ab_K_mono (fun q hq => by rw [hR, hB, if_pos (by decide), ecl] at hq; exact hq) (k_Mo_span hl h32)) rfl (okR_v rfl) ?_
      refine ⟨m, n, ⟨h60, h32⟩, hp, ⟨rfl, rfl⟩, e6, hW, ⟨e7, e8⟩, hV, hT, ⟨fun j hj => ?_, rfl⟩, h⟩
      show upd fy r x2 j = upd nf r x2 j ∧ (upd nf r x2 j = -1 ∨ ¬ upd ly r x3 j < upd nf r x2 j)
      by_cases e : j = r
      · rw [e, up_s, up_s, up_s]
        exact ⟨rfl, Or.inr h2.2.1⟩
      · rw [up_n e, up_n e, up_n e]
        exact hY j hj
    · have hB : spB x2 x3 = false := by
        cases hb : spB x2 x3 with
        | false => rfl
        | true => exact absurd (hcd.mpr hb) h2
      exact jL_det (.inr x_ia) _ none (2, (ma, mn), (nI n, ny, nl, nt, nv, np, nf, ly, nh), mq, mo, mx) (by decide) (by decide) (fun z => ab_K_mono (fun q hq => by rw [if_pos h1, if_neg h2] at hq; exact hq) (k_Fs_span hl h32)) (fun z => ab_K_mono (fun q hq => by rw [hR, hB, if_neg (by decide)] at hq; exact hq) (k_Mo_span hl h32)) rfl (okR_ia rfl) hJ0
  · have hR : isR x1 n = false := by
      cases hb : isR x1 n with
      | false => rfl
      | true => exact absurd (isR_iff.mp hb) h1
    exact jL_det (.inr x_ns) _ none (1, (ma, mn), (nI n, ny, nl, nt, nv, np, nf, ly, nh), mq, mo, mx) (by decide) (by decide) (fun z => ab_K_mono (fun q hq => by rw [if_neg h1] at hq; exact hq) (k_Fs_span hl h32)) (fun z => ab_K_mono (fun q hq => by rw [hR, Bool.false_and, if_neg (by decide)] at hq; exact hq) (k_Mo_span hl h32)) rfl (okR_c rfl) hJ0
end J1
