/-! a question: scores, hits, counts -/
theorem uN_17 {p : Int32 → Int32} {a : Int32} : ∀ k v, chE p k v → uN p a (k + 1) v = uN p a k v
  | 0, v, h => by
    have e : v = -1 := h
    rw [e, uN_m1, uN_m1]
  | k + 1, v, h => by
    by_cases hv : v = -1
    · rw [hv, uN_m1, uN_m1]
    · rw [uN_s hv, uN_s hv, uN_17 k _ (h.resolve_left hv)]
theorem cU_out {p : Int32 → Int32} {f : Nat} (hp : ∀ v, okv v → okv (p v)) : ∀ k v vc, okv v → ∀ i, (i < f * 16 ∨ f * 16 + 16 ≤ i) → cU p f k v vc i = vc i
  | 0, v, vc, _, i, _ => rfl
  | k + 1, v, vc, hv, i, hi => by
    unfold cU
    by_cases e : v = -1
    · rw [if_pos e]
    · rw [if_neg e, cU_out hp k _ _ (hp v hv) i hi]
      obtain ⟨b, hb, rfl⟩ := hv.resolve_left e
      rw [nI_clamp (by omega), up_n (by omega)]
theorem cU_at {p : Int32 → Int32} {f : Nat} (hp : ∀ v, okv v → okv (p v)) : ∀ k v vc, okv v → chE p k v → ∀ a, a < 16 → cU p f k v vc (f * 16 + a) = vc (f * 16 + a) + (if uN p (nI a) k v = true then 1 else 0)
  | 0, v, vc, _, _, a, _ => by
    show vc (f * 16 + a) = vc (f * 16 + a) + (if false = true then 1 else 0)
    rw [if_neg (by decide), Int32.add_zero]
  | k + 1, v, vc, hv, hc, a, ha => by
    unfold cU
    by_cases e : v = -1
    · rw [if_pos e, e, uN_m1, if_neg (by decide), Int32.add_zero]
    · rw [if_neg e, cU_at hp k _ _ (hp v hv) (hc.resolve_left e) a ha, uN_s e]
      obtain ⟨b, hb, rfl⟩ := hv.resolve_left e
      rw [nI_clamp (show b < 2 ^ 31 by omega)]
      by_cases eb : b = a
      · subst eb
        rw [up_s, noCyc e k (k + 1) hc, if_neg (by decide), decide_eq_true rfl, Bool.true_or, if_pos rfl, Int32.add_zero]
      · rw [up_n (by omega), decide_eq_false (fun q => eb ((nI_eq (by omega) (by omega)).mp q)), Bool.false_or]
theorem vcF_at {tp np sv nv : Nat → Int32} {r : Nat} (hTp : ∀ j, j < 64 → tp j = np j) (hP : jP np) (hV : ∀ j, j < 128 → sv j = nv j ∧ okv (nv j)) (hr : r < 32) : ∀ F, F ≤ 4 → ∀ vc j, j < 64 → vcF tp sv r vc F j = vc j + (if j / 16 < F ∧ gC np nv j r = true then 1 else 0)
  | 0, _, vc, j, hj => by
    rw [if_neg (fun q => by omega), Int32.add_zero]
    rfl
  | F + 1, hF, vc, j, hj => by
    show cU (pO tp F) F 16 (sv (r * 4 + F)) (vcF tp sv r vc F) j = _
    obtain ⟨ev, ov⟩ := hV (r * 4 + F) (by omega)
    have hq : ∀ j, j < 64 → okv (tp j) := fun j hj => by rw [hTp j hj]; exact hP.1 j hj
    have hp : ∀ v, okv v → okv (pO tp F v) := fun v hv => okv_pO (by omega) hq hv
    have hpn : ∀ v, okv v → okv (pO np F v) := fun v hv => okv_pO (by omega) hP.1 hv
    have hs := pO_same hTp (f := F) (by omega)
    rw [ev]
    by_cases ej : j / 16 = F
    · have hc : chE (pO tp F) 16 (nv (r * 4 + F)) := ch_same hpn hs 16 _ ov (hP.2 F (by omega) _ ov)
      have e1 : j = F * 16 + j % 16 := by omega
      have h := cU_at (f := F) hp 16 (nv (r * 4 + F)) (vcF tp sv r vc F) ov hc (j % 16) (by omega)
      rw [← e1, vcF_at hTp hP hV hr F (by omega) vc j hj, if_neg (fun q => by omega), Int32.add_zero] at h
      rw [h]
      have hg : gC np nv j r = uN (pO tp F) (nI (j % 16)) 16 (nv (r * 4 + F)) := by
        unfold gC
        rw [ej, show 4 * r + F = r * 4 + F by omega, uN_same hpn hs 16 _ ov]
        by_cases e0 : nv (r * 4 + F) = -1
        · rw [decide_eq_false (fun q => q e0), Bool.false_and, e0, uN_m1]
        · rw [decide_eq_true e0, Bool.true_and, uN_17 16 _ (hP.2 F (by omega) _ ov)]
      rw [hg]
      by_cases eu : uN (pO tp F) (nI (j % 16)) 16 (nv (r * 4 + F)) = true
      · rw [if_pos eu, if_pos ⟨by omega, eu⟩]
      · rw [if_neg eu, if_neg (fun q => eu q.2)]
    · rw [cU_out hp 16 _ _ ov j (by omega), vcF_at hTp hP hV hr F (by omega) vc j hj]
      by_cases eg : j / 16 < F ∧ gC np nv j r = true
      · rw [if_pos eg, if_pos ⟨by omega, eg.2⟩]
      · rw [if_neg eg, if_neg (fun q => eg ⟨by omega, q.2⟩)]
theorem cc_cp (np nv : Nat → Int32) (L : List Nat) (k : Nat) : ∀ h, h ≤ L.length → ccS np nv L k h = List.countP (gC np nv k) (L.take h)
  | 0, _ => by rw [List.take_zero]; rfl
  | h + 1, hh => by
    unfold ccS
    have hg : L[h]? = some (L[h]'(by omega)) := List.getElem?_eq_getElem (by omega)
    rw [cc_cp np nv L k h (by omega), List.take_add_one, hg, List.countP_append]
    show _ + (if gC np nv k (L[h]'(by omega)) = true then 1 else 0) = _ + List.countP (gC np nv k) [L[h]'(by omega)]
    rw [List.countP_cons, List.countP_nil, Nat.zero_add]
theorem scT_eq {sw : Nat → Int64} {ny nl nt pf sv nv fy nf nu tp np : Nat → Int32} {n m r : Nat} {tm : gTm} (hW : jW sw ny nl nt n) (hV : ∀ j, j < 128 → sv j = nv j ∧ okv (nv j)) (hTp : ∀ j, j < 64 → tp j = np j) (hP : jP np) (hY : ∀ r, r < 32 → fy r = nf r ∧ (nf r = -1 ∨ ¬ nu r < nf r)) (h32 : n ≤ 32) (hr : r < n) (hok : tmOkM pf m tm) :
    scN pf m sw sv fy nu tp r (cnF ny r) tm = mS pf m nt nv np nf nu (lnF nl) r (cnF ny r) tm := by
  have iw : isW (lfW pf m tm.2.1 10 0 0) (cd (fun i => sgN pf m (tm.2.1 + i))) (lnP pf m tm.2.1) := isW_pad pf m tm.2.1
  have il : ∀ a, a < lnP pf m tm.2.1 → isLt (sgN pf m (tm.2.1 + a)) = true := fun a ha => lnS_lt pf m tm.2.1 10 0 a (Nat.zero_le _) ha
  have hmin := nM_min (r := r) iw il (cnF ny r) (hW.2.2.1 r hr)
  have hperm := (hW.2.2.2 r hr).2
  unfold scN mS
  rcases hok with ⟨e, -⟩ | ⟨e, -⟩ | ⟨e, f, hf, ef⟩ | e
  · rw [e, if_pos rfl, if_neg (show ¬ (0 : Int32) = 3 by decide), if_neg (show ¬ (0 : Int32) = 2 by decide), if_pos rfl]
    have hiff : hasW sw r (cnF ny r) (lfW pf m tm.2.1 10 0 0) = true ↔ nM (fun i => sgN pf m (tm.2.1 + i)) nt (lnP pf m tm.2.1) (lnF nl) r (cnF ny r) = 0 := by
      rw [hasW_iff, hperm.mem_iff]
      constructor
      · intro h
        have h1 := hmin.2.1 _ ⟨_, h, rfl⟩
        rw [(ap_0 iw iw).mpr rfl] at h1
        omega
      · intro h
        rcases hmin.2.2 with h1 | ⟨x, h1, h2⟩
        · omega
        · rw [h] at h2
          obtain ⟨i, hi, ei⟩ := mem_wls.mp h1
          have h3 := (ap_0 iw (mw_isW (hW.2.2.1 r hr i hi))).mp (by rw [ei]; exact h2.symm)
          rw [h3, ei]
          exact h1
    by_cases h : hasW sw r (cnF ny r) (lfW pf m tm.2.1 10 0 0) = true
    · rw [if_pos h, if_pos (hiff.mp h)]
    · rw [if_neg h, if_neg (fun q => h (hiff.mpr q))]
  · rw [e, if_neg (show ¬ (1 : Int32) = 0 by decide), if_pos rfl, if_neg (show ¬ (1 : Int32) = 3 by decide), if_neg (show ¬ (1 : Int32) = 2 by decide), if_neg (show ¬ (1 : Int32) = 0 by decide)]
    have hm3 := nrS_min (lfW pf m tm.2.1 10 0 0) sw r 3 (cnF ny r)
    have hpq : ∀ v, (∃ x, x ∈ wls sw (r * 12) (cnF ny r) ∧ v = apart (lfW pf m tm.2.1 10 0 0) x) ↔ ∃ x, x ∈ wls (mw nl nt) (12 * r) (cnF ny r) ∧ v = apart (lfW pf m tm.2.1 10 0 0) x := fun v => ⟨fun ⟨x, h1, h2⟩ => ⟨x, hperm.mem_iff.mp h1, h2⟩, fun ⟨x, h1, h2⟩ => ⟨x, hperm.mem_iff.mpr h1, h2⟩⟩
    have hm4 := isMin_e hpq hm3
    obtain ⟨N, hN⟩ : ∃ N, N = nrS (lfW pf m tm.2.1 10 0 0) sw r 3 (cnF ny r) := ⟨_, rfl⟩
    obtain ⟨M, hM⟩ : ∃ M, M = nM (fun i => sgN pf m (tm.2.1 + i)) nt (lnP pf m tm.2.1) (lnF nl) r (cnF ny r) := ⟨_, rfl⟩
    rw [← hN] at hm4 ⊢
    rw [← hM] at hmin ⊢
    obtain ⟨a1, a2, a3⟩ := hm4
    obtain ⟨b1, b2, b3⟩ := hmin
    by_cases h : 2 < M
    · rw [if_pos h]
      rcases a3 with a3 | a3
      · omega
      · have := b2 N a3
        omega
    · rw [if_neg h]
      rcases b3 with b3 | b3
      · omega
      · have h1 := a2 M b3
        rcases a3 with a3 | a3
        · omega
        · have h2 := b2 N a3
          rw [show N = M by omega]
  · rw [e, if_neg (show ¬ (2 : Int32) = 0 by decide), if_neg (show ¬ (2 : Int32) = 1 by decide), if_pos rfl, if_neg (show ¬ (2 : Int32) = 3 by decide), if_pos rfl, ef, nI_clamp (by omega)]
    unfold vlS vM
    obtain ⟨ev, ov⟩ := hV (r * 4 + f) (by omega)
    have hpn : ∀ v, okv v → okv (pO np f v) := fun v hv => okv_pO hf hP.1 hv
    have hs := pO_same hTp hf
    rw [ev, show 4 * r + f = r * 4 + f by omega, hs _ ov, uN_same hpn hs 16 _ (hpn _ ov)]
    by_cases h1 : nv (r * 4 + f) = tm.2.2.2
    · rw [if_pos h1, if_pos h1]
    · rw [if_neg h1, if_neg h1]
      by_cases h0 : nv (r * 4 + f) = -1
      · rw [h0, show pO np f (-1) = -1 from if_pos rfl, uN_m1, if_neg (by decide), if_neg (fun q => q.1 rfl)]
      · rw [uN_s h0, decide_eq_false h1, Bool.false_or]
        by_cases hu : uN (pO np f) tm.2.2.2 16 (pO np f (nv (r * 4 + f))) = true
        · rw [if_pos hu, if_pos ⟨h0, hu⟩]
        · rw [if_neg hu, if_neg (fun q => hu q.2)]
  · rw [e, if_neg (show ¬ (3 : Int32) = 0 by decide), if_neg (show ¬ (3 : Int32) = 1 by decide), if_neg (show ¬ (3 : Int32) = 2 by decide), if_pos rfl]
    obtain ⟨y1, y2⟩ := hY r (by omega)
    rw [y1]
    have hiff : yW (nf r) (nu r) tm.2.2.1 tm.2.2.2 = true ↔ yM (nf r) (nu r) tm.2.2.1 tm.2.2.2 = true := by
      unfold yW yM
      rw [Bool.and_eq_true, Bool.and_eq_true, Bool.and_eq_true, Bool.and_eq_true, decide_eq_true_eq, decide_eq_true_eq, decide_eq_true_eq, decide_eq_true_eq, decide_eq_true_eq]
      generalize nf r = F at *
      generalize nu r = U at *
      generalize tm.2.2.1 = A at *
      generalize tm.2.2.2 = B at *
      have hlt : ∀ x y : Int32, x < y ↔ x.toInt < y.toInt := fun x y => Int32.lt_iff_toInt_lt
      by_cases hF : F = -1
      · exact ⟨fun q => absurd hF q.1, fun q => absurd hF q.1⟩
      · have y3 := y2.resolve_left hF
        rw [hlt] at y3
        constructor
        · rintro ⟨-, q⟩
          refine ⟨hF, ?_, ?_, ?_⟩ <;> (rw [hlt]; intro z; apply q; split <;> split <;> (rename_i u v; rw [hlt] at *; omega))
        · rintro ⟨-, q1, q2, q3⟩
          refine ⟨hF, fun z => ?_⟩
          rw [hlt] at q1 q2 q3
          revert z
          split <;> split <;> (intro z; rename_i u v; rw [hlt] at *; omega)
    by_cases h : yW (nf r) (nu r) tm.2.2.1 tm.2.2.2 = true
    · rw [if_pos h, if_pos (hiff.mp h)]
    · rw [if_neg h, if_neg (fun q => h (hiff.mpr q))]
theorem as_rep {S : Nat → Nat → Nat} {T : Nat} {sn : Nat → Bool} {tp sv np nv : Nat → Int32} {hr hp vc0 : Nat → Int32} {n : Nat} (hS : ∀ r t, S r t ≤ 10) (hT : T ≤ 8) (h0 : ∀ j, j < 64 → vc0 j = 0) (hvc : ∀ r, r < n → ∀ vc j, j < 64 → vcF tp sv r vc 4 j = vc j + (if gC np nv j r = true then 1 else 0)) {F : Nat → Option Nat} (hF : F = toF S T sn) : ∀ r, r ≤ n → ∀ L, L = enA F r 80 81 →
    rep (aSt S T sn tp sv (hr, hp, 0, vc0) r).1 (aSt S T sn tp sv (hr, hp, 0, vc0) r).2.1 F L ∧ (aSt S T sn tp sv (hr, hp, 0, vc0) r).2.2.1 = L.length ∧ ∀ j, j < 64 → (aSt S T sn tp sv (hr, hp, 0, vc0) r).2.2.2 j = nI (List.countP (gC np nv j) L)
  | 0, _, L, hL => by
    rw [enA_00] at hL
    rw [hL]
    exact ⟨(fun i o q => by cases q), rfl, fun j hj => h0 j hj⟩
  | r + 1, hr1, L, hL => by
    obtain ⟨L0, e0⟩ : ∃ L0, L0 = enA F r 80 81 := ⟨_, rfl⟩
    obtain ⟨ih1, ih2, ih3⟩ := as_rep (n := n) (hr := hr) (hp := hp) hS hT h0 hvc hF r (by omega) L0 e0
    unfold aSt
    by_cases hc : sn r = true ∧ hitB (S r) T = true
    · rw [if_pos hc]
      have hFr : F r = some (sumT (S r) T) := by rw [hF]; exact if_pos hc
      have hle := sumT_le (hS r) T
      obtain ⟨g1, g2, g3⟩ := put_step e0 hL hFr (B := 80) (K := 81) (by omega) (by omega) (by omega) (by omega) ih1
      clear e0 hL
      dsimp only
      rw [ih2]
      refine ⟨g1, g2.symm, fun j hj => ?_⟩
      rw [hvc r (by omega) _ j hj, ih3 j hj, g3]
      by_cases e : gC np nv j r = true
      · rw [if_pos e, if_pos e, nI_1]
      · rw [if_neg e, if_neg e, Int32.add_zero, Nat.add_zero]
    · rw [if_neg hc]
      have hFr : F r = none := by rw [hF]; exact if_neg hc
      rw [enA_no 81 (by omega) (fun s q => by rw [hFr] at q; cases q), ← e0] at hL
      rw [hL]
      exact ⟨ih1, ih2, ih3⟩
section J7
variable {l : Launch} {c : stF} {d : stM}
set_option maxHeartbeats 1000000 in
theorem jv_ask (hl : l.stackTraces = false) (hJ : Jn c d) (x : Int32) : jL l Jn 0 M_Fs_ask M_Mo_ask [.int x] [x_ns] c d := by
  obtain ⟨⟨pf, pn⟩, ⟨sw, wc, sv, fy, ly, ro, ss, aw, dw⟩, tp, ru, qu, ⟨hr, hp, hz, ts, vc, tt⟩, al⟩ := c
  obtain ⟨mt, ⟨ma, mn⟩, ⟨nr, ny, nl, nt, nv, np, nf, nu, nh⟩, mq, mo, mx⟩ := d
  have hJ0 := hJ
  obtain ⟨m, n, ⟨h60, h32⟩, ⟨e1, e2, e3, hsg⟩, ⟨e4, e5⟩, e6, hW, e78, hV, ⟨hTp, hP⟩, ⟨hY, e9⟩, hN, hTo⟩ := hJ
  dsimp only at e1 e2 e3 e4 e5 e6 e9 hW hV hTp hP hY hN hTo hsg e78
  subst e1 e2 e3 e4 e5 e6 e9
  have hqT : ∀ j, j < 64 → okv (tp j) := fun j hj => by rw [hTp j hj]; exact hP.1 j hj
  have hvS : ∀ j, j < 128 → okv (sv j) := fun j hj => by rw [(hV j hj).1]; exact (hV j hj).2
  have hvN : ∀ j, j < 128 → okv (nv j) := fun j hj => (hV j hj).2
  obtain ⟨A, hA⟩ : ∃ A, A = rdS pf m 8 (skP pf m 0) [] := ⟨_, rfl⟩
  by_cases hc : ¬ x < 0 ∧ x < 8
  · have hcM := rg8.mp hc
    obtain ⟨k, hk, rfl⟩ := ab_ofI (n := 8) hc.1 hc.2 (by omega)
    have ecl : (nI k).toNatClampNeg = k := nI_clamp (by omega)
    cases hr9 : A.1 with
    | some a =>
      refine ⟨ab_x 4, ab_r 4, fun o c' => (∃ qu', c' = ((pf, nI m), (sw, wc, sv, fy, ly, ro, nI n, aw, dw), tp, ru, qu', (hr, hp, hz, ts, vc, tt), al)) ∧ o = .inl (some (.int (-1 - nI a))), by decide, by decide, fun z => ab_K_mono (fun q hq => ?_) (k_Fs_ask (cnt := cnF wc) hl h32 h60 (jW_c hW) hqT hvS), fun o c' hoc => ?_⟩
      · rw [if_pos hc, ← hA, hr9] at hq
        obtain ⟨qu', e⟩ := hq
        rw [e]
        exact ⟨((pf, nI m), (sw, wc, sv, fy, ly, ro, nI n, aw, dw), tp, ru, qu', (hr, hp, hz, ts, vc, tt), al), rfl, ⟨qu', rfl⟩, rfl⟩
      · obtain ⟨⟨qu', rfl⟩, rfl⟩ := hoc
        refine ⟨Or.inl ⟨_, rfl⟩, fun z => ab_K_mono (fun q hq => ?_) (k_Mo_ask (cnt := cnF wc) (ln := lnF nl) hl h32 h60 hsg (jW_c hW) (jW_l hW) hP.1 hP.2 hvN hA)⟩
        rw [if_pos hcM, hr9] at hq
        obtain ⟨mq', e⟩ := hq
        exact ⟨_, (0, (pf, nI m), (nI n, wc, nl, nt, nv, np, nf, ly, nh), mq', mo, mx), e, ⟨_, rfl⟩, okR_v rfl, hJ0⟩
    | none =>
      obtain ⟨S, hS⟩ : ∃ S, S = scL pf m sw sv fy ly tp (cnF wc) A.2 := ⟨_, rfl⟩
      refine ⟨ab_x 4, ab_r 4, fun o c' => ∃ (ru' : gt_ru) (qu' : gt_qu) (ts' vc0 : Nat → Int32) (g : gA), (∀ j, j < 64 → vc0 j = 0) ∧ g = aSt S A.2.length (fun r => seen (ro r) (nI k)) tp sv (hr, hp, 0, vc0) n ∧ (∀ r, r < n → seen (ro r) (nI k) = true → hitB (S r) A.2.length = true → ∀ t, t < A.2.length → ts' (r * 8 + t) = nI (S r t)) ∧ o = .inl (some (.int (nI g.2.2.1))) ∧ c' = ((pf, 0), (sw, wc, sv, fy, ly, ro, nI n, aw, dw), tp, ru', qu', (g.1, g.2.1, nI g.2.2.1, ts', g.2.2.2, nI A.2.length), al), by decide, by decide, fun z => ab_K_mono (fun q hq => ?_) (k_Fs_ask (cnt := cnF wc) hl h32 h60 (jW_c hW) hqT hvS), fun o c' hoc => ?_⟩
      · rw [if_pos hc, ← hA, hr9] at hq
        obtain ⟨ru', qu', ts', vc0, g, q1, q2, q3, e⟩ := hq
        rw [← hS] at q2 q3
        rw [e]
        exact ⟨((pf, 0), (sw, wc, sv, fy, ly, ro, nI n, aw, dw), tp, ru', qu', (g.1, g.2.1, nI g.2.2.1, ts', g.2.2.2, nI A.2.length), al), rfl, ru', qu', ts', vc0, g, q1, q2, q3, rfl, rfl⟩
      · obtain ⟨ru', qu', ts', vc0, g, q1, q2, q3, rfl, rfl⟩ := hoc
        refine ⟨Or.inl ⟨_, rfl⟩, fun z => ab_K_mono (fun q hq => ?_) (k_Mo_ask (cnt := cnF wc) (ln := lnF nl) hl h32 h60 hsg (jW_c hW) (jW_l hW) hP.1 hP.2 hvN hA)⟩
        rw [if_pos hcM, hr9, ecl] at hq
        obtain ⟨mq', mo', mx', ⟨n1, n2, n3, n4⟩, e⟩ := hq
        have hlen : A.2.length ≤ 8 := by
          have := rdS_len (pf := pf) (n := m) 8 (skP pf m 0) []
          rw [← hA] at this
          simpa using this
        have hokM : ∀ tm ∈ A.2, tmOkM pf m tm := by rw [hA]; exact rdS_okM 8 _ [] (fun tm ht => by cases ht)
        have hSS : ∀ r, r < n → ∀ t, S r t = msL pf m nt nv np nf ly (lnF nl) (cnF wc) A.2 r t := fun r hr t => by
          rw [hS]
          unfold scL msL
          cases ht : A.2[t]? with
          | none => rfl
          | some tm => exact scT_eq hW hV hTp hP hY h32 hr (hokM tm (List.mem_of_getElem? ht))
        have hS10 : ∀ r t, S r t ≤ 10 := fun r t => by rw [hS]; exact scL_le ..
        have hsn : ∀ r, r < n → (decide (nh (8 * r + k) = 0)) = seen (ro r) (nI k) := fun r hr => by
          rw [hN r (by omega) k hk]
          cases seen (ro r) (nI k) <;> decide
        obtain ⟨F, hF⟩ : ∃ F, F = toF S A.2.length (fun r => seen (ro r) (nI k)) := ⟨_, rfl⟩
        obtain ⟨F', hF'⟩ : ∃ F', F' = toF (msL pf m nt nv np nf ly (lnF nl) (cnF wc) A.2) A.2.length (fun r => decide (nh (8 * r + k) = 0)) := ⟨_, rfl⟩
        have hFo : ∀ o, o < n → F' o = F o := fun o ho => by
          have hfun2 : S o = msL pf m nt nv np nf ly (lnF nl) (cnF wc) A.2 o := funext (hSS o ho)
          rw [hF, hF']
          unfold toF
          rw [← hfun2]
          simp only [hsn o ho]
        have hFe : enA F' n 80 81 = enA F n 80 81 := enA_c 81 (by omega) (fun o ho b _ _ => by rw [hFo o ho])
        obtain ⟨Lh, hLh⟩ : ∃ Lh, Lh = enA F n 80 81 := ⟨_, rfl⟩
        rw [← hF', hFe, ← hLh] at n2 n3 n4
        obtain ⟨r1, r2, r3⟩ := as_rep (S := S) (T := A.2.length) (sn := fun r => seen (ro r) (nI k)) (tp := tp) (sv := sv) (np := np) (nv := nv) (hr := hr) (hp := hp) (vc0 := vc0) (n := n) hS10 hlen q1 (fun r hr vc j hj => by
          rw [vcF_at hTp hP hV (by omega) 4 (by omega) vc j hj]
          by_cases eg : gC np nv j r = true
          · rw [if_pos eg, if_pos ⟨by omega, eg⟩]
          · rw [if_neg eg, if_neg (fun q => eg q.2)]) hF n (Nat.le_refl _) Lh hLh
        rw [← q2] at r1 r2 r3
        have hmem : ∀ i o, Lh[i]? = some o → o < n ∧ ∃ s, F o = some s := fun i o hg => by
          obtain ⟨m1, s, m2, -, -⟩ := enA_mem (B := 80) 81 (by omega) (by rw [← hLh]; exact List.mem_of_getElem? hg)
          exact ⟨m1, s, m2⟩
        clear hLh hFe
        have hk32 : g.2.2.1 ≤ 32 := by
          rw [q2]
          have := aSt_k (S := S) (T := A.2.length) (sn := fun r => seen (ro r) (nI k)) (tp := tp) (sv := sv) (g0 := (hr, hp, 0, vc0)) rfl n
          omega
        refine ⟨_, (0, (pf, 0), (nI n, wc, nl, nt, nv, np, nf, ly, nh), mq', mo', mx'), e, ⟨_, rfl⟩, ?_, ?_⟩
        · rw [n2, r2]
          exact okR_v rfl
        · refine ⟨0, n, ⟨by omega, h32⟩, ⟨rfl, rfl, rfl, fun j hj => by omega⟩, ⟨rfl, rfl⟩, rfl, hW, e78, hV, ⟨hTp, hP⟩, ⟨hY, rfl⟩, hN, g.2.2.1, A.2.length, hk32, hlen, rfl, by rw [r2]; exact n2, rfl, n1, fun i hi => ?_, fun j hj => ?_⟩
          · have hg : Lh[i]? = some (Lh[i]'(by rw [← r2]; exact hi)) := List.getElem?_eq_getElem _
            obtain ⟨o, ho⟩ : ∃ o, o = Lh[i]'(by rw [← r2]; exact hi) := ⟨_, rfl⟩
            rw [← ho] at hg
            obtain ⟨m1, s, m2⟩ := hmem i o hg
            obtain ⟨a1, a2⟩ := r1 i o hg
            obtain ⟨b1, b2, b3⟩ := n3 i o hg
            refine ⟨o, by omega, a1, b1, ?_, fun t ht => ?_⟩
            · show g.2.1 i = mo'.2.2.2.1 i
              rw [a2, b2, hFo o m1]
            · have hcond : seen (ro o) (nI k) = true ∧ hitB (S o) A.2.length = true := by
                rw [hF] at m2
                unfold toF at m2
                by_cases q : seen (ro o) (nI k) = true ∧ hitB (S o) A.2.length = true
                · exact q
                · rw [if_neg q] at m2; cases m2
              show ts' (o * 8 + t) = mo'.2.2.2.2.1 (8 * i + t)
              rw [q3 o m1 hcond.1 hcond.2 t ht, b3 t ht, hSS o m1 t]
          · show g.2.2.2 j = mo'.2.2.2.2.2.2.2 j
            rw [r3 j hj, n4 j hj, cc_cp np nv _ j _ (Nat.le_refl _), List.take_length]
  · have hcM : ¬ wi x 0 7 = true := fun q => hc (rg8.mpr q)
    refine jL_det (.inr x_ns) _ (some (.int 0)) (1, (pf, nI m), (nI n, wc, nl, nt, nv, np, nf, ly, nh), mq, mo, mx) (by decide) (by decide) (fun z => ab_K_mono (fun q hq => by rw [if_neg hc] at hq; exact hq) (k_Fs_ask (cnt := cnF wc) hl h32 h60 (jW_c hW) hqT hvS)) (fun z => ab_K_mono (fun q hq => by rw [if_neg hcM] at hq; exact hq) (k_Mo_ask (cnt := cnF wc) (ln := lnF nl) hl h32 h60 hsg (jW_c hW) (jW_l hW) hP.1 hP.2 hvN hA)) ⟨_, rfl⟩ (okR_1 rfl) hJ0
end J7
