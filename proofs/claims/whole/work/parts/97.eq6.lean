/-! records by points; like -/
theorem insP_out (x y : Int32) : ∀ (k : Nat) (hr hp : Nat → Int32) (j : Nat), k < j → (insP x y k hr hp).1 j = hr j ∧ (insP x y k hr hp).2 j = hp j
  | 0, hr, hp, j, h => ⟨up_n (by omega), up_n (by omega)⟩
  | k + 1, hr, hp, j, h => by
    unfold insP
    split
    · have ih := insP_out x y k (upd hr (k + 1) (hr k)) (upd hp (k + 1) (hp k)) j (by omega)
      rw [up_n (by omega), up_n (by omega)] at ih
      exact ih
    · exact ⟨up_n (by omega), up_n (by omega)⟩
def rep (hr hp : Nat → Int32) (F : Nat → Option Nat) (A : List Nat) : Prop := ∀ i o, A[i]? = some o → hr i = nI o ∧ hp i = oI (F o)
theorem rep_c {hr hp hr' hp' : Nat → Int32} {F : Nat → Option Nat} {A : List Nat} (h : ∀ i, i < A.length → hr' i = hr i ∧ hp' i = hp i) (hA : rep hr hp F A) : rep hr' hp' F A := by
  intro i o hi
  obtain ⟨h1, h2⟩ := h i (List.getElem?_eq_some_iff.mp hi).1
  rw [h1, h2]
  exact hA i o hi
theorem rep_s {hr hp : Nat → Int32} {F : Nat → Option Nat} {A : List Nat} {x : Nat} (hA : rep hr hp F A) (h1 : hr A.length = nI x) (h2 : hp A.length = oI (F x)) : rep hr hp F (A ++ [x]) := by
  intro i o hi
  by_cases e : i < A.length
  · rw [List.getElem?_append_left e] at hi
    exact hA i o hi
  · have hl := (List.getElem?_eq_some_iff.mp hi).1
    rw [List.length_append, List.length_singleton] at hl
    have ei : i = A.length := by omega
    subst ei
    rw [List.getElem?_append_right (Nat.le_refl _), Nat.sub_self] at hi
    cases hi
    exact ⟨h1, h2⟩
theorem insP_rep {F : Nat → Option Nat} {x s : Nat} (hx : F x = some s) (hs : s < 2 ^ 31) {P : List Nat} (hP : ∀ o ∈ P, ∃ s', F o = some s' ∧ s ≤ s' ∧ s' < 2 ^ 31) : ∀ (R : List Nat) (hr hp : Nat → Int32), rep hr hp F (P ++ R.reverse) → (∀ o ∈ R, ∃ s', F o = some s' ∧ s' < s) → rep (insP (nI x) (nI s) (P.length + R.length) hr hp).1 (insP (nI x) (nI s) (P.length + R.length) hr hp).2 F (P ++ x :: R.reverse)
  | [], hr, hp, hrep, _ => by
    rw [List.reverse_nil, List.append_nil] at hrep
    show rep (insP (nI x) (nI s) P.length hr hp).1 (insP (nI x) (nI s) P.length hr hp).2 F (P ++ [x])
    cases hk : P.length with
    | zero =>
      have e : P = [] := List.length_eq_zero_iff.mp hk
      subst e
      refine rep_s (fun i o h => by cases h) ?_ ?_
      · show upd hr 0 (nI x) 0 = _
        exact up_s
      · show upd hp 0 (nI s) 0 = _
        rw [up_s, hx]
        rfl
    | succ p =>
      have hp2 : P[p]? = some (P[p]'(by omega)) := List.getElem?_eq_getElem (by omega)
      obtain ⟨s', q1, q2, q3⟩ := hP _ (List.getElem_mem (by omega : p < P.length))
      have h9 := (hrep p _ hp2).2
      rw [q1] at h9
      have hn : ¬ hp p < nI s := by rw [h9]; exact nI_nlt q2 q3
      unfold insP
      rw [if_neg hn]
      refine rep_s (rep_c (fun i hi => ⟨up_n (by omega), up_n (by omega)⟩) hrep) ?_ ?_
      · rw [hk]; exact up_s
      · rw [hk]
        show upd hp (p + 1) (nI s) (p + 1) = _
        rw [up_s, hx]
        rfl
  | z :: R, hr, hp, hrep, hQ => by
    have hK : (P ++ R.reverse).length = P.length + R.length := by rw [List.length_append, List.length_reverse]
    rw [List.reverse_cons, ← List.append_assoc] at hrep
    have hz := hrep (P ++ R.reverse).length z (by rw [List.getElem?_append_right (Nat.le_refl _), Nat.sub_self]; rfl)
    rw [hK] at hz
    obtain ⟨s', q1, q2⟩ := hQ z List.mem_cons_self
    have hlt : hp (P.length + R.length) < nI s := by
      rw [hz.2, q1]
      exact nI_lt q2 hs
    have hrep0 : rep hr hp F (P ++ R.reverse) := fun i o hi => hrep i o (by
      rw [List.getElem?_append_left (List.getElem?_eq_some_iff.mp hi).1]
      exact hi)
    show rep (insP (nI x) (nI s) (P.length + R.length + 1) hr hp).1 (insP (nI x) (nI s) (P.length + R.length + 1) hr hp).2 F _
    unfold insP
    rw [if_pos hlt]
    have ih := insP_rep hx hs hP R (upd hr (P.length + R.length + 1) (hr (P.length + R.length))) (upd hp (P.length + R.length + 1) (hp (P.length + R.length))) (rep_c (fun i hi => by rw [hK] at hi; exact ⟨up_n (by omega), up_n (by omega)⟩) hrep0) (fun o ho => hQ o (List.mem_cons_of_mem _ ho))
    have ho := insP_out (nI x) (nI s) (P.length + R.length) (upd hr (P.length + R.length + 1) (hr (P.length + R.length))) (upd hp (P.length + R.length + 1) (hp (P.length + R.length))) (P.length + R.length + 1) (by omega)
    rw [up_s, up_s] at ho
    have ho := And.intro (ho.1.trans hz.1) (ho.2.trans hz.2)
    have hl : (P ++ x :: R.reverse).length = P.length + R.length + 1 := by rw [List.length_append, List.length_cons, List.length_reverse]; omega
    rw [List.reverse_cons, show P ++ x :: (R.reverse ++ [z]) = (P ++ x :: R.reverse) ++ [z] by rw [List.append_assoc]; rfl]
    exact rep_s ih (by rw [hl]; exact ho.1) (by rw [hl]; exact ho.2)
theorem en_mem {F : Nat → Option Nat} {b o : Nat} : ∀ n, o ∈ en F b n → o < n ∧ F o = some b
  | 0, h => by cases h
  | n + 1, h => by
    unfold en at h
    rcases List.mem_append.mp h with h | h
    · have := en_mem n h
      exact ⟨by omega, this.2⟩
    · split at h
      · rename_i hf
        rw [List.mem_singleton.mp h]
        exact ⟨by omega, hf⟩
      · cases h
theorem enA_mem {F : Nat → Option Nat} {n B o : Nat} : ∀ K, K ≤ B + 1 → o ∈ enA F n B K → o < n ∧ ∃ s, F o = some s ∧ B < s + K ∧ s ≤ B
  | 0, _, h => by cases h
  | K + 1, hK, h => by
    unfold enA at h
    rcases List.mem_append.mp h with h | h
    · obtain ⟨h1, s, h2, h3, h4⟩ := enA_mem K (by omega) h
      exact ⟨h1, s, h2, by omega, h4⟩
    · obtain ⟨h1, h2⟩ := en_mem n h
      exact ⟨h1, _, h2, by omega, by omega⟩
theorem en_no {F : Nat → Option Nat} {r b : Nat} (h : ¬ F r = some b) : en F b (r + 1) = en F b r := by
  show en F b r ++ (if F r = some b then [r] else []) = _
  rw [if_neg h, List.append_nil]
theorem enA_no {F : Nat → Option Nat} {r B : Nat} : ∀ K, K ≤ B + 1 → (∀ s, F r = some s → ¬ (B < s + K ∧ s ≤ B)) → enA F (r + 1) B K = enA F r B K
  | 0, _, _ => rfl
  | K + 1, hK, h => by
    unfold enA
    rw [enA_no K (by omega) (fun s hs q => h s hs ⟨by omega, q.2⟩), en_no (fun q => h _ q ⟨by omega, by omega⟩)]
theorem enA_yes {F : Nat → Option Nat} {r B s : Nat} (hs : F r = some s) (hB : s ≤ B) : ∀ K, K ≤ B + 1 → B < s + K → ∃ P Q : List Nat, enA F r B K = P ++ Q ∧ enA F (r + 1) B K = P ++ r :: Q ∧ (∀ o ∈ P, ∃ s', F o = some s' ∧ s ≤ s' ∧ s' ≤ B) ∧ ∀ o ∈ Q, ∃ s', F o = some s' ∧ s' < s
  | 0, _, h => by omega
  | K + 1, hK, h => by
    by_cases e : s = B - K
    · have h1 : enA F (r + 1) B K = enA F r B K := enA_no K (by omega) (fun s' q z => by rw [hs] at q; cases q; omega)
      have h2 : en F (B - K) (r + 1) = en F (B - K) r ++ [r] := by
        show en F (B - K) r ++ (if F r = some (B - K) then [r] else []) = _
        rw [if_pos (by rw [hs, e])]
      refine ⟨enA F r B K ++ en F (B - K) r, [], ?_, ?_, fun o ho => ?_, fun o ho => by cases ho⟩
      · rw [List.append_nil]; rfl
      · show enA F (r + 1) B K ++ en F (B - K) (r + 1) = _
        rw [h1, h2, List.append_assoc]
      · rcases List.mem_append.mp ho with ho | ho
        · obtain ⟨-, s', q1, q2, q3⟩ := enA_mem K (by omega) ho
          exact ⟨s', q1, by omega, q3⟩
        · exact ⟨_, (en_mem r ho).2, by omega, by omega⟩
    · obtain ⟨P, Q, p1, p2, p3, p4⟩ := enA_yes hs hB K (by omega) (by omega)
      refine ⟨P, Q ++ en F (B - K) r, ?_, ?_, p3, fun o ho => ?_⟩
      · show enA F r B K ++ en F (B - K) r = _
        rw [p1, List.append_assoc]
      · show enA F (r + 1) B K ++ en F (B - K) (r + 1) = _
        rw [p2, en_no (by rw [hs]; intro q; cases q; omega), List.append_assoc]
        rfl
      · rcases List.mem_append.mp ho with ho | ho
        · exact p4 o ho
        · exact ⟨_, (en_mem r ho).2, by omega⟩
theorem en_c {F G : Nat → Option Nat} {b : Nat} : ∀ n, (∀ o, o < n → (F o = some b ↔ G o = some b)) → en F b n = en G b n
  | 0, _ => rfl
  | n + 1, h => by
    unfold en
    rw [en_c n (fun o ho => h o (by omega))]
    by_cases e : F n = some b
    · rw [if_pos e, if_pos ((h n (by omega)).mp e)]
    · rw [if_neg e, if_neg (fun q => e ((h n (by omega)).mpr q))]
theorem enA_c {F G : Nat → Option Nat} {n B : Nat} : ∀ K, K ≤ B + 1 → (∀ o, o < n → ∀ b, B < b + K → b ≤ B → (F o = some b ↔ G o = some b)) → enA F n B K = enA G n B K
  | 0, _, _ => rfl
  | K + 1, hK, h => by
    unfold enA
    rw [enA_c K (by omega) (fun o ho b q1 q2 => h o ho b (by omega) q2), en_c n (fun o ho => h o ho _ (by omega) (by omega))]
theorem put_step {F : Nat → Option Nat} {r B K s : Nat} {hr hp : Nat → Int32} {L0 L1 : List Nat} (e0 : L0 = enA F r B K) (e1 : L1 = enA F (r + 1) B K) (hs : F r = some s) (hB : s ≤ B) (hK : K ≤ B + 1) (hK2 : B < s + K) (hB31 : B < 2 ^ 31) (hrep : rep hr hp F L0) : rep (insP (nI r) (nI s) L0.length hr hp).1 (insP (nI r) (nI s) L0.length hr hp).2 F L1 ∧ L1.length = L0.length + 1 ∧ ∀ p : Nat → Bool, List.countP p L1 = List.countP p L0 + (if p r = true then 1 else 0) := by
  obtain ⟨P, Q, p1, p2, p3, p4⟩ := enA_yes hs hB K hK hK2
  rw [← e0] at p1
  rw [← e1] at p2
  clear e0 e1
  subst p1 p2
  have h := insP_rep hs (by omega) (P := P) (fun o ho => by obtain ⟨s', a, b, c⟩ := p3 o ho; exact ⟨s', a, b, by omega⟩) Q.reverse hr hp (by rw [List.reverse_reverse]; exact hrep) (fun o ho => p4 o (List.mem_reverse.mp ho))
  rw [List.reverse_reverse, List.length_reverse] at h
  refine ⟨by rw [List.length_append]; exact h, by rw [List.length_append, List.length_append, List.length_cons]; omega, fun p => ?_⟩
  rw [List.countP_append, List.countP_append, List.countP_cons]
  omega
theorem enA_00 (F : Nat → Option Nat) (B : Nat) : ∀ K, enA F 0 B K = []
  | 0 => rfl
  | K + 1 => by
    unfold enA
    rw [enA_00 F B K]
    rfl
theorem lk_rep {F : Nat → Nat} {G : Nat → Option Nat} (hG : G = fun o => if F o = 0 then none else some (F o)) {g0 : (Nat → Int32) × (Nat → Int32) × Nat} (h0 : g0.2.2 = 0) : ∀ n, (∀ o, o < n → F o ≤ 16) → ∀ L, L = enA G n 16 16 → rep (lkS F g0 n).1 (lkS F g0 n).2.1 G L ∧ (lkS F g0 n).2.2 = L.length
  | 0, _, L, hL => by
    rw [enA_00] at hL
    rw [hL]
    exact ⟨(fun i o q => by cases q), h0⟩
  | n + 1, hF, L, hL => by
    obtain ⟨L0, e0⟩ : ∃ L0, L0 = enA G n 16 16 := ⟨_, rfl⟩
    obtain ⟨ih1, ih2⟩ := lk_rep hG h0 n (fun o ho => hF o (by omega)) L0 e0
    have hn : G n = if F n = 0 then none else some (F n) := by rw [hG]
    unfold lkS
    by_cases e : F n = 0
    · rw [if_pos e] at hn ⊢
      rw [enA_no 16 (by omega) (fun s q => by rw [hn] at q; cases q), ← e0] at hL
      rw [hL]
      exact ⟨ih1, ih2⟩
    · rw [if_neg e] at hn ⊢
      have h := put_step (r := n) (B := 16) (K := 16) (s := F n) e0 hL hn (hF n (by omega)) (by omega) (by omega) (by omega) ih1
      dsimp only
      rw [ih2]
      exact ⟨h.1, h.2.1.symm⟩
theorem fw_cp (sw : Nat → Int64) (r o co : Nat) : ∀ c, fwS sw r o co c = List.countP (fun x => decide (x ∈ wls sw (o * 12) co)) (wls sw (r * 12) c)
  | 0 => rfl
  | c + 1 => by
    unfold fwS
    rw [wls_s, cP_1, fw_cp sw r o co c]
    by_cases e : sw (r * 12 + c) ∈ wls sw (o * 12) co
    · rw [if_pos (hasW_iff.mpr e), if_pos (decide_eq_true e)]
    · rw [if_neg (fun q => e (hasW_iff.mp q)), if_neg (by rw [decide_eq_false e]; decide)]
theorem sh1_cp {nl nt : Nat → Int32} {v b : Nat} (hv : wdOk nl nt v) : ∀ c, (∀ i, i < c → wdOk nl nt (12 * b + i)) → sh1 nt (lnF nl) v b c = List.countP (fun x => decide (mw nl nt v = x)) (wls (mw nl nt) (12 * b) c)
  | 0, _ => rfl
  | c + 1, h => by
    unfold sh1
    rw [wls_s, cP_1, sh1_cp hv c (fun i hi => h i (by omega))]
    have hi := isS_iff hv (h c (by omega))
    by_cases e : mw nl nt v = mw nl nt (12 * b + c)
    · rw [if_pos (hi.mpr e), if_pos (decide_eq_true e)]
    · rw [if_neg (fun q => e (hi.mp q)), if_neg (by rw [decide_eq_false e]; decide)]
theorem cp_one {f : Nat → Int64} {b : Nat} {y : Int64} : ∀ c, (∀ i j, i < j → j < c → f (b + i) < f (b + j)) → List.countP (fun x => decide (y = x)) (wls f b c) = if y ∈ wls f b c then 1 else 0
  | 0, _ => by
    rw [if_neg (fun q => by cases q)]
    rfl
  | c + 1, hs => by
    rw [wls_s, cP_1, cp_one c (fun i j a q => hs i j a (by omega))]
    by_cases e : y = f (b + c)
    · have hn : ¬ y ∈ wls f b c := fun q => by
        obtain ⟨i, hi, ei⟩ := mem_wls.mp q
        have := hs i c hi (by omega)
        rw [ei, e] at this
        exact absurd this i64_irr
      rw [if_neg hn, if_pos (decide_eq_true e), if_pos (List.mem_append.mpr (Or.inr (List.mem_singleton.mpr e)))]
    · rw [if_neg (c := decide (y = f (b + c)) = true) (by rw [decide_eq_false e]; decide)]
      by_cases hm : y ∈ wls f b c
      · rw [if_pos hm, if_pos (List.mem_append.mpr (Or.inl hm))]
      · rw [if_neg hm, if_neg (fun q => by
          rcases List.mem_append.mp q with q | q
          · exact hm q
          · exact e (List.mem_singleton.mp q))]
theorem sh2_cp {sw : Nat → Int64} {ny nl nt : Nat → Int32} {n a b : Nat} (hW : jW sw ny nl nt n) (hb : b < n) : ∀ c, (∀ i, i < c → wdOk nl nt (12 * a + i)) → sh2 nt (lnF nl) a b (cnF ny b) c = List.countP (fun x => decide (x ∈ wls sw (b * 12) (cnF ny b))) (wls (mw nl nt) (12 * a) c)
  | 0, _ => rfl
  | c + 1, h => by
    unfold sh2
    obtain ⟨s1, s2⟩ := hW.2.2.2 b hb
    rw [wls_s, cP_1, sh2_cp hW hb c (fun i hi => h i (by omega)), sh1_cp (h c (by omega)) (cnF ny b) (hW.2.2.1 b hb), ← s2.countP_eq, cp_one (cnF ny b) s1]
    by_cases e : mw nl nt (12 * a + c) ∈ wls sw (b * 12) (cnF ny b)
    · rw [if_pos e, if_pos (decide_eq_true e)]
    · rw [if_neg e, if_neg (by rw [decide_eq_false e]; decide)]
theorem fw_eq {sw : Nat → Int64} {ny nl nt : Nat → Int32} {n a b : Nat} (hW : jW sw ny nl nt n) (ha : a < n) (hb : b < n) : fwS sw a b (cnF ny b) (cnF ny a) = sh2 nt (lnF nl) a b (cnF ny b) (cnF ny a) := by
  rw [fw_cp, sh2_cp hW hb (cnF ny a) (hW.2.2.1 a ha)]
  exact (hW.2.2.2 a ha).2.countP_eq _
theorem ff_eq {sv nv : Nat → Int32} (hV : ∀ j, j < 128 → sv j = nv j ∧ okv (nv j)) {r o : Nat} (hr : r < 32) (ho : o < 32) : ∀ f, f ≤ 4 → ffS sv r o f = ffS nv r o f
  | 0, _ => rfl
  | f + 1, hf => by
    unfold ffS
    rw [ff_eq hV hr ho f (by omega), (hV (r * 4 + f) (by omega)).1, (hV (o * 4 + f) (by omega)).1]
section J6
variable {l : Launch} {c : stF} {d : stM}
theorem jv_like (hl : l.stackTraces = false) (hJ : Jn c d) (x1 x2 : Int32) : jL l Jn 0 M_Fs_like M_Mo_like [.int x1, .int x2] [x_ns] c d := by
  obtain ⟨⟨pf, pn⟩, ⟨sw, wc, sv, fy, ly, ro, ss, aw, dw⟩, tp, ru, qu, to, ⟨ar, ap, az⟩⟩ := c
  obtain ⟨mt, ⟨ma, mn⟩, ⟨nr, ny, nl, nt, nv, np, nf, nu, nh⟩, mq, mo, mx⟩ := d
  have hJ0 := hJ
  obtain ⟨m, n, ⟨h60, h32⟩, hp, ⟨e4, e5⟩, e6, hW, e78, hV, h⟩ := hJ
  dsimp only at e4 e5 e6 h hW hp hV e78
  subst e4 e5 e6
  have hcd : ((¬ x1 < 0 ∧ x1 < nI n) ∧ 0 ≤ x2) ↔ (isR x1 n && decide (¬ x2 < 0)) = true := by
    rw [Bool.and_eq_true, isR_iff, decide_eq_true_eq, Int32.lt_iff_toInt_lt, Int32.lt_iff_toInt_lt, Int32.lt_iff_toInt_lt, Int32.le_iff_toInt_le]
    omega
  refine ⟨ab_x 1, ab_r 2, fun o c' => (∃ al', c' = ((pf, pn), (sw, wc, sv, fy, ly, ro, nI n, aw, dw), tp, ru, qu, to, al')) ∧ o = (if (¬ x1 < 0 ∧ x1 < nI n) ∧ 0 ≤ x2 then .inl (some (.int (if x2 < nI (lkS (facts sw sv (cnF wc) x1.toNatClampNeg) (ar, ap, 0) n).2.2 then (lkS (facts sw sv (cnF wc) x1.toNatClampNeg) (ar, ap, 0) n).1 x2.toNatClampNeg else -1))) else .inr x_ns), by decide, by decide, fun z => ab_K_mono (fun q hq => ?_) (k_Fs_like (cnt := cnF wc) hl h32 (jW_c hW)), fun o c' hoc => ?_⟩
  · obtain ⟨al', e⟩ := hq
    rw [e]
    exact ⟨((pf, pn), (sw, wc, sv, fy, ly, ro, nI n, aw, dw), tp, ru, qu, to, al'), rfl, ⟨al', rfl⟩, rfl⟩
  · obtain ⟨⟨al', rfl⟩, rfl⟩ := hoc
    by_cases hc : (¬ x1 < 0 ∧ x1 < nI n) ∧ 0 ≤ x2
    · rw [if_pos hc]
      refine ⟨Or.inl ⟨_, rfl⟩, fun z => ab_K_mono (fun q hq => ?_) (k_Mo_like (cnt := cnF wc) (ln := lnF nl) hl h32 (jW_c hW) (jW_l hW))⟩
      rw [if_pos (hcd.mp hc)] at hq
      refine ⟨_, (0, (ma, mn), (nI n, wc, nl, nt, nv, np, nf, nu, nh), mq, mo, mx), hq, ⟨_, rfl⟩, ?_, hJ0⟩
      obtain ⟨r, hr, er⟩ := ab_ofI hc.1.1 hc.1.2 (by omega)
      have ec1 : x1.toNatClampNeg = r := by rw [er, nI_clamp (by omega)]
      rw [ec1]
      have hfe : ∀ o, o < n → facts sw sv (cnF wc) r o = if o = r then 0 else sh2 nt (lnF nl) r o (cnF wc o) (cnF wc r) + ffS nv r o 4 := fun o ho => by
        unfold facts
        by_cases e : o = r
        · rw [if_pos e, if_pos e]
        · rw [if_neg e, if_neg e, fw_eq hW hr ho, ff_eq hV (by omega) (by omega) 4 (by omega)]
      have hle : ∀ o, o < n → facts sw sv (cnF wc) r o ≤ 16 := fun o ho => by
        unfold facts
        split
        · omega
        · have a1 := fwS_le sw r o (cnF wc o) (cnF wc r)
          have a2 := ffS_le sv r o 4
          have a3 := (hW.1 r).1
          omega
      obtain ⟨L, eL⟩ : ∃ L, L = enA (fun o => if facts sw sv (cnF wc) r o = 0 then none else some (facts sw sv (cnF wc) r o)) n 16 16 := ⟨_, rfl⟩
      obtain ⟨l1, l2⟩ := lk_rep (F := facts sw sv (cnF wc) r) rfl (g0 := (ar, ap, 0)) rfl n hle L eL
      have hA : enA (fun o => if facts sw sv (cnF wc) r o = 0 then none else some (facts sw sv (cnF wc) r o)) n 16 16 = enA (shF nt nv (lnF nl) (cnF wc) r) n 16 16 := by
        refine enA_c 16 (by omega) (fun o ho b q1 q2 => ?_)
        rw [hfe o ho]
        unfold shF
        by_cases e : o = r
        · rw [if_pos e, if_pos rfl, if_pos e]
        · rw [if_neg e, if_neg e]
          by_cases e0 : sh2 nt (lnF nl) r o (cnF wc o) (cnF wc r) + ffS nv r o 4 = 0
          · rw [if_pos e0, e0]
            constructor
            · intro q; cases q
            · intro q; cases q; omega
          · rw [if_neg e0]
      rw [← hA, ← eL, l2]
      have hlen : L.length ≤ 32 := by
        rw [← l2]
        have := lkS_k (F := facts sw sv (cnF wc) r) (g0 := (ar, ap, 0)) rfl n
        omega
      have h2 : ¬ x2 < 0 := by
        have h9 := hc.2
        rw [Int32.le_iff_toInt_le] at h9
        rw [Int32.lt_iff_toInt_lt]
        omega
      obtain ⟨k, hk, ek⟩ := nI_of h2
      have ec2 : x2.toNatClampNeg = k := by rw [ek, nI_clamp hk]
      rw [ec2, ek]
      clear hA eL
      by_cases hlt : k < L.length
      · rw [if_pos (nI_lt hlt (by omega))]
        have hg : L[k]? = some (L[k]'hlt) := List.getElem?_eq_getElem hlt
        have h9 := (l1 k _ hg).1
        rw [h9]
        unfold lkV
        rw [hg]
        exact okR_v rfl
      · rw [if_neg (nI_nlt (by omega) hk)]
        unfold lkV
        rw [List.getElem?_eq_none (by omega)]
        exact okR_v rfl
    · rw [if_neg hc]
      refine ⟨Or.inr ⟨x_ns, by simp, rfl⟩, fun z => ab_K_mono (fun q hq => ?_) (k_Mo_like (cnt := cnF wc) (ln := lnF nl) hl h32 (jW_c hW) (jW_l hW))⟩
      rw [if_neg (fun q => hc (hcd.mpr q))] at hq
      exact ⟨_, (1, (ma, mn), (nI n, wc, nl, nt, nv, np, nf, nu, nh), mq, mo, mx), hq, ⟨_, rfl⟩, okR_1 rfl, hJ0⟩
end J6
