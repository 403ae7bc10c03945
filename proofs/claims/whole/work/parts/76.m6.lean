/-! CONTRACTS OF THE REFERENCE: note, ask (a template: gen/tpl.py) -/
def cN (p : Nat → Bool) : Nat → Nat
  | 0 => 0
  | r + 1 => cN p r + (if p r = true then 1 else 0)
theorem cN_two {p q : Nat → Bool} (h : ∀ r, p r = true → q r = true → False) : ∀ m, cN p m + cN q m ≤ m
  | 0 => Nat.le_refl _
  | m + 1 => by
    have ih := cN_two h m
    have := h m
    unfold cN
    cases hp : p m <;> cases hq : q m
    · simp; omega
    · simp; omega
    · simp; omega
    · exact (this hp hq).elim
theorem cN_step (p : Nat → Bool) {m n : Nat} (h : m ≤ n) : cN p n ≤ cN p m + (n - m) := by
  induction h with
  | refl => omega
  | @step k hk ih =>
    have hk2 : m ≤ k := hk
    show cN p k + (if p k = true then 1 else 0) ≤ cN p m + (k + 1 - m)
    split <;> omega
theorem cN_or {p q s : Nat → Bool} (h : ∀ r, s r = true ↔ p r = true ∨ q r = true) (hd : ∀ r, p r = true → q r = true → False) : ∀ m, cN s m = cN p m + cN q m
  | 0 => rfl
  | m + 1 => by
    have ih := cN_or h hd m
    have h1 := h m
    have h2 := hd m
    unfold cN
    cases hp : p m <;> cases hq : q m <;> cases hs : s m <;> simp [hp, hq, hs] at h1 h2 ⊢ <;> omega
theorem cN_none {p : Nat → Bool} (h : ∀ r, p r = false) : ∀ m, cN p m = 0
  | 0 => rfl
  | m + 1 => by
    unfold cN
    rw [cN_none h m, h m]
    rfl
theorem en_cN (F : Nat → Option Nat) (b : Nat) : ∀ o, (en F b o).length = cN (fun r => decide (F r = some b)) o
  | 0 => rfl
  | o + 1 => by
    unfold en cN
    rw [List.length_append, en_cN F b o]
    by_cases h : F o = some b
    · rw [if_pos h, if_pos (decide_eq_true h)]
      rfl
    · rw [if_neg h, if_neg (by rw [decide_eq_false h]; decide)]
      rfl
def inR (F : Nat → Option Nat) (B k r : Nat) : Bool := match F r with
  | none => false
  | some x => decide (B < x + k ∧ x ≤ B)
theorem inR_t {F : Nat → Option Nat} {B k r : Nat} : inR F B k r = true ↔ ∃ x, F r = some x ∧ B < x + k ∧ x ≤ B := by
  unfold inR
  cases h : F r with
  | none => exact ⟨fun q => (by cases q), fun ⟨x, q, _⟩ => (by cases q)⟩
  | some y =>
    simp only [decide_eq_true_eq]
    exact ⟨fun q => ⟨y, rfl, q⟩, fun ⟨x, q, h9⟩ => by cases q; exact h9⟩
theorem enA_cN (F : Nat → Option Nat) (n B : Nat) : ∀ k, k ≤ B + 1 → (enA F n B k).length = cN (inR F B k) n
  | 0, _ => by
    rw [cN_none (fun r => ?_)]
    · rfl
    · cases h : inR F B 0 r with
      | false => rfl
      | true =>
        obtain ⟨x, _, h1, h2⟩ := inR_t.mp h
        omega
  | k + 1, hk => by
    unfold enA
    rw [List.length_append, enA_cN F n B k (by omega), en_cN]
    refine (cN_or (fun r => ?_) (fun r h1 h2 => ?_) n).symm
    · rw [inR_t, inR_t, decide_eq_true_eq]
      constructor
      · rintro ⟨x, h1, h2, h3⟩
        by_cases e : x = B - k
        · exact Or.inr (by rw [h1, e])
        · exact Or.inl ⟨x, h1, by omega, h3⟩
      · rintro (⟨x, h1, h2, h3⟩ | h)
        · exact ⟨x, h1, by omega, h3⟩
        · exact ⟨B - k, h, by omega, by omega⟩
    · obtain ⟨x, e1, e2, e3⟩ := inR_t.mp h1
      have e4 := of_decide_eq_true h2
      rw [e1] at e4
      cases e4
      omega
theorem enA_room {F : Nat → Option Nat} {n B k o : Nat} (hk : k ≤ B) (ho : o < n) (h : F o = some (B - k)) : (enA F n B k ++ en F (B - k) o).length < n := by
  rw [List.length_append, enA_cN F n B k (by omega), en_cN]
  have hd : ∀ r, inR F B k r = true → decide (F r = some (B - k)) = true → False := fun r h1 h2 => by
    obtain ⟨x, e1, e2, e3⟩ := inR_t.mp h1
    have e4 := of_decide_eq_true h2
    rw [e1] at e4
    cases e4
    omega
  have h1 := cN_two hd (o + 1)
  have h2 := cN_step (inR F B k) (show o + 1 ≤ n by omega)
  have h3 : cN (fun r => decide (F r = some (B - k))) (o + 1) = cN (fun r => decide (F r = some (B - k))) o + 1 := by
    show _ + (if decide (F o = some (B - k)) = true then 1 else 0) = _
    rw [if_pos (decide_eq_true h)]
  omega
def msL (ma : Nat → Int32) (m : Nat) (nt nv np nf nu : Nat → Int32) (ln cnt : Nat → Nat) (L : List gTm) (r t : Nat) : Nat := match L[t]? with
  | none => 0
  | some tm => mS ma m nt nv np nf nu ln r (cnt r) tm
theorem mS_le (ma : Nat → Int32) (m : Nat) (nt nv np nf nu : Nat → Int32) (ln : Nat → Nat) (r c : Nat) (tm : gTm) : mS ma m nt nv np nf nu ln r c tm ≤ 10 := by
  unfold mS vM
  split
  · split <;> omega
  · split
    · split
      · omega
      · split <;> omega
    · split
      · split <;> omega
      · split <;> omega
theorem msL_le (ma : Nat → Int32) (m : Nat) (nt nv np nf nu : Nat → Int32) (ln cnt : Nat → Nat) (L : List gTm) (r t : Nat) : msL ma m nt nv np nf nu ln cnt L r t ≤ 10 := by
  unfold msL
  split
  · omega
  · exact mS_le ..
def toF (S : Nat → Nat → Nat) (T : Nat) (sn : Nat → Bool) (r : Nat) : Option Nat := if sn r = true ∧ hitB (S r) T = true then some (sumT (S r) T) else none
def gC (np nv : Nat → Int32) (k o : Nat) : Bool := decide (¬ nv (4 * o + k / 16) = -1) && uN (pO np (k / 16)) (nI (k % 16)) 17 (nv (4 * o + k / 16))
def ccS (np nv : Nat → Int32) (L : List Nat) (k : Nat) : Nat → Nat
  | 0 => 0
  | h + 1 => ccS np nv L k h + (match L[h]? with
    | none => 0
    | some o => if gC np nv k o = true then 1 else 0)
theorem ccS_le (np nv : Nat → Int32) (L : List Nat) (k : Nat) : ∀ h, ccS np nv L k h ≤ h
  | 0 => Nat.le_refl _
  | h + 1 => by
    have := ccS_le np nv L k h
    unfold ccS
    split
    · omega
    · split <;> omega
theorem hitB_s {S : Nat → Nat} {t : Nat} : hitB S (t + 1) = (hitB S t && decide (¬ S t = 0)) := by
  rw [Bool.eq_iff_iff, Bool.and_eq_true, hitB_t, hitB_t, decide_eq_true_eq]
  constructor
  · intro h
    exact ⟨fun j hj => h j (by omega), h t (by omega)⟩
  · rintro ⟨h1, h2⟩ j hj
    by_cases e : j = t
    · rw [e]; exact h2
    · exact h1 j (by omega)
theorem oI_eq {o : Option Nat} {b : Nat} (ho : ∀ x, o = some x → x < 2 ^ 31) (hb : b < 2 ^ 31) : oI o = nI b ↔ o = some b := by
  cases o with
  | none =>
    refine ⟨fun q => ?_, fun q => by cases q⟩
    have h7 := m1_lt hb
    rw [← q] at h7
    exact absurd (show (-1 : Int32) < -1 from h7) (by decide)
  | some x =>
    show nI x = nI b ↔ _
    rw [nI_eq (ho x rfl) hb]
    exact ⟨fun q => by rw [q], fun q => by cases q; rfl⟩
section M6
variable {l : Launch} {pd : gt_pd} {sh : gt_sh} {tr : gt_tr} {ru : gt_ru} {qu : gt_qu} {to : gt_to} {al : gt_al} {mt : gt_mt} {mp : gt_mp} {mr : gt_mr} {mq : gt_mq} {mo : gt_mo} {mx : gt_mx} {z : List ab_C} {ma ny nl nt nv np nf nu nh bk bf bs bd vr vs vp vo vx vn wt wo : Nat → Int32} {me mn nr br ba vt vh : Int32}
set_option maxHeartbeats 4000000 in
theorem k_Mo_note (hl : l.stackTraces = false) {n m ro : Nat} {ln cnt : Nat → Nat} {L : List gTm} {S : Nat → Nat → Nat} (hn : n ≤ 32) (hro : ro < 8) (hc : ∀ r, r < n → cnt r ≤ 12 ∧ ny r = nI (cnt r)) (hln : ∀ r, r < n → ∀ i, i < cnt r → lnOk nl ln (12 * r + i))
    (hq : ∀ j, j < 64 → okv (np j)) (hch : ∀ f, f < 4 → ∀ v, okv v → chE (pO np f) 16 v) (hv : ∀ j, j < 128 → okv (nv j)) (hL : L.length ≤ 8) (hbr : mq.1 = nI L.length) (hall : mAll ma m mq L) (hok : ∀ tm ∈ L, tmOkM ma m tm) (hS : S = msL ma m nt nv np nf nu ln cnt L) :
    ab_K l M_Mo_note (ab_r 3) (0, 0) [.ref 31, .int (nI ro)] (hf pd sh tr ru qu to al (hm mt mp (nI n, ny, nl, nt, nv, np, nf, nu, nh) mq mo mx z))
      (fun q => ∃ (vr' vs' vp' vo' vx' vn' : Nat → Int32) (mx' : gt_mx), q = (.inl none, (hf pd sh tr ru qu to al (hm mt mp (nI n, ny, nl, nt, nv, np, nf, nu, nh) mq (nI L.length, nI (enA (toF S L.length (fun r => decide (nh (8 * r + ro) = 0))) n 80 81).length, vr', vs', vp', vo', vx', vn') mx' z))) ∧
        (∀ (i o : Nat), (enA (toF S L.length (fun r => decide (nh (8 * r + ro) = 0))) n 80 81)[i]? = some o → vr' i = nI o ∧ vs' i = oI (toF S L.length (fun r => decide (nh (8 * r + ro) = 0)) o) ∧ ∀ t, t < L.length → vp' (8 * i + t) = nI (S o t)) ∧
        ∀ k, k < 64 → vn' k = nI (ccS np nv (enA (toF S L.length (fun r => decide (nh (8 * r + ro) = 0))) n 80 81) k (enA (toF S L.length (fun r => decide (nh (8 * r + ro) = 0))) n 80 81).length)) := by
  obtain ⟨br, bk, bf, bs, bd, ba⟩ := mq
  obtain ⟨vt, vh, vr, vs, vp, vo, vx, vn⟩ := mo
  change br = nI L.length at hbr
  subst hbr
  refine e_Mo_note hl (by decide) (fun X hl1 hR hX hC => ?_)
  have hl2 : (X.2.1).stackTraces = false := by rw [hl1]; exact hl
  have hS10 : ∀ r t, S r t ≤ 10 := fun r t => by rw [hS]; exact msL_le ..
  obtain ⟨F, hF⟩ : ∃ F, F = toF S L.length (fun r => decide (nh (8 * r + ro) = 0)) := ⟨_, rfl⟩
  rw [← hF] at hC
  have hF80 : ∀ r x, F r = some x → x ≤ 80 := fun r x hx => by
    rw [hF] at hx
    unfold toF at hx
    split at hx
    · cases hx
      have := sumT_le (hS10 r) L.length
      omega
    · cases hx
  have hFb : ∀ r x, F r = some x → x < 2 ^ 31 := fun r x hx => by have := hF80 r x hx; omega
  obtain ⟨A, hA⟩ : ∃ A, A = enA F n 80 81 := ⟨_, rfl⟩
  rw [← hA] at hC
  have hAn : A.length ≤ n := by
    rw [hA, enA_cN F n 80 81 (by omega)]
    have := cN_step (inR F 80 81) (Nat.zero_le n)
    show cN (inR F 80 81) n ≤ n
    rw [show cN (inR F 80 81) 0 = 0 from rfl] at this
    omega
  have hAlt : ∀ (i o : Nat), A[i]? = some o → o < n := by
    have hen : ∀ b k o, o ∈ en F b k → o < k := by
      intro b k
      induction k with
      | zero => intro o ho; cases ho
      | succ k ih =>
        intro o ho
        unfold en at ho
        rcases List.mem_append.mp ho with h | h
        · have := ih o h; omega
        · split at h
          · have := List.mem_singleton.mp h; omega
          · cases h
    have henA : ∀ k o, o ∈ enA F n 80 k → o < n := by
      intro k
      induction k with
      | zero => intro o ho; cases ho
      | succ k ih =>
        intro o ho
        unfold enA at ho
        rcases List.mem_append.mp ho with h | h
        · exact ih o h
        · exact hen _ n o h
    intro i o ho
    rw [hA] at ho
    exact henA 81 o (List.mem_of_getElem? ho)
  have hcount : ∀ (vr9 vs9 vp9 vo9 vx9 : Nat → Int32) (mx9 : gt_mx), (∀ (i o : Nat), A[i]? = some o → vr9 i = nI o ∧ vs9 i = oI (F o) ∧ ∀ t, t < L.length → vp9 (8 * i + t) = nI (S o t)) → ∀ (j k : Nat) (vn9 : Nat → Int32), k + j = 64 → (∀ k', k' < k → vn9 k' = nI (ccS np nv A k' A.length)) →
      ab_W X M_Mo_note (241, [(0, .ref 31), (2, .int (nI k))], [], (hf pd sh tr ru qu to al (hm mt mp (nI n, ny, nl, nt, nv, np, nf, nu, nh) (nI L.length, bk, bf, bs, bd, ba) (nI L.length, nI A.length, vr9, vs9, vp9, vo9, vx9, vn9) mx9 z)), 0, 0) := by
    intro vr9 vs9 vp9 vo9 vx9 mx9 hP j
    induction j with
    | zero =>
      intro k vn9 hk h1
      exact t_Mo_note_241_2 hX (nI_le (a := 64) (by omega) (by omega)) (r_Mo_note_342 hX hC (by decide) ⟨vr9, vs9, vp9, vo9, vx9, vn9, mx9, rfl, hP, fun k' hk' => h1 k' (by omega)⟩)
    | succ j ih =>
      intro k vn9 hk h1
      have hink : vp_in (nI k) 64 := vp_in_nI (by omega) (by omega)
      have hclk : (nI k).toNatClampNeg = k := nI_clamp (by omega)
      have e16 : nI k / 16 = nI (k / 16) := pk_div (d := 16) (by omega) (by omega) (by omega)
      have r16 : nI k - nI k / 16 * 16 = nI (k % 16) := pk_rem (d := 16) (by omega) (by omega) (by omega)
      refine t_Mo_note_241_1 hX (nI_ge (b := 64) (by omega) (by omega)) hink ?_
      rw [hclk]
      have hinner : ∀ (j2 h : Nat) (vn8 : Nat → Int32), h + j2 = A.length → vn8 k = nI (ccS np nv A k h) → (∀ k', k' ≠ k → vn8 k' = vn9 k') →
          ab_W X M_Mo_note (256, [(0, .ref 31), (2, .int (nI k)), (3, .int (nI h))], [], (hf pd sh tr ru qu to al (hm mt mp (nI n, ny, nl, nt, nv, np, nf, nu, nh) (nI L.length, bk, bf, bs, bd, ba) (nI L.length, nI A.length, vr9, vs9, vp9, vo9, vx9, vn8) mx9 z)), 0, 0) := by
        intro j2
        induction j2 with
        | zero =>
          intro h vn8 hh h2 h3
          have e : h = A.length := by omega
          subst e
          refine t_Mo_note_256_3 hX (nI_le (Nat.le_refl _) (by omega)) ?_
          rw [nI_1]
          refine ih (k + 1) vn8 (by omega) (fun k' hk' => ?_)
          by_cases e : k' = k
          · rw [e]; exact h2
          · rw [h3 k' e]; exact h1 k' (by omega)
        | succ j2 ih2 =>
          intro h vn8 hh h2 h3
          have hAh : A[h]? = some (A[h]'(by omega)) := List.getElem?_eq_getElem (by omega)
          generalize A[h]'(by omega) = o at hAh
          have ho := hAlt h o hAh
          obtain ⟨p1, -, -⟩ := hP h o hAh
          have hinh : vp_in (nI h) 32 := vp_in_nI (by omega) (by omega)
          have hclh : (nI h).toNatClampNeg = h := nI_clamp (by omega)
          have hlt : ¬ nI A.length ≤ nI h := nI_ge (by omega) (by omega)
          have e4 : (4 : Int32) * vr9 (nI h).toNatClampNeg + nI k / 16 = nI (4 * o + k / 16) := by rw [hclh, p1, e16]; exact ab_lin2 4 o _
          have hin4 : vp_in ((4 : Int32) * vr9 (nI h).toNatClampNeg + nI k / 16) 128 := by rw [e4]; exact vp_in_nI (by omega) (by omega)
          have hcl4 : ((4 : Int32) * vr9 (nI h).toNatClampNeg + nI k / 16).toNatClampNeg = 4 * o + k / 16 := by rw [e4]; exact nI_clamp (by omega)
          have hcc := ccS_le np nv A k h
          have hgo : ∀ y : Nat, y = ccS np nv A k (h + 1) → ab_W X M_Mo_note (329, [(0, .ref 31), (2, .int (nI k)), (3, .int (nI h))], [.int (nI y), .int (nI k), .ref 50], (hf pd sh tr ru qu to al (hm mt mp (nI n, ny, nl, nt, nv, np, nf, nu, nh) (nI L.length, bk, bf, bs, bd, ba) (nI L.length, nI A.length, vr9, vs9, vp9, vo9, vx9, vn8) mx9 z)), 0, 0) := by
            intro y hy
            refine t_Mo_note_329_1 hX hink ?_
            rw [hclk, nI_1]
            exact ih2 (h + 1) _ (by omega) (by rw [pk_us, hy]) (fun k' hk' => by rw [pk_un hk']; exact h3 k' hk')
          have hsame : gC np nv k o = false → ccS np nv A k (h + 1) = ccS np nv A k h := by
            intro hg
            show ccS np nv A k h + _ = _
            rw [hAh]
            show ccS np nv A k h + (if gC np nv k o = true then 1 else 0) = _
            rw [if_neg (by rw [hg]; decide)]
            rfl
          have hmore : gC np nv k o = true → ccS np nv A k (h + 1) = ccS np nv A k h + 1 := by
            intro hg
            show ccS np nv A k h + _ = _
            rw [hAh]
            show ccS np nv A k h + (if gC np nv k o = true then 1 else 0) = _
            rw [if_pos hg]
          have hnot : gC np nv k o = false → ab_W X M_Mo_note (323, [(0, .ref 31), (2, .int (nI k)), (3, .int (nI h))], [.int (nI k), .ref 50], (hf pd sh tr ru qu to al (hm mt mp (nI n, ny, nl, nt, nv, np, nf, nu, nh) (nI L.length, bk, bf, bs, bd, ba) (nI L.length, nI A.length, vr9, vs9, vp9, vo9, vx9, vn8) mx9 z)), 0, 0) := by
            intro hg
            refine t_Mo_note_323_1 hX hink ?_
            rw [hclk, h2]
            exact hgo _ (hsame hg).symm
          by_cases hv1 : nv (4 * o + k / 16) = -1
          · exact t_Mo_note_256_2 hX hlt hinh (by decide) hin4 (by rw [hcl4]; exact hv1) (hnot (by unfold gC; rw [decide_eq_false (fun q => q hv1), Bool.false_and]))
          · refine t_Mo_note_256_1 hX hlt hinh (by decide) hin4 (by rw [hcl4]; exact hv1) (by decide) (by decide) ?_
            rw [hcl4, r16, e16]
            refine q_Mo_note_306 hX (ab_conT hC) (k_Mo_isIn (K := 16) hl2 (show k / 16 < 4 by omega) hq (hv _ (by omega)) (hch _ (by omega) _ (hv _ (by omega)))) (by rw [hR]; decide) (fun v h' e => ?_) (fun E h' e => by first | (cases e; done) | (split at e <;> cases e))
            cases e
            cases hu : uN (pO np (k / 16)) (nI (k % 16)) 17 (nv (4 * o + k / 16)) with
            | true =>
              refine t_Mo_note_309_1 hX (by decide) hink ?_
              rw [hclk, h2, nI_1]
              exact hgo _ (hmore (by unfold gC; rw [decide_eq_true hv1, hu]; rfl)).symm
            | false => exact t_Mo_note_309_2 hX rfl (hnot (by unfold gC; rw [hu, Bool.and_false]))
      exact hinner A.length 0 _ (by omega) (by rw [pk_us]; rfl) (fun k' hk' => pk_un hk')
  have hhits : ∀ (vo9 vx9 : Nat → Int32) (mx9 : gt_mx), (∀ r, r < n → vx9 r = oI (F r)) → (∀ r, r < n → ∀ t, t < L.length → vo9 (8 * r + t) = nI (S r t)) → ∀ (j b : Nat) (vr9 vs9 vp9 : Nat → Int32), b + j = 81 → (∀ (i o : Nat), (enA F n 80 b)[i]? = some o → vr9 i = nI o ∧ vs9 i = oI (F o) ∧ ∀ t, t < L.length → vp9 (8 * i + t) = nI (S o t)) →
      ab_W X M_Mo_note (120, [(0, .ref 31), (2, .int (nI (81 - b) + (-1)))], [], (hf pd sh tr ru qu to al (hm mt mp (nI n, ny, nl, nt, nv, np, nf, nu, nh) (nI L.length, bk, bf, bs, bd, ba) (vt, nI (enA F n 80 b).length, vr9, vs9, vp9, vo9, vx9, vn) mx9 z)), 0, 0) := by
    intro vo9 vx9 mx9 hx9 ho9 j
    induction j with
    | zero =>
      intro b vr9 vs9 vp9 hb hP
      have e : b = 81 := by omega
      subst e
      rw [← hA] at hP ⊢
      exact t_Mo_note_120_2 hX (by decide) (hcount vr9 vs9 vp9 vo9 vx9 mx9 hP 64 0 vn rfl (fun k' hk' => absurd hk' (Nat.not_lt_zero k')))
    | succ j ih =>
      intro b vr9 vs9 vp9 hb hP
      rw [show 81 - b = (80 - b) + 1 by omega, pk_m1]
      refine t_Mo_note_120_1 hX (nI_pos (by omega)) ?_
      have hinner : ∀ (j2 o : Nat) (vr8 vs8 vp8 : Nat → Int32), o + j2 = n → (∀ (i o' : Nat), (enA F n 80 b ++ en F (80 - b) o)[i]? = some o' → vr8 i = nI o' ∧ vs8 i = oI (F o') ∧ ∀ t, t < L.length → vp8 (8 * i + t) = nI (S o' t)) →
          ab_W X M_Mo_note (126, [(0, .ref 31), (2, .int (nI (80 - b))), (3, .int (nI o))], [], (hf pd sh tr ru qu to al (hm mt mp (nI n, ny, nl, nt, nv, np, nf, nu, nh) (nI L.length, bk, bf, bs, bd, ba) (vt, nI (enA F n 80 b ++ en F (80 - b) o).length, vr8, vs8, vp8, vo9, vx9, vn) mx9 z)), 0, 0) := by
        intro j2
        induction j2 with
        | zero =>
          intro o vr8 vs8 vp8 ho hP8
          have e : o = n := by omega
          subst e
          refine t_Mo_note_126_3 hX (nI_le (Nat.le_refl _) (by omega)) ?_
          have h9 := ih (b + 1) vr8 vs8 vp8 (by omega) hP8
          rw [show 81 - (b + 1) = 80 - b by omega] at h9
          exact h9
        | succ j2 ih2 =>
          intro o vr8 vs8 vp8 ho hP8
          have hlt : ¬ nI n ≤ nI o := nI_ge (by omega) (by omega)
          have hino : vp_in (nI o) 32 := vp_in_nI (by omega) (by omega)
          have hclo : (nI o).toNatClampNeg = o := nI_clamp (by omega)
          by_cases hFo : F o = some (80 - b)
          · have hroom := enA_room (show b ≤ 80 by omega) (show o < n by omega) hFo
            obtain ⟨H, hH⟩ : ∃ H, H = (enA F n 80 b ++ en F (80 - b) o).length := ⟨_, rfl⟩
            rw [← hH] at hroom ⊢
            have hinH : vp_in (nI H) 32 := vp_in_nI (by omega) (by omega)
            have hclH : (nI H).toNatClampNeg = H := nI_clamp (by omega)
            refine t_Mo_note_126_1 hX hlt hino (by rw [hclo, hx9 o (by omega)]; exact (oI_eq (hFb o) (by omega)).mpr hFo) hinH hinH ?_
            rw [hclH]
            have hcopy : ∀ (j3 t : Nat) (vp7 : Nat → Int32), t + j3 = L.length → (∀ t', t' < t → vp7 (8 * H + t') = nI (S o t')) → (∀ x, (x < 8 * H ∨ 8 * H + 8 ≤ x) → vp7 x = vp8 x) →
                ab_W X M_Mo_note (167, [(0, .ref 31), (2, .int (nI (80 - b))), (3, .int (nI o)), (4, .int (nI t))], [], (hf pd sh tr ru qu to al (hm mt mp (nI n, ny, nl, nt, nv, np, nf, nu, nh) (nI L.length, bk, bf, bs, bd, ba) (vt, nI H, upd vr8 H (nI o), upd vs8 H (nI (80 - b)), vp7, vo9, vx9, vn) mx9 z)), 0, 0) := by
              intro j3
              induction j3 with
              | zero =>
                intro t vp7 ht g1 g2
                have e : t = L.length := by omega
                subst e
                refine t_Mo_note_167_2 hX (nI_le (Nat.le_refl _) (by omega)) (t_Mo_note_219_1 hX ?_)
                rw [nI_1, nI_1]
                have e1 : enA F n 80 b ++ en F (80 - b) (o + 1) = (enA F n 80 b ++ en F (80 - b) o) ++ [o] := by
                  show enA F n 80 b ++ (en F (80 - b) o ++ (if F o = some (80 - b) then [o] else [])) = _
                  rw [if_pos hFo, List.append_assoc]
                have e2 : (enA F n 80 b ++ en F (80 - b) (o + 1)).length = H + 1 := by
                  rw [e1, List.length_append, ← hH]
                  rfl
                have h9 := ih2 (o + 1) (upd vr8 H (nI o)) (upd vs8 H (nI (80 - b))) vp7 (by omega) (fun i o' hi => by
                  rw [e1] at hi
                  by_cases hiH : i < H
                  · rw [List.getElem?_append_left (by rw [← hH]; exact hiH)] at hi
                    obtain ⟨q1, q2, q3⟩ := hP8 i o' hi
                    refine ⟨by rw [pk_un (by omega)]; exact q1, by rw [pk_un (by omega)]; exact q2, fun t ht => ?_⟩
                    rw [g2 _ (by omega)]
                    exact q3 t ht
                  · have hil := (List.getElem?_eq_some_iff.mp hi).1
                    rw [List.length_append, ← hH] at hil
                    have hie : i = H := by
                      have : ([o] : List Nat).length = 1 := rfl
                      omega
                    subst hie
                    rw [List.getElem?_append_right (by rw [← hH]; exact Nat.le_refl _), ← hH, Nat.sub_self] at hi
                    cases hi
                    refine ⟨pk_us, ?_, g1⟩
                    rw [pk_us, hFo]
                    rfl)
                rw [e2] at h9
                exact h9
              | succ j3 ih3 =>
                intro t vp7 ht g1 g2
                have e8 : (8 : Int32) * nI o + nI t = nI (8 * o + t) := ab_lin2 8 o t
                have e8H : (8 : Int32) * nI H + nI t = nI (8 * H + t) := ab_lin2 8 H t
                refine t_Mo_note_167_1 hX (nI_ge (by omega) (by omega)) (by rw [e8]; exact vp_in_nI (by omega) (by omega)) (by rw [e8H]; exact vp_in_nI (by omega) (by omega)) ?_
                rw [e8, e8H, nI_clamp (show 8 * o + t < 2 ^ 31 by omega), nI_clamp (show 8 * H + t < 2 ^ 31 by omega), ho9 o (by omega) t (by omega), nI_1]
                refine ih3 (t + 1) _ (by omega) (fun t' ht' => ?_) (fun x hx => ?_)
                · by_cases e : t' = t
                  · rw [e, pk_us]
                  · rw [pk_un (by omega)]; exact g1 t' (by omega)
                · rw [pk_un (by omega)]; exact g2 x hx
            exact hcopy L.length 0 vp8 (by omega) (fun t' ht' => absurd ht' (Nat.not_lt_zero t')) (fun _ _ => rfl)
          · refine t_Mo_note_126_2 hX hlt hino (by rw [hclo, hx9 o (by omega)]; exact fun q => hFo ((oI_eq (hFb o) (by omega)).mp q)) (t_Mo_note_219_1 hX ?_)
            rw [nI_1]
            have e1 : en F (80 - b) (o + 1) = en F (80 - b) o := by
              show en F (80 - b) o ++ (if F o = some (80 - b) then [o] else []) = _
              rw [if_neg hFo, List.append_nil]
            have h9 := ih2 (o + 1) vr8 vs8 vp8 (by omega) (by rw [e1]; exact hP8)
            rw [e1] at h9
            exact h9
      have h9 := hinner n 0 vr9 vs9 vp9 (by omega) (by rw [show enA F n 80 b ++ en F (80 - b) 0 = enA F n 80 b from List.append_nil _]; exact hP)
      rw [show enA F n 80 b ++ en F (80 - b) 0 = enA F n 80 b from List.append_nil _] at h9
      exact h9
  refine t_Mo_note_0_1 hX ?_
  have hfirst : ∀ (j r : Nat) (vo9 vx9 : Nat → Int32) (mx9 : gt_mx), r + j = n → (∀ r', r' < r → vx9 r' = oI (F r')) → (∀ r', r' < r → ∀ t, t < L.length → vo9 (8 * r' + t) = nI (S r' t)) →
      ab_W X M_Mo_note (2, [(0, .ref 31), (1, .int (nI ro)), (2, .int (nI r))], [], (hf pd sh tr ru qu to al (hm mt mp (nI n, ny, nl, nt, nv, np, nf, nu, nh) (nI L.length, bk, bf, bs, bd, ba) (vt, vh, vr, vs, vp, vo9, vx9, vn) mx9 z)), 0, 0) := by
    intro j
    induction j with
    | zero =>
      intro r vo9 vx9 mx9 hj h1 h2
      have e : r = n := by omega
      subst e
      exact t_Mo_note_2_3 hX (nI_le (Nat.le_refl _) (by omega)) (hhits vo9 vx9 mx9 h1 h2 81 0 vr vs vp rfl (fun i o hi => by cases hi))
    | succ j ih =>
      intro r vo9 vx9 mx9 hj h1 h2
      have hlt : ¬ nI n ≤ nI r := nI_ge (by omega) (by omega)
      have e8 : (8 : Int32) * nI r + nI ro = nI (8 * r + ro) := ab_lin2 8 r ro
      have hin8 : vp_in ((8 : Int32) * nI r + nI ro) 256 := by rw [e8]; exact vp_in_nI (by omega) (by omega)
      have hcl8 : ((8 : Int32) * nI r + nI ro).toNatClampNeg = 8 * r + ro := by rw [e8]; exact nI_clamp (by omega)
      have hinr : vp_in (nI r) 32 := vp_in_nI (by omega) (by omega)
      have hclr : (nI r).toNatClampNeg = r := nI_clamp (by omega)
      obtain ⟨sn, hsn⟩ : ∃ sn, sn = decide (nh (8 * r + ro) = 0) := ⟨_, rfl⟩
      have hterms : ∀ (j2 t : Nat) (vo8 vx8 : Nat → Int32) (mx8 : gt_mx), t + j2 = L.length → (∀ r', r' < r → vx8 r' = oI (F r')) → (∀ r', r' < r → ∀ t, t < L.length → vo8 (8 * r' + t) = nI (S r' t)) → (∀ t', t' < t → vo8 (8 * r + t') = nI (S r t')) → vx8 r = (if sn = true ∧ hitB (S r) t = true then nI (sumT (S r) t) else -1) →
          ab_W X M_Mo_note (37, [(0, .ref 31), (1, .int (nI ro)), (2, .int (nI r)), (3, .int (nI t))], [], (hf pd sh tr ru qu to al (hm mt mp (nI n, ny, nl, nt, nv, np, nf, nu, nh) (nI L.length, bk, bf, bs, bd, ba) (vt, vh, vr, vs, vp, vo8, vx8, vn) mx8 z)), 0, 0) := by
        intro j2
        induction j2 with
        | zero =>
          intro t vo8 vx8 mx8 ht g1 g2 g3 g4
          have e : t = L.length := by omega
          subst e
          refine t_Mo_note_37_2 hX (nI_le (Nat.le_refl _) (by omega)) ?_
          rw [nI_1]
          refine ih (r + 1) vo8 vx8 mx8 (by omega) (fun r' hr' => ?_) (fun r' hr' t' ht' => ?_)
          · by_cases e : r' = r
            · rw [e, g4, hF]
              unfold toF
              dsimp only
              rw [hsn]
              split <;> rfl
            · exact g1 r' (by omega)
          · by_cases e : r' = r
            · rw [e]; exact g3 t' ht'
            · exact g2 r' (by omega) t' ht'
        | succ j2 ih2 =>
          intro t vo8 vx8 mx8 ht g1 g2 g3 g4
          have hLt : L[t]? = some (L[t]'(by omega)) := List.getElem?_eq_getElem (by omega)
          have hSt : S r t = mS ma m nt nv np nf nu ln r (cnt r) (L[t]'(by omega)) := by rw [hS]; unfold msL; rw [hLt]
          have hsc := k_Mo_scored (l := X.2.1) (pd := pd) (sh := sh) (tr := tr) (ru := ru) (qu := qu) (to := to) (al := al) (mt := mt) (mp := mp) (nr := nI n) (ny := ny) (nl := nl) (nt := nt) (nv := nv) (np := np) (nf := nf) (nu := nu) (nh := nh) (br := nI L.length) (bk := bk) (bf := bf) (bs := bs) (bd := bd) (ba := ba) (mo := (vt, vh, vr, vs, vp, vo8, vx8, vn)) (mx := mx8) (z := z) (ma := ma) hl2 (r := r) (t := t) (m := m) (ln := ln) (by omega) (by omega) (hc r (by omega)).1 (hc r (by omega)).2 (fun i hi => ⟨(hln r (by omega) i hi).2.1, (hln r (by omega) i hi).2.2⟩) hq hch hv (hok _ (List.getElem_mem (by omega))) (hall t _ hLt)
          rw [← hSt] at hsc
          refine t_Mo_note_37_1 hX (nI_ge (by omega) (by omega)) (q_Mo_note_48 hX (ab_conT hC) hsc (by rw [hR]; decide) (fun v h' e => ?_) (fun E h' e => by obtain ⟨g, e⟩ := e; cases e))
          obtain ⟨g, e⟩ := e
          cases e
          have e8t : (8 : Int32) * nI r + nI t = nI (8 * r + t) := ab_lin2 8 r t
          have hin8t : vp_in ((8 : Int32) * nI r + nI t) 256 := by rw [e8t]; exact vp_in_nI (by omega) (by omega)
          have hcl8t : ((8 : Int32) * nI r + nI t).toNatClampNeg = 8 * r + t := by rw [e8t]; exact nI_clamp (by omega)
          have h10 := hS10 r t
          have hsum := sumT_le (hS10 r) t
          have hgo : ∀ y : Int32, y = (if sn = true ∧ hitB (S r) (t + 1) = true then nI (sumT (S r) (t + 1)) else -1) → ab_W X M_Mo_note (99, [(0, .ref 31), (1, .int (nI ro)), (2, .int (nI r)), (3, .int (nI t))], [.int y, .int (nI r), .ref 49], (hf pd sh tr ru qu to al (hm mt mp (nI n, ny, nl, nt, nv, np, nf, nu, nh) (nI L.length, bk, bf, bs, bd, ba) (vt, vh, vr, vs, vp, upd vo8 (8 * r + t) (nI (S r t)), vx8, vn) g z)), 0, 0) := by
            intro y hy
            refine t_Mo_note_99_1 hX hinr ?_
            rw [hclr, nI_1]
            refine ih2 (t + 1) _ _ g (by omega) (fun r' hr' => ?_) (fun r' hr' t' ht' => ?_) (fun t' ht' => ?_) (by rw [pk_us, hy])
            · rw [pk_un (by omega)]; exact g1 r' hr'
            · rw [pk_un (by omega)]; exact g2 r' hr' t' ht'
            · by_cases e : t' = t
              · rw [e, pk_us]
              · rw [pk_un (by omega)]; exact g3 t' (by omega)
          have hno : ¬ (sn = true ∧ hitB (S r) (t + 1) = true) → ab_W X M_Mo_note (86, [(0, .ref 31), (1, .int (nI ro)), (2, .int (nI r)), (3, .int (nI t))], [.int (nI r), .ref 49], (hf pd sh tr ru qu to al (hm mt mp (nI n, ny, nl, nt, nv, np, nf, nu, nh) (nI L.length, bk, bf, bs, bd, ba) (vt, vh, vr, vs, vp, upd vo8 (8 * r + t) (nI (S r t)), vx8, vn) g z)), 0, 0) := fun q => t_Mo_note_86_1 hX (hgo (-1) (by rw [if_neg q]))
          by_cases hc1 : sn = true ∧ hitB (S r) t = true
          · rw [if_pos hc1] at g4
            have hx1 : ¬ vx8 (nI r).toNatClampNeg = -1 := by
              rw [hclr, g4]
              intro q
              have h7 := m1_lt (n := sumT (S r) t) (by omega)
              rw [q] at h7
              revert h7
              decide
            by_cases hc2 : S r t = 0
            · have h9 := hno (fun q => by rw [hitB_s, decide_eq_false (fun q => q hc2), Bool.and_false] at q; cases q.2)
              refine t_Mo_note_51_1 hX hin8t hinr hx1 (by rw [hc2]; rfl) ?_
              rw [hcl8t]
              exact h9
            · have h9 := hgo (nI (sumT (S r) t) + nI (S r t)) (by rw [if_pos ⟨hc1.1, by rw [hitB_s, hc1.2, decide_eq_true hc2]; rfl⟩, nI_add]; rfl)
              refine t_Mo_note_51_2 hX hin8t hinr hx1 (nI_ne0 (by omega) (by omega)) hinr ?_
              rw [hcl8t, hclr, g4]
              exact h9
          · rw [if_neg hc1] at g4
            have h9 := hno (fun q => hc1 ⟨q.1, by have q2 := q.2; rw [hitB_s] at q2; exact (ab_and q2).1⟩)
            refine t_Mo_note_51_3 hX hin8t hinr (by rw [hclr]; exact g4) ?_
            rw [hcl8t]
            exact h9
      have h34 : ∀ y : Int32, y = (if sn = true ∧ hitB (S r) 0 = true then nI (sumT (S r) 0) else -1) → ab_W X M_Mo_note (34, [(0, .ref 31), (1, .int (nI ro)), (2, .int (nI r))], [.int y, .int (nI r), .ref 49], (hf pd sh tr ru qu to al (hm mt mp (nI n, ny, nl, nt, nv, np, nf, nu, nh) (nI L.length, bk, bf, bs, bd, ba) (vt, vh, vr, vs, vp, vo9, vx9, vn) mx9 z)), 0, 0) := by
        intro y hy
        refine t_Mo_note_34_1 hX hinr ?_
        rw [hclr]
        refine hterms L.length 0 vo9 _ mx9 (by omega) (fun r' hr' => ?_) h2 (fun t' ht' => absurd ht' (Nat.not_lt_zero t')) (by rw [pk_us, hy])
        rw [pk_un (by omega)]
        exact h1 r' hr'
      by_cases hnh : nh (8 * r + ro) = 0
      · rw [decide_eq_true hnh] at hsn
        exact t_Mo_note_2_2 hX hlt hin8 (by rw [hcl8]; exact hnh) (h34 0 (by rw [hsn]; rfl))
      · rw [decide_eq_false hnh] at hsn
        exact t_Mo_note_2_1 hX hlt hin8 (by rw [hcl8]; exact hnh) (h34 (-1) (by rw [hsn, if_neg (fun q => by cases q.1)]))
  exact hfirst n 0 vo vx mx (by omega) (fun r' hr' => absurd hr' (Nat.not_lt_zero r')) (fun r' hr' => absurd hr' (Nat.not_lt_zero r'))
end M6
