/-! bits: roles, signs; chains of values; right, feed, parent -/
theorem sh_bit {m D : Int32} {k i : Nat} (hD : (D.toBitVec.smod 32).toNat = k) (hi : k + i < 32) : (m >>> D).toBitVec.getLsbD i = m.toBitVec.getLsbD (k + i) := by
  have e : (m >>> D).toBitVec = m.toBitVec.sshiftRight k := by rw [← hD]; rfl
  rw [e, BitVec.getLsbD_sshiftRight, if_pos hi]
  have : decide (32 ≤ i) = false := decide_eq_false (by omega)
  rw [this]
  rfl
theorem and_1 (y : Int32) : y &&& 1 = 0 ↔ y.toBitVec.getLsbD 0 = false := by
  constructor
  · intro h
    have h1 : (y &&& 1).toBitVec.getLsbD 0 = (0 : Int32).toBitVec.getLsbD 0 := congrArg (fun q : Int32 => q.toBitVec.getLsbD 0) h
    rw [Int32.toBitVec_and, BitVec.getLsbD_and, show (1 : Int32).toBitVec.getLsbD 0 = true from rfl, Bool.and_true] at h1
    exact h1
  · intro h
    apply Int32.toBitVec_inj.mp
    apply BitVec.eq_of_getLsbD_eq
    intro i hi
    rw [Int32.toBitVec_and, BitVec.getLsbD_and]
    by_cases e : i = 0
    · rw [e, h]; rfl
    · have : ∀ i, i < 32 → i ≠ 0 → (1 : Int32).toBitVec.getLsbD i = false := by decide +kernel
      rw [this i hi e, Bool.and_false]
      exact (show ∀ i, i < 32 → false = (0 : Int32).toBitVec.getLsbD i by decide +kernel) i hi
theorem seen_bit (m : Int32) {k : Nat} (hk : k < 8) : seen m (nI k) = m.toBitVec.getLsbD k := by
  have hD : ∀ k, k < 8 → ((nI k &&& 31).toBitVec.smod 32).toNat = k := by decide +kernel
  have h1 := sh_bit (m := m) (i := 0) (hD k hk) (by omega)
  have h2 := and_1 (m >>> (nI k &&& 31))
  unfold seen
  rw [h1] at h2
  cases hb : m.toBitVec.getLsbD k with
  | false => exact decide_eq_false (fun q => q (h2.mpr hb))
  | true =>
    refine decide_eq_true (fun q => ?_)
    have := h2.mp q
    rw [Nat.add_zero, hb] at this
    cases this
theorem seen_xor (m : Int32) {k j : Nat} (hk : k < 8) (hj : j < 8) : seen (m ^^^ (1 <<< (nI k &&& 31))) (nI j) = (seen m (nI j) ^^ decide (k = j)) := by
  rw [seen_bit _ hj, seen_bit _ hj, Int32.toBitVec_xor, BitVec.getLsbD_xor]
  have h : ∀ k, k < 8 → ∀ j, j < 8 → ((1 : Int32) <<< (nI k &&& 31)).toBitVec.getLsbD j = decide (k = j) := by decide +kernel
  rw [h k hk j hj]
theorem or_z {x y M : Int32} : (x ||| y) &&& M = 0 ↔ x &&& M = 0 ∧ y &&& M = 0 := by
  have hz : ∀ i, i < 32 → (0 : Int32).toBitVec.getLsbD i = false := by decide +kernel
  have key : ∀ u : Int32, u = 0 ↔ ∀ i, i < 32 → u.toBitVec.getLsbD i = false := by
    intro u
    constructor
    · rintro rfl i hi; exact hz i hi
    · intro h
      apply Int32.toBitVec_inj.mp
      apply BitVec.eq_of_getLsbD_eq
      intro i hi
      rw [h i hi, hz i hi]
  rw [key, key, key]
  constructor
  · intro h
    constructor
    · intro i hi
      have := h i hi
      rw [Int32.toBitVec_and, BitVec.getLsbD_and, Int32.toBitVec_or, BitVec.getLsbD_or] at this
      rw [Int32.toBitVec_and, BitVec.getLsbD_and]
      revert this
      cases x.toBitVec.getLsbD i <;> cases y.toBitVec.getLsbD i <;> cases M.toBitVec.getLsbD i <;> decide
    · intro i hi
      have := h i hi
      rw [Int32.toBitVec_and, BitVec.getLsbD_and, Int32.toBitVec_or, BitVec.getLsbD_or] at this
      rw [Int32.toBitVec_and, BitVec.getLsbD_and]
      revert this
      cases x.toBitVec.getLsbD i <;> cases y.toBitVec.getLsbD i <;> cases M.toBitVec.getLsbD i <;> decide
  · rintro ⟨h1, h2⟩ i hi
    have h1 := h1 i hi
    have h2 := h2 i hi
    rw [Int32.toBitVec_and, BitVec.getLsbD_and] at h1 h2
    rw [Int32.toBitVec_and, BitVec.getLsbD_and, Int32.toBitVec_or, BitVec.getLsbD_or]
    revert h1 h2
    cases x.toBitVec.getLsbD i <;> cases y.toBitVec.getLsbD i <;> cases M.toBitVec.getLsbD i <;> decide
theorem pl5_iff {a b c d e : Int32} : pl5 a b c d e = true ↔ (a ||| b ||| c ||| d ||| e) &&& (-2139062144) = 0 := by
  unfold pl5
  rw [or_z, or_z, or_z, or_z, Bool.and_eq_true, Bool.and_eq_true, Bool.and_eq_true, Bool.and_eq_true, decide_eq_true_eq, decide_eq_true_eq, decide_eq_true_eq, decide_eq_true_eq, decide_eq_true_eq]
  constructor
  · rintro ⟨h1, h2, h3, h4, h5⟩; exact ⟨⟨⟨⟨h1, h2⟩, h3⟩, h4⟩, h5⟩
  · rintro ⟨⟨⟨⟨h1, h2⟩, h3⟩, h4⟩, h5⟩; exact ⟨h1, h2, h3, h4, h5⟩
theorem byt_ok {x : Int32} {k : Nat} (hk : k < 4) (hx : x &&& (-2139062144) = 0) (h0 : ¬ byt x k = 0) : ∃ c : Nat, 1 ≤ c ∧ c ≤ 127 ∧ byt x k = nI c := by
  have hD : ∀ k, k < 4 → ((nI (8 * k) &&& 31).toBitVec.smod 32).toNat = 8 * k := by decide +kernel
  have h7 := sh_bit (m := x) (i := 7) (hD k hk) (by omega)
  have hx7 : x.toBitVec.getLsbD (8 * k + 7) = false := by
    have h1 : (x &&& (-2139062144)).toBitVec.getLsbD (8 * k + 7) = (0 : Int32).toBitVec.getLsbD (8 * k + 7) := congrArg (fun q : Int32 => q.toBitVec.getLsbD (8 * k + 7)) hx
    rw [Int32.toBitVec_and, BitVec.getLsbD_and] at h1
    have hM : ∀ k, k < 4 → (-2139062144 : Int32).toBitVec.getLsbD (8 * k + 7) = true := by decide +kernel
    have hZ : ∀ k, k < 4 → (0 : Int32).toBitVec.getLsbD (8 * k + 7) = false := by decide +kernel
    rw [hM k hk, hZ k hk, Bool.and_true] at h1
    exact h1
  rw [hx7] at h7
  have e : (byt x k).toBitVec = (x >>> (nI (8 * k) &&& 31)).toBitVec &&& 127#32 := by
    unfold byt
    rw [Int32.toBitVec_and]
    apply BitVec.eq_of_getLsbD_eq
    intro i hi
    rw [BitVec.getLsbD_and, BitVec.getLsbD_and]
    by_cases e : i = 7
    · rw [e, h7]; rfl
    · have : ∀ i, i < 32 → i ≠ 7 → (255 : Int32).toBitVec.getLsbD i = (127#32).getLsbD i := by decide +kernel
      rw [this i hi e]
  have hle : (byt x k).toBitVec.toNat ≤ 127 := by
    rw [e, BitVec.toNat_and]
    exact Nat.le_trans Nat.and_le_right (by decide)
  have hv : byt x k = nI (byt x k).toBitVec.toNat := by
    apply Int32.toBitVec_inj.mp
    show _ = BitVec.ofNat 32 _
    rw [BitVec.ofNat_toNat, BitVec.setWidth_eq]
  refine ⟨(byt x k).toBitVec.toNat, ?_, hle, hv⟩
  rcases Nat.eq_zero_or_pos (byt x k).toBitVec.toNat with h | h
  · rw [h] at hv
    exact absurd hv h0
  · exact h
theorem lowS_ok : ∀ c : Nat, c < 128 → 1 ≤ c → 1 ≤ (lowS (nI c)).toNatClampNeg ∧ (lowS (nI c)).toNatClampNeg ≤ 127 ∧ lowS (nI c) = nI (lowS (nI c)).toNatClampNeg := by decide +kernel
theorem sg_ap {x : Int32} (hx : x &&& (-2139062144) = 0) {p : (Nat → Int32) × Nat} (hp : sgOk p.1 p.2) : ∀ k, k ≤ 4 → sgOk (apS x p k).1 (apS x p k).2
  | 0, _ => hp
  | k + 1, hk => by
    have ih := sg_ap hx hp k (by omega)
    unfold apS
    split
    · exact ih
    · rename_i h0
      intro j hj
      dsimp only at hj ⊢
      by_cases e : j = (apS x p k).2
      · rw [e, up_s]
        obtain ⟨c, c1, c2, c3⟩ := byt_ok (by omega) hx h0
        obtain ⟨l1, l2, l3⟩ := lowS_ok c (by omega) c1
        exact ⟨_, l1, l2, by rw [c3]; exact l3⟩
      · rw [up_n e]
        exact ih j (by omega)
theorem sg_ap5 {a b c d e : Int32} (h : pl5 a b c d e = true) {p : (Nat → Int32) × Nat} (hp : sgOk p.1 p.2) : sgOk (ap5 a b c d e p).1 (p.2 + cn5 a b c d e) := by
  rw [← ap5_n]
  unfold pl5 at h
  rw [Bool.and_eq_true, Bool.and_eq_true, Bool.and_eq_true, Bool.and_eq_true, decide_eq_true_eq, decide_eq_true_eq, decide_eq_true_eq, decide_eq_true_eq, decide_eq_true_eq] at h
  obtain ⟨h1, h2, h3, h4, h5⟩ := h
  unfold ap5
  exact sg_ap h5 (sg_ap h4 (sg_ap h3 (sg_ap h2 (sg_ap h1 hp 4 (by omega)) 4 (by omega)) 4 (by omega)) 4 (by omega)) 4 (by omega)
/-! chains -/
theorem chE_mono {p : Int32 → Int32} : ∀ k v, chE p k v → chE p (k + 1) v
  | 0, v, h => Or.inl h
  | k + 1, v, h => by
    rcases h with h | h
    · exact Or.inl h
    · exact Or.inr (chE_mono k _ h)
theorem chE_up {p : Int32 → Int32} {k v} (h : chE p k v) : ∀ j, chE p (k + j) v
  | 0 => h
  | j + 1 => chE_mono _ _ (chE_up h j)
theorem uN_s {p : Int32 → Int32} {a v : Int32} {k : Nat} (hv : ¬ v = -1) : uN p a (k + 1) v = (decide (v = a) || uN p a k (p v)) := by
  show (if v = -1 then false else if v = a then true else uN p a k (p v)) = _
  rw [if_neg hv]
  by_cases e : v = a
  · rw [if_pos e, decide_eq_true e]; rfl
  · rw [if_neg e, decide_eq_false e]; rfl
theorem uN_m1 {p : Int32 → Int32} {a : Int32} : ∀ k, uN p a k (-1) = false
  | 0 => rfl
  | k + 1 => if_pos rfl
theorem uN_mono {p : Int32 → Int32} {a : Int32} : ∀ k v, uN p a k v = true → uN p a (k + 1) v = true
  | 0, v, h => by cases h
  | k + 1, v, h => by
    by_cases hv : v = -1
    · rw [hv, uN_m1] at h; cases h
    · rw [uN_s hv, Bool.or_eq_true] at h ⊢
      rcases h with h | h
      · exact Or.inl h
      · exact Or.inr (uN_mono k _ h)
theorem uN_chE {p : Int32 → Int32} {a : Int32} : ∀ j k v, uN p a j v = true → chE p k v → chE p k a
  | 0, k, v, h, _ => by cases h
  | j + 1, k, v, h, hc => by
    by_cases hv : v = -1
    · rw [hv, uN_m1] at h; cases h
    · rw [uN_s hv, Bool.or_eq_true] at h
      rcases h with h | h
      · rw [← of_decide_eq_true h]; exact hc
      · match k, hc with
        | 0, hc => exact absurd hc hv
        | k + 1, hc =>
          rcases hc with hc | hc
          · exact absurd hc hv
          · exact chE_mono _ _ (uN_chE j k _ h hc)
theorem noCyc {p : Int32 → Int32} {a : Int32} (ha : ¬ a = -1) (j : Nat) : ∀ k, chE p k a → uN p a j (p a) = false
  | 0, h => absurd h ha
  | k + 1, h => by
    rcases h with h | h
    · exact absurd h ha
    · cases hu : uN p a j (p a) with
      | false => rfl
      | true => rw [noCyc ha j k (uN_chE j k _ hu h)] at hu; cases hu
theorem nd_len : ∀ (L U : List Nat), L.Nodup → (∀ x ∈ L, x ∈ U) → L.length ≤ U.length
  | [], U, _, _ => Nat.zero_le _
  | x :: L, U, hn, hs => by
    obtain ⟨h1, h2⟩ := List.nodup_cons.mp hn
    have hx : x ∈ U := hs x List.mem_cons_self
    have h3 := nd_len L (U.erase x) h2 (fun y hy => (List.mem_erase_of_ne (a := y) (b := x) (fun e => h1 (by rw [← e]; exact hy))).mpr (hs y (List.mem_cons_of_mem _ hy)))
    have h4 := List.length_erase_of_mem hx
    have h5 : 0 < U.length := List.length_pos_of_mem hx
    show L.length + 1 ≤ _
    omega
theorem ch16 {p : Int32 → Int32} (hp : ∀ v, okv v → okv (p v)) {K : Nat} : ∀ (m : Nat) (S : List Nat), S.Nodup → (∀ x ∈ S, x < 16) → S.length + m = 16 → ∀ v, okv v → chE p K v → (∀ x ∈ S, ∀ j, uN p (nI x) j v = false) → chE p m v
  | 0, S, hn, hs, hl, v, hv, _, hav => by
    rcases hv with hv | ⟨b, hb, rfl⟩
    · exact hv
    · by_cases hm : b ∈ S
      · have := hav b hm 1
        rw [uN_s (fun e => by have := m1_lt (n := b) (by omega); rw [e] at this; exact absurd this (by decide)), decide_eq_true rfl] at this
        cases this
      · have := nd_len (b :: S) (List.range 16) (List.nodup_cons.mpr ⟨hm, hn⟩) (fun x hx => by
          rcases List.mem_cons.mp hx with rfl | hx
          · exact List.mem_range.mpr hb
          · exact List.mem_range.mpr (hs x hx))
        rw [List.length_cons, List.length_range] at this
        omega
  | m + 1, S, hn, hs, hl, v, hv, hc, hav => by
    by_cases h1 : v = -1
    · exact Or.inl h1
    · obtain ⟨b, hb, rfl⟩ := hv.resolve_left h1
      refine Or.inr (ch16 hp (K := K) m (b :: S) (List.nodup_cons.mpr ⟨fun hm => ?_, hn⟩) (fun x hx => ?_) (by rw [List.length_cons]; omega) _ (hp _ (Or.inr ⟨b, hb, rfl⟩)) ?_ (fun x hx j => ?_))
      · have := hav b hm 1
        rw [uN_s h1, decide_eq_true rfl] at this
        cases this
      · rcases List.mem_cons.mp hx with rfl | hx
        · exact hb
        · exact hs x hx
      · match K, hc with
        | 0, hc => exact absurd hc h1
        | K + 1, hc => exact chE_mono _ _ (hc.resolve_left h1)
      · rcases List.mem_cons.mp hx with rfl | hx
        · exact noCyc h1 j K hc
        · have := hav x hx (j + 1)
          rw [uN_s h1, Bool.or_eq_false_iff] at this
          exact this.2
theorem ch_same {p p' : Int32 → Int32} (hp : ∀ v, okv v → okv (p v)) (he : ∀ v, okv v → p' v = p v) : ∀ k v, okv v → chE p k v → chE p' k v
  | 0, v, _, h => h
  | k + 1, v, hv, h => by
    rcases h with h | h
    · exact Or.inl h
    · exact Or.inr (by rw [he v hv]; exact ch_same hp he k _ (hp v hv) h)
theorem ch_av {p p' : Int32 → Int32} {a : Int32} (hp : ∀ v, okv v → okv (p v)) (he : ∀ v, okv v → ¬ v = -1 → ¬ v = a → p' v = p v) : ∀ k v, okv v → chE p k v → uN p a k v = false → chE p' k v
  | 0, v, _, h, _ => h
  | k + 1, v, hv, h, hu => by
    by_cases h1 : v = -1
    · exact Or.inl h1
    · rw [uN_s h1, Bool.or_eq_false_iff, decide_eq_false_iff_not] at hu
      exact Or.inr (by rw [he v hv h1 hu.1]; exact ch_av hp he k _ (hp v hv) (h.resolve_left h1) hu.2)
theorem ch_new {p p' : Int32 → Int32} {a b : Int32} (hp : ∀ v, okv v → okv (p v)) (hp' : ∀ v, okv v → okv (p' v)) (he : ∀ v, okv v → ¬ v = -1 → ¬ v = a → p' v = p v) (ha : p' a = b) (hb : okv b) (hu : uN p a 16 b = false) (hc : ∀ v, okv v → chE p 16 v) : ∀ v, okv v → chE p' 16 v := by
  have h16 : chE p' 16 b := ch_av hp he 16 b hb (hc b hb) hu
  have hK : ∀ k v, okv v → chE p k v → chE p' (k + 17) v := by
    intro k
    induction k with
    | zero => intro v _ h; exact Or.inl h
    | succ k ih =>
      intro v hv h
      by_cases h1 : v = -1
      · exact Or.inl h1
      · have h2 := h.resolve_left h1
        show chE p' (k + 17 + 1) v
        by_cases h3 : v = a
        · have h4 : chE p' 17 v := Or.inr (by rw [h3, ha]; exact h16)
          have h5 := chE_up h4 (k + 1)
          rw [show 17 + (k + 1) = k + 17 + 1 by omega] at h5
          exact h5
        · exact Or.inr (by rw [he v hv h1 h3]; exact ih _ (hp v hv) h2)
  intro v hv
  exact ch16 hp' (K := 16 + 17) 16 [] List.nodup_nil (fun x hx => by cases hx) rfl v hv (hK 16 v hv (hc v hv)) (fun x hx => by cases hx)
theorem uN_same {p p' : Int32 → Int32} {a : Int32} (hp : ∀ v, okv v → okv (p v)) (he : ∀ v, okv v → p' v = p v) : ∀ k v, okv v → uN p' a k v = uN p a k v
  | 0, v, _ => rfl
  | k + 1, v, hv => by
    by_cases h1 : v = -1
    · rw [h1, uN_m1, uN_m1]
    · rw [uN_s h1, uN_s h1, he v hv, uN_same hp he k _ (hp v hv)]
theorem pO_same {tp np : Nat → Int32} (h : ∀ j, j < 64 → tp j = np j) {f : Nat} (hf : f < 4) : ∀ v, okv v → pO tp f v = pO np f v := by
  intro v hv
  unfold pO
  rcases hv with rfl | ⟨b, hb, rfl⟩
  · rw [if_pos rfl, if_pos rfl]
  · rw [nI_clamp (by omega), h _ (by omega)]
theorem okv_ne {b : Nat} (hb : b < 16) : ¬ nI b = -1 := fun e => by
  have := m1_lt (n := b) (by omega)
  rw [e] at this
  exact absurd this (by decide)
section J2
variable {l : Launch} {c : stF} {d : stM}
theorem jv_right (hl : l.stackTraces = false) (hJ : Jn c d) (x1 x2 w : Int32) (hw : w = 0 ∨ w = 1) : jL l Jn 1 M_Fs_right M_Mo_right [.int x1, .int x2, .int w] [x_ns] c d := by
  obtain ⟨⟨pf, pn⟩, ⟨sw, wc, sv, fy, ly, ro, ss, aw, dw⟩, tp, ru, qu, to, al⟩ := c
  obtain ⟨mt, ⟨ma, mn⟩, ⟨nr, ny, nl, nt, nv, np, nf, nu, nh⟩, mq, mo, mx⟩ := d
  have hJ0 := hJ
  obtain ⟨m, n, ⟨h60, h32⟩, hp, ⟨e4, e5⟩, e6, hW, ⟨e7, e8⟩, hV, hT, hY, hN, h⟩ := hJ
  dsimp only at e4 e5 hV h hp e6 hW e7 e8 hT hY hN
  subst e4 e5
  obtain ⟨on, rfl⟩ : ∃ on : Bool, w = bI on := by
    rcases hw with rfl | rfl
    · exact ⟨false, rfl⟩
    · exact ⟨true, rfl⟩
  have hcd : ((¬ x1 < 0 ∧ x1 < nI n) ∧ ¬ x2 < 0 ∧ x2 < 8) ↔ (isR x1 n && wi x2 0 7) = true := by
    rw [Bool.and_eq_true, isR_iff, rg8]
  by_cases hc : (¬ x1 < 0 ∧ x1 < nI n) ∧ ¬ x2 < 0 ∧ x2 < 8
  · have hcM := hcd.mp hc
    obtain ⟨r, hr, rfl⟩ := ab_ofI hc.1.1 hc.1.2 (by omega)
    obtain ⟨k, hk, rfl⟩ := ab_ofI (n := 8) hc.2.1 hc.2.2 (by omega)
    have ecl : (nI r).toNatClampNeg = r := nI_clamp (by omega)
    have ecl2 : (nI k).toNatClampNeg = k := nI_clamp (by omega)
    have hnh := hN r (by omega) k hk
    have hbb : ∀ a b : Bool, bI a = bI b ↔ a = b := by decide
    by_cases hs : bI (seen (ro r) (nI k)) = bI on
    · have hso : seen (ro r) (nI k) = on := (hbb _ _).mp hs
      refine jL_det (.inl (some (.int 0))) _ (some (.int 0)) (0, (ma, mn), (nI n, ny, nl, nt, nv, np, nf, nu, upd nh (8 * r + k) (bI (!on))), mq, mo, mx) (by decide) (by decide) (fun z => ab_K_mono (fun q hq => by rw [if_pos hc, ecl, if_pos hs] at hq; exact hq) (k_Fs_right hl h32)) (fun z => ab_K_mono (fun q hq => ?_) (k_Mo_right hl h32)) ⟨_, rfl⟩ (okR_v rfl) ?_
      · have hne : decide (nh (8 * r + k) = bI on) = false := by
          rw [hnh, hso]
          cases on <;> decide
        rw [if_pos hcM, ecl, ecl2, hne] at hq
        exact hq
      · refine ⟨m, n, ⟨h60, h32⟩, hp, ⟨rfl, rfl⟩, e6, hW, ⟨e7, e8⟩, hV, hT, hY, fun r' hr' k' hk' => ?_, h⟩
        show upd nh (8 * r + k) (bI (!on)) (8 * r' + k') = bI (!seen (ro r') (nI k'))
        by_cases e : 8 * r' + k' = 8 * r + k
        · have e1 : r' = r := by omega
          have e2 : k' = k := by omega
          subst e1 e2
          rw [up_s, hso]
        · rw [up_n e]
          exact hN r' hr' k' hk'
    · have hso : seen (ro r) (nI k) = !on := by
        have : ¬ seen (ro r) (nI k) = on := fun q => hs (by rw [q])
        revert this
        cases seen (ro r) (nI k) <;> cases on <;> decide
      refine jL_det (.inl (some (.int 1))) ((pf, pn), (sw, wc, sv, fy, ly, upd ro r (ro r ^^^ (1 <<< (nI k &&& 31))), nI n, aw, dw), tp, ru, qu, to, al) (some (.int 1)) (0, (ma, mn), (nI n, ny, nl, nt, nv, np, nf, nu, upd nh (8 * r + k) (bI (!on))), mq, mo, mx) (by decide) (by decide) (fun z => ab_K_mono (fun q hq => by rw [if_pos hc, ecl, if_neg hs] at hq; exact hq) (k_Fs_right hl h32)) (fun z => ab_K_mono (fun q hq => ?_) (k_Mo_right hl h32)) ⟨_, rfl⟩ (okR_v rfl) ?_
      · have hne : decide (nh (8 * r + k) = bI on) = true := by
          rw [hnh, hso]
          cases on <;> decide
        rw [if_pos hcM, ecl, ecl2, hne] at hq
        exact hq
      · refine ⟨m, n, ⟨h60, h32⟩, hp, ⟨rfl, rfl⟩, e6, hW, ⟨e7, e8⟩, hV, hT, hY, fun r' hr' k' hk' => ?_, h⟩
        show upd nh (8 * r + k) (bI (!on)) (8 * r' + k') = bI (!seen (upd ro r (ro r ^^^ (1 <<< (nI k &&& 31))) r') (nI k'))
        by_cases e1 : r' = r
        · subst e1
          rw [up_s, seen_xor _ hk hk']
          by_cases e2 : k' = k
          · subst e2
            rw [up_s, hso, decide_eq_true rfl]
            cases on <;> rfl
          · rw [up_n (by omega), hN r' hr' k' hk', decide_eq_false (fun q => e2 q.symm), Bool.xor_false]
        · rw [up_n e1, up_n (by omega)]
          exact hN r' hr' k' hk'
  · exact jL_det (.inr x_ns) _ (some (.int 0)) (1, (ma, mn), (nI n, ny, nl, nt, nv, np, nf, nu, nh), mq, mo, mx) (by decide) (by decide) (fun z => ab_K_mono (fun q hq => by rw [if_neg hc] at hq; exact hq) (k_Fs_right hl h32)) (fun z => ab_K_mono (fun q hq => by rw [if_neg (fun q => hc (hcd.mpr q))] at hq; exact hq) (k_Mo_right hl h32)) ⟨_, rfl⟩ (okR_1 rfl) hJ0
theorem okR_is {v : Option Value} {me : Int32} (h : me = 2) : okR [x_ia, x_is] (.inr x_is) v me := Or.inr ⟨x_is, by simp, rfl, by rw [h]; decide +kernel⟩
theorem jv_feed (hl : l.stackTraces = false) (hJ : Jn c d) (a1 a2 a3 a4 a5 : Int32) : jL l Jn 0 M_Fs_feed M_Mo_feed [.int a1, .int a2, .int a3, .int a4, .int a5] [x_ia, x_is] c d := by
  obtain ⟨⟨pf, pn⟩, ⟨sw, wc, sv, fy, ly, ro, ss, aw, dw⟩, tp, ru, qu, to, al⟩ := c
  obtain ⟨mt, ⟨ma, mn⟩, ⟨nr, ny, nl, nt, nv, np, nf, nu, nh⟩, mq, mo, mx⟩ := d
  have hJ0 := hJ
  obtain ⟨m, n, ⟨h60, h32⟩, ⟨e1, e2, e3, hsg⟩, h⟩ := hJ
  dsimp only at e1 e2 e3 hsg h
  subst e1 e2 e3
  by_cases h1 : (a1 ||| a2 ||| a3 ||| a4 ||| a5) &&& (-2139062144) = 0
  · have hp5 := pl5_iff.mpr h1
    by_cases h2 : 60 < m + cn5 a1 a2 a3 a4 a5
    · exact jL_det (.inr x_is) _ (some (.int 0)) (2, (pf, nI m), (nr, ny, nl, nt, nv, np, nf, nu, nh), mq, mo, mx) (by decide) (by decide) (fun z => ab_K_mono (fun q hq => by rw [if_neg (fun q => q h1), if_pos h2] at hq; exact hq) (k_Fs_feed (p := (pf, m)) hl h60)) (fun z => ab_K_mono (fun q hq => by rw [if_pos hp5, if_pos h2] at hq; exact hq) (k_Mo_feed (p := (pf, m)) hl h60)) ⟨_, rfl⟩ (okR_is rfl) hJ0
    · refine jL_det (.inl (some (.int (nI (m + cn5 a1 a2 a3 a4 a5))))) (((ap5 a1 a2 a3 a4 a5 (pf, m)).1, nI (m + cn5 a1 a2 a3 a4 a5)), (sw, wc, sv, fy, ly, ro, ss, aw, dw), tp, ru, qu, to, al) (some (.int (nI (m + cn5 a1 a2 a3 a4 a5)))) (0, ((ap5 a1 a2 a3 a4 a5 (pf, m)).1, nI (m + cn5 a1 a2 a3 a4 a5)), (nr, ny, nl, nt, nv, np, nf, nu, nh), mq, mo, mx) (by decide) (by decide) (fun z => ab_K_mono (fun q hq => by rw [if_neg (fun q => q h1), if_neg h2] at hq; exact hq) (k_Fs_feed (p := (pf, m)) hl h60)) (fun z => ab_K_mono (fun q hq => by rw [if_pos hp5, if_neg h2] at hq; exact hq) (k_Mo_feed (p := (pf, m)) hl h60)) ⟨_, rfl⟩ (okR_v rfl) ?_
      exact ⟨m + cn5 a1 a2 a3 a4 a5, n, ⟨by omega, h32⟩, ⟨rfl, rfl, rfl, sg_ap5 (p := (pf, m)) hp5 hsg⟩, h⟩
  · exact jL_det (.inr x_ia) _ (some (.int 0)) (1, (pf, nI m), (nr, ny, nl, nt, nv, np, nf, nu, nh), mq, mo, mx) (by decide) (by decide) (fun z => ab_K_mono (fun q hq => by rw [if_pos h1] at hq; exact hq) (k_Fs_feed (p := (pf, m)) hl h60)) (fun z => ab_K_mono (fun q hq => by rw [if_neg (fun q => h1 (pl5_iff.mp q))] at hq; exact hq) (k_Mo_feed (p := (pf, m)) hl h60)) ⟨_, rfl⟩ (okR_c rfl) hJ0
theorem jv_parent (hl : l.stackTraces = false) (hJ : Jn c d) (x1 x2 x3 : Int32) : jL l Jn 1 M_Fs_parent M_Mo_parent [.int x1, .int x2, .int x3] [x_ns] c d := by
  obtain ⟨⟨pf, pn⟩, ⟨sw, wc, sv, fy, ly, ro, ss, aw, dw⟩, tp, ru, qu, to, al⟩ := c
  obtain ⟨mt, ⟨ma, mn⟩, ⟨nr, ny, nl, nt, nv, np, nf, nu, nh⟩, mq, mo, mx⟩ := d
  have hJ0 := hJ
  obtain ⟨m, n, ⟨h60, h32⟩, hp, e45, e6, hW, ⟨e7, e8⟩, hV, ⟨hTp, hq, hch⟩, h⟩ := hJ
  dsimp only at hV h hp e6 hW e7 e8 hTp hq hch e45
  have hqT : ∀ j, j < 64 → okv (tp j) := fun j hj => by rw [hTp j hj]; exact hq j hj
  have hcd : ((¬ x1 < 0 ∧ x1 < 4) ∧ (¬ x2 < 0 ∧ x2 < 16) ∧ (x3 = -1 ∨ ¬ x3 < 0 ∧ x3 < 16)) ↔ (wi x1 0 3 && (wi x2 0 15 && wi x3 (-1) 15)) = true := by
    rw [Bool.and_eq_true, Bool.and_eq_true, rg4, rg16, rgN]
  by_cases hc : (¬ x1 < 0 ∧ x1 < 4) ∧ (¬ x2 < 0 ∧ x2 < 16) ∧ (x3 = -1 ∨ ¬ x3 < 0 ∧ x3 < 16)
  · have hcM := hcd.mp hc
    have ok3 : okv x3 := rgO hc.2.2
    obtain ⟨f, hf4, rfl⟩ := ab_ofI (n := 4) hc.1.1 hc.1.2 (by omega)
    obtain ⟨a, ha, rfl⟩ := ab_ofI (n := 16) hc.2.1.1 hc.2.1.2 (by omega)
    have ecl : (nI f).toNatClampNeg = f := nI_clamp (by omega)
    have ecl2 : (nI a).toNatClampNeg = a := nI_clamp (by omega)
    have hpn : ∀ v, okv v → okv (pO np f v) := fun v hv => okv_pO hf4 hq hv
    have hcond : (x3 = nI a ∨ uN (pO tp f) (nI a) 16 (pO tp f x3) = true) ↔ (¬ x3 = -1 ∧ uN (pO np f) (nI a) 17 x3 = true) := by
      rw [pO_same hTp hf4 x3 ok3, uN_same hpn (pO_same hTp hf4) 16 _ (hpn x3 ok3)]
      by_cases h1 : x3 = -1
      · rw [h1]
        have : pO np f (-1) = -1 := if_pos rfl
        rw [this, uN_m1]
        constructor
        · rintro (q | q)
          · exact absurd q.symm (okv_ne ha)
          · cases q
        · rintro ⟨q, -⟩; exact absurd rfl q
      · rw [uN_s h1, Bool.or_eq_true, decide_eq_true_eq]
        exact ⟨fun q => ⟨h1, q⟩, fun q => q.2⟩
    by_cases h3 : x3 = nI a ∨ uN (pO tp f) (nI a) 16 (pO tp f x3) = true
    · exact jL_det (.inl (some (.int 0))) _ (some (.int 0)) (0, (ma, mn), (nr, ny, nl, nt, nv, np, nf, nu, nh), mq, mo, mx) (by decide) (by decide) (fun z => ab_K_mono (fun q hq => by rw [if_pos hc, ecl, if_pos h3] at hq; exact hq) (k_Fs_parent hl hqT)) (fun z => ab_K_mono (fun q hq => by rw [if_pos hcM, ecl, if_pos (hcond.mp h3)] at hq; exact hq) (k_Mo_parent hl hq hch)) ⟨_, rfl⟩ (okR_v rfl) hJ0
    · refine jL_det (.inl (some (.int 1))) ((pf, pn), (sw, wc, sv, fy, ly, ro, ss, aw, dw), upd tp (f * 16 + a) x3, ru, qu, to, al) (some (.int 1)) (0, (ma, mn), (nr, ny, nl, nt, nv, upd np (f * 16 + a) x3, nf, nu, nh), mq, mo, mx) (by decide) (by decide) (fun z => ab_K_mono (fun q hq => by rw [if_pos hc, ecl, ecl2, if_neg h3] at hq; exact hq) (k_Fs_parent hl hqT)) (fun z => ab_K_mono (fun q hq => by rw [if_pos hcM, ecl, ecl2, if_neg (fun q => h3 (hcond.mpr q))] at hq; exact hq) (k_Mo_parent hl hq hch)) ⟨_, rfl⟩ (okR_v rfl) ?_
      have hq' : ∀ j, j < 64 → okv (upd np (f * 16 + a) x3 j) := fun j hj => by
        by_cases e : j = f * 16 + a
        · rw [e, up_s]; exact ok3
        · rw [up_n e]; exact hq j hj
      refine ⟨m, n, ⟨h60, h32⟩, hp, e45, e6, hW, ⟨e7, e8⟩, hV, ⟨fun j hj => ?_, hq', fun g hg v hv => ?_⟩, h⟩
      · show upd tp (f * 16 + a) x3 j = upd np (f * 16 + a) x3 j
        by_cases e : j = f * 16 + a
        · rw [e, up_s, up_s]
        · rw [up_n e, up_n e]; exact hTp j hj
      · show chE (pO (upd np (f * 16 + a) x3) g) 16 v
        by_cases eg : g = f
        · subst eg
          have hnu : uN (pO np g) (nI a) 16 x3 = false := by
            cases hu : uN (pO np g) (nI a) 16 x3 with
            | false => rfl
            | true =>
              by_cases h1 : x3 = -1
              · rw [h1, uN_m1] at hu; cases hu
              · exact absurd (hcond.mpr ⟨h1, uN_mono 16 _ hu⟩) h3
          refine ch_new hpn (fun v hv => okv_pO hf4 hq' hv) (a := nI a) (b := x3) (fun w hw hw1 hw2 => ?_) ?_ ok3 hnu (hch g hg) v hv
          · obtain ⟨b, hb, rfl⟩ := hw.resolve_left hw1
            unfold pO
            rw [if_neg hw1, if_neg hw1, nI_clamp (by omega), up_n (fun e => hw2 (by rw [show b = a by omega]))]
          · unfold pO
            rw [if_neg (okv_ne ha), ecl2, up_s]
        · refine ch_same (p := pO np g) (fun w hw => okv_pO hg hq hw) (fun w hw => ?_) 16 v hv (hch g hg v hv)
          unfold pO
          rcases hw with rfl | ⟨b, hb, rfl⟩
          · rw [if_pos rfl, if_pos rfl]
          · rw [nI_clamp (by omega), up_n (by omega)]
  · exact jL_det (.inr x_ns) _ (some (.int 0)) (1, (ma, mn), (nr, ny, nl, nt, nv, np, nf, nu, nh), mq, mo, mx) (by decide) (by decide) (fun z => ab_K_mono (fun q hq => by rw [if_neg hc] at hq; exact hq) (k_Fs_parent hl hqT)) (fun z => ab_K_mono (fun q hq => by rw [if_neg (fun q => hc (hcd.mpr q))] at hq; exact hq) (k_Mo_parent hl hq hch)) ⟨_, rfl⟩ (okR_1 rfl) hJ0
end J2
