/-! THE TWO STATES TOGETHER: what holds between the class and the reference, ahead of every call -/
theorem ab_K_mono {l : Launch} {M : ab_M} {rm : Room} {rt : Nat × Nat} {as : List Value} {h : List ab_C} {Q Q' : ab_Y → Prop} (hq : ∀ r, Q r → Q' r) (hk : ab_K l M rm rt as h Q) : ab_K l M rm rt as h Q' := by
  intro D ca B ad0 p e ha hc1 hc2 s m args below hf happ hP hK
  obtain ⟨n, o, h1, h2, h3, h4⟩ := hk D ca B ad0 p e ha hc1 hc2 s m args below hf happ hP hK
  refine ⟨n, o, h1, h2, h3, ?_⟩
  obtain ⟨⟨⟨r, ad, g1, g2⟩, g3⟩, g4⟩ := h4
  exact ⟨⟨⟨r, ad, hq r g1, g2⟩, g3⟩, g4⟩
abbrev cnF (ny : Nat → Int32) (r : Nat) : Nat := (ny r).toNatClampNeg
abbrev lnF (nl : Nat → Int32) (v : Nat) : Nat := (nl v).toNatClampNeg
/-- the reference's word at v, as one number -/
def mw (nl nt : Nat → Int32) (v : Nat) : Int64 := lN (wV (cd (fun j => nt (10 * v + j))) (lnF nl v))
def wls (f : Nat → Int64) (b c : Nat) : List Int64 := (List.range c).map fun i => f (b + i)
def wdOk (nl nt : Nat → Int32) (v : Nat) : Prop := lnOk nl (lnF nl) v ∧ 1 ≤ lnF nl v ∧ ∀ j, j < lnF nl v → isLt (nt (10 * v + j)) = true
def jW (sw : Nat → Int64) (ny nl nt : Nat → Int32) (n : Nat) : Prop :=
  (∀ r, cnF ny r ≤ 12 ∧ ny r = nI (cnF ny r)) ∧ (∀ r, n ≤ r → cnF ny r = 0) ∧ (∀ r, r < n → ∀ i, i < cnF ny r → wdOk nl nt (12 * r + i)) ∧
  ∀ r, r < n → (∀ i j, i < j → j < cnF ny r → sw (r * 12 + i) < sw (r * 12 + j)) ∧ List.Perm (wls sw (r * 12) (cnF ny r)) (wls (mw nl nt) (12 * r) (cnF ny r))
def jP (np : Nat → Int32) : Prop := (∀ j, j < 64 → okv (np j)) ∧ ∀ f, f < 4 → ∀ v, okv v → chE (pO np f) 16 v
def jT (to : gt_to) (mo : gt_mo) : Prop := ∃ hs T : Nat, hs ≤ 32 ∧ T ≤ 8 ∧ to.2.2.1 = nI hs ∧ mo.2.1 = nI hs ∧ to.2.2.2.2.2 = nI T ∧ mo.1 = nI T ∧
  (∀ k, k < hs → ∃ r : Nat, r < 32 ∧ to.1 k = nI r ∧ mo.2.2.1 k = nI r ∧ to.2.1 k = mo.2.2.2.1 k ∧ ∀ t, t < T → to.2.2.2.1 (r * 8 + t) = mo.2.2.2.2.1 (8 * k + t)) ∧ ∀ j, j < 64 → to.2.2.2.2.1 j = mo.2.2.2.2.2.2.2 j
def jS (pf : Nat → Int32) (pn : Int32) (sw : Nat → Int64) (wc sv fy ly ro : Nat → Int32) (ss aw dw : Int32) (tp : Nat → Int32) (to : gt_to) (ma : Nat → Int32) (mn nr : Int32) (ny nl nt nv np nf nu nh : Nat → Int32) (mo : gt_mo) (m n : Nat) : Prop :=
  (m ≤ 60 ∧ n ≤ 32) ∧ (pf = ma ∧ pn = nI m ∧ mn = nI m ∧ sgOk ma m) ∧ (ss = nI n ∧ nr = nI n) ∧ wc = ny ∧ jW sw ny nl nt n ∧ (aw = nI (sumT (cnF ny) n) ∧ dw = nI (dfS nt (lnF nl) (cnF ny) (12 * n))) ∧
  (∀ j, j < 128 → sv j = nv j ∧ okv (nv j)) ∧ ((∀ j, j < 64 → tp j = np j) ∧ jP np) ∧ ((∀ r, r < 32 → fy r = nf r ∧ (nf r = -1 ∨ ¬ nu r < nf r)) ∧ ly = nu) ∧ (∀ r, r < 32 → ∀ k, k < 8 → nh (8 * r + k) = bI (!seen (ro r) (nI k))) ∧ jT to mo
def Jn (c : stF) (d : stM) : Prop := ∃ m n : Nat, jS c.1.1 c.1.2 c.2.1.1 c.2.1.2.1 c.2.1.2.2.1 c.2.1.2.2.2.1 c.2.1.2.2.2.2.1 c.2.1.2.2.2.2.2.1 c.2.1.2.2.2.2.2.2.1 c.2.1.2.2.2.2.2.2.2.1 c.2.1.2.2.2.2.2.2.2.2 c.2.2.1 c.2.2.2.2.2.1
  d.2.1.1 d.2.1.2 d.2.2.1.1 d.2.2.1.2.1 d.2.2.1.2.2.1 d.2.2.1.2.2.2.1 d.2.2.1.2.2.2.2.1 d.2.2.1.2.2.2.2.2.1 d.2.2.1.2.2.2.2.2.2.1 d.2.2.1.2.2.2.2.2.2.2.1 d.2.2.1.2.2.2.2.2.2.2.2 d.2.2.2.2.1 m n
theorem jL_det {l : Launch} {kd : Nat} {MF MM : ab_M} {as : List Value} {Es : List String} {c : stF} {d : stM} {rm rm2 : Room} (o : ab_O) (c1 : stF) (v : Option Value) (d1 : stM) (h1 : rm.frames ≤ 10 ∧ rm.cells ≤ 1 ∧ rm.slots ≤ 6 ∧ rm.locals ≤ 264) (h2 : rm2.frames ≤ 11 ∧ rm2.cells = 0 ∧ rm2.slots = 0 ∧ rm2.locals ≤ 320)
    (hF : ∀ z, ab_K l MF rm (0, 0) (.ref 1 :: as) (hfc c z) (fun q => q = (o, hfc c1 z))) (hM : ∀ z, ab_K l MM rm2 (0, 0) (.ref 31 :: as) (hfc c1 (hmc d z)) (fun q => q = (.inl v, hfc c1 (hmc d1 z)))) (hV : okV kd v) (hR : okR Es o v d1.1) (hJ : Jn c1 d1) : jL l Jn kd MF MM as Es c d := by
  refine ⟨rm, rm2, fun o' c' => o' = o ∧ c' = c1, h1, h2, fun z => ab_K_mono (fun r hr => ?_) (hF z), fun o' c' h => ?_⟩
  · subst hr; exact ⟨c1, rfl, rfl, rfl⟩
  · obtain ⟨rfl, rfl⟩ := h
    refine ⟨?_, fun z => ab_K_mono (fun r hr => ⟨v, d1, hr, hV, hR, hJ⟩) (hM z)⟩
    rcases hR with ⟨e, -⟩ | ⟨E, hE, e, -⟩
    · refine Or.inl ?_
      subst e
      unfold okV at hV
      split at hV
      · exact congrArg Sum.inl hV
      · rename_i h9
        obtain ⟨b, hb⟩ := hV
        split
        · exact (h9 rfl).elim
        · exact ⟨b, congrArg Sum.inl hb⟩
    · exact Or.inr ⟨E, hE, e⟩
theorem okR_v {Es : List String} {v : Option Value} {me : Int32} (h : me = 0) : okR Es (.inl v) v me := Or.inl ⟨rfl, h⟩
theorem okR_1 {E : String} {v : Option Value} {me : Int32} (h : me = 1) : okR [E] (.inr E) v me := Or.inr ⟨E, List.mem_singleton.mpr rfl, rfl, by rw [h]; unfold exN; rw [List.idxOf_cons_self]; rfl⟩
theorem jv_init : jInit Jn := by
  intro sv fy ro tp nv np nf p1 p2 p3 p4 p5 p6 p7
  have hc0 : ∀ r, cnF (fun _ => 0) r = 0 := fun r => by show (0 : Int32).toNatClampNeg = 0; decide
  have hpO : ∀ f, f < 4 → ∀ v, okv v → pO np f v = -1 := by
    intro f hf v hv
    unfold pO
    rcases hv with rfl | ⟨a, ha, rfl⟩
    · rw [if_pos rfl]
    · split
      · rfl
      · rw [nI_clamp (by omega)]
        exact p6 _ (by omega)
  refine ⟨0, 0, ⟨by omega, by omega⟩, ⟨rfl, rfl, rfl, fun j hj => by omega⟩, ⟨rfl, rfl⟩, rfl, ?_, ⟨rfl, rfl⟩, fun j hj => ⟨(p1 j hj).trans (p5 j hj).symm, Or.inl (p5 j hj)⟩, ⟨fun j hj => (p4 j hj).trans (p6 j hj).symm, fun j hj => Or.inl (p6 j hj), fun f hf v hv => ?_⟩, ⟨fun r hr => ⟨(p2 r hr).trans (p7 r hr).symm, Or.inl (p7 r hr)⟩, rfl⟩, fun r hr k hk => ?_, ?_⟩
  · refine ⟨fun r => ?_, fun r _ => hc0 r, fun r hr => by omega, fun r hr => by omega⟩
    show cnF (fun _ => 0) r ≤ 12 ∧ (0 : Int32) = nI (cnF (fun _ => 0) r)
    rw [hc0 r]
    exact ⟨by omega, rfl⟩
  · exact Or.inr (by rw [hpO f hf v hv]; exact Or.inl rfl)
  · show (0 : Int32) = bI (!seen (ro r) (nI k))
    rw [p3 r hr]
    have : ∀ k, k < 8 → (0 : Int32) = bI (!seen 255 (nI k)) := by decide
    exact this k hk
  · refine ⟨0, 0, by omega, by omega, rfl, rfl, rfl, rfl, fun k hk => by omega, fun j hj => rfl⟩
section J0
variable {l : Launch} (hl : l.stackTraces = false) {c : stF} {d : stM} (hJ : Jn c d)
theorem jv_clear (hl : l.stackTraces = false) (hJ : Jn c d) : jL l Jn 0 M_Fs_clear M_Mo_clear [] [] c d := by
  obtain ⟨⟨pf, pn⟩, ⟨sw, wc, sv, fy, ly, ro, ss, aw, dw⟩, tp, ru, qu, to, al⟩ := c
  obtain ⟨mt, ⟨ma, mn⟩, ⟨nr, ny, nl, nt, nv, np, nf, nu, nh⟩, mq, mo, mx⟩ := d
  obtain ⟨m, n, ⟨h60, h32⟩, ⟨e1, e2, e3, hsg⟩, h⟩ := hJ
  dsimp only at e1 e2 e3 hsg h
  subst e1 e2 e3
  refine jL_det (.inl (some (.int (nI m)))) ((pf, 0), (sw, wc, sv, fy, ly, ro, ss, aw, dw), tp, ru, qu, to, al) (some (.int (nI m))) (0, (pf, 0), (nr, ny, nl, nt, nv, np, nf, nu, nh), mq, mo, mx) (by decide) (by decide) (fun z => ab_K_mono (fun r hr => hr) (k_Fs_clear hl)) (fun z => ab_K_mono (fun r hr => hr) (k_Mo_clear hl)) ⟨_, rfl⟩ (okR_v rfl) ?_
  exact ⟨0, n, ⟨by omega, h32⟩, ⟨rfl, rfl, rfl, fun j hj => by omega⟩, h⟩
theorem jv_hit (hl : l.stackTraces = false) (hJ : Jn c d) (x1 x2 : Int32) : jL l Jn 0 M_Fs_hit M_Mo_hit [.int x1, .int x2] [x_ns] c d := by
  obtain ⟨⟨pf, pn⟩, ⟨sw, wc, sv, fy, ly, ro, ss, aw, dw⟩, tp, ru, qu, ⟨hr, hp, hz, ts, vc, tt⟩, al⟩ := c
  obtain ⟨mt, ⟨ma, mn⟩, ⟨nr, ny, nl, nt, nv, np, nf, nu, nh⟩, mq, ⟨vt, vh, vr, vs, vp, vo, vx, vn⟩, mx⟩ := d
  have hJ0 := hJ
  obtain ⟨m, n, h1, h2, h3, h4, h5, h6, h7, h8, h9, h10, hs, T, g1, g2, g3, g4, g5, g6, g7, g8⟩ := hJ
  dsimp only at g3 g4 g5 g6 g7 g8
  subst g3 g4
  have hwi : ∀ x : Int32, (x = 0 ∨ x = 1) ↔ wi x 0 1 = true := by
    intro x
    unfold wi
    rw [Bool.and_eq_true, decide_eq_true_eq, decide_eq_true_eq, Int32.lt_iff_toInt_lt, Int32.lt_iff_toInt_lt, ← Int32.toInt_inj, ← Int32.toInt_inj]
    have e0 : (0 : Int32).toInt = 0 := rfl
    have e1 : (1 : Int32).toInt = 1 := rfl
    omega
  have hcd : ((¬ x1 < 0 ∧ x1 < nI hs) ∧ (x2 = 0 ∨ x2 = 1)) ↔ (isR x1 hs && wi x2 0 1) = true := by
    rw [hwi, Bool.and_eq_true]
    unfold isR
    rw [Bool.and_eq_true, decide_eq_true_eq, decide_eq_true_eq]
  by_cases hc : (¬ x1 < 0 ∧ x1 < nI hs) ∧ (x2 = 0 ∨ x2 = 1)
  · obtain ⟨k, hk, rfl⟩ := ab_ofI hc.1.1 hc.1.2 (by omega)
    obtain ⟨r, hr32, q1, q2, q3, -⟩ := g7 k hk
    have ecl : (nI k).toNatClampNeg = k := nI_clamp (by omega)
    refine jL_det (.inl (some (.int (if x2 = 0 then hr (nI k).toNatClampNeg else hp (nI k).toNatClampNeg)))) _ (some (.int (if x2 = 0 then vr (nI k).toNatClampNeg else vs (nI k).toNatClampNeg))) (0, (ma, mn), (nr, ny, nl, nt, nv, np, nf, nu, nh), mq, (vt, nI hs, vr, vs, vp, vo, vx, vn), mx) (by decide) (by decide) (fun z => ab_K_mono (fun r hr => by rw [if_pos hc] at hr; exact hr) (k_Fs_hit hl g1)) (fun z => ab_K_mono (fun r hr => by rw [if_pos (hcd.mp hc)] at hr; exact hr) (k_Mo_hit hl g1)) ⟨_, rfl⟩ ?_ hJ0
    rw [ecl, q1, q2, q3]
    exact okR_v rfl
  · refine jL_det (.inr x_ns) _ (some (.int 0)) (1, (ma, mn), (nr, ny, nl, nt, nv, np, nf, nu, nh), mq, (vt, nI hs, vr, vs, vp, vo, vx, vn), mx) (by decide) (by decide) (fun z => ab_K_mono (fun r hr => by rw [if_neg hc] at hr; exact hr) (k_Fs_hit hl g1)) (fun z => ab_K_mono (fun r hr => by rw [if_neg (fun q => hc (hcd.mpr q))] at hr; exact hr) (k_Mo_hit hl g1)) ⟨_, rfl⟩ (okR_1 rfl) hJ0
end J0
