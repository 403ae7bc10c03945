/-! WHAT A PATH SAYS OF THE MACHINE -/
/-- program, launch, environment, room, first state, method, arguments, frames below, its record and code; the tables' numbers, the base, how many cells were told of at the start and where they lay, the script, what is to be reached -/
abbrev ab_X : Type := Program × Launch × Env × Room × State × MethodId × Array Value × List Frame × Method × Code × va_G × (FieldType → ClassId) × Nat × Nat × (Nat → Nat) × ab_S × (State → Prop)
/-- class, name, bytes, locals, answer, a constructor, the table, the handlers -/
abbrev ab_M : Type := String × MethodName × ByteArray × Nat × Option FieldType × Bool × List (Nat × ab_I) × List (Nat × Nat × Nat × Nat)
def ab_Mok (M : ab_M) : Prop := M.2.2.2.2.2.2.1.all (ab_chk M.1 M.2.2.1 M.2.2.2.1 M.2.2.2.2.2.1) = true
def ab_is (X : ab_X) (M : ab_M) : Prop := match X with
  | (p, _, _, R, s, m, args, _, meth, c, _) => p.tables.exec = Jvm.exec ∧ c.code = M.2.2.1 ∧ c.maxLocals = M.2.2.2.1 ∧ s.vm.findClass M.1 = some m.cls ∧ (∀ w ∈ ab_G, w.before args s = true) ∧ meth.locks = false ∧ (M.2.2.2.2.2.1 = true → meth.name = "<init>") ∧ 1 ≤ R.frames ∧ 21 ≤ R.locals
def ab_R (D : va_G) (ca : FieldType → ClassId) (B n0 : Nat) (ad0 : Nat → Nat) (sc : ab_S) (s : State) (ad : Nat → Nat) (h : List ab_C) (H : Heap) (locs : List Loc) : Prop :=
  va_K D ab_cl (ab_tys ca) s ∧ va_P D ab_cl (ab_w ad ca h) H ∧ va_D (fun q => B ≤ q) (ab_w ad ca h) ∧ va_S (fun q => B ≤ q) s.heap H locs ∧ B ≤ s.heap.size ∧ (∀ k, k ≤ n0 → ad k = ad0 k) ∧ n0 ≤ h.length ∧ ∀ n f, sc = some (n, f) → va_X (ad 0) n f s s.heap ∧ ad 0 < B
def ab_W (X : ab_X) (M : ab_M) (F : ab_F) : Prop := match X with
  | (p, l, e, R, s, m, args, below, meth, c, D, ca, B, n0, ad0, sc, Q) => ∀ (ad : Nat → Nat) (H : Heap) (locs : List Loc) (ls : Array Slot), ab_R D ca B n0 ad0 sc s ad F.2.2.2.1 H locs → lv_has ls M.2.2.2.1 (ab_l ad F.2.1) →
      W p l e R s m args below meth c H locs F.2.2.2.2.1 F.2.2.2.2.2 Q (F0 m F.1 ls (F.2.2.1.map (ab_v ad)))
abbrev ab_Rc (X : ab_X) : Nat := X.2.2.2.1.cells
abbrev ab_Rs (X : ab_X) : Nat := X.2.2.2.1.slots
abbrev ab_sc (X : ab_X) : ab_S := X.2.2.2.2.2.2.2.2.2.2.2.2.2.2.2.1
theorem ab_R_set {D : va_G} {ca : FieldType → ClassId} {B n0 : Nat} {ad0 : Nat → Nat} {sc : ab_S} {s : State} {ad : Nat → Nat} {h : List ab_C} {H H1 : Heap} {locs locs1 : List Loc} {a : Nat} {x : ab_C} {y : va_E} (hR : ab_R D ca B n0 ad0 sc s ad h H locs) (hy : ab_e ad ca x = y)
    (hP : va_P D ab_cl ((ab_w ad ca h).set a (ad (a + 1), y)) H1) (hD : va_D (fun q => B ≤ q) ((ab_w ad ca h).set a (ad (a + 1), y))) (hS : va_S (fun q => B ≤ q) s.heap H1 locs1) : ab_R D ca B n0 ad0 sc s ad (h.set a x) H1 locs1 := by
  subst hy
  rw [ab_w_set] at hP hD
  exact ⟨hR.1, hP, hD, hS, hR.2.2.2.2.1, hR.2.2.2.2.2.1, by rw [List.length_set]; exact hR.2.2.2.2.2.2.1, hR.2.2.2.2.2.2.2⟩
theorem ab_R_push {D : va_G} {ca : FieldType → ClassId} {B n0 : Nat} {ad0 : Nat → Nat} {sc : ab_S} {s : State} {ad : Nat → Nat} {h : List ab_C} {H H1 : Heap} {locs locs1 : List Loc} {q : Nat} {x : ab_C} {y : va_E} (hR : ab_R D ca B n0 ad0 sc s ad h H locs) (hy : ab_e (va_up ad (h.length + 1) q) ca x = y) (hw : h.all (ab_wc h.length) = true)
    (hP : va_P D ab_cl (ab_w ad ca h ++ [(q, y)]) H1) (hD : va_D (fun q => B ≤ q) (ab_w ad ca h ++ [(q, y)])) (hS : va_S (fun q => B ≤ q) s.heap H1 locs1) : ab_R D ca B n0 ad0 sc s (va_up ad (h.length + 1) q) (h ++ [x]) H1 locs1 := by
  have hlow : ∀ k, k ≤ h.length → va_up ad (h.length + 1) q k = ad k := fun k hk => if_neg (by omega)
  have he : ab_w (va_up ad (h.length + 1) q) ca (h ++ [x]) = ab_w ad ca h ++ [(q, y)] := by
    rw [ab_w_push, ab_w_eq hw hlow, hy, show va_up ad (h.length + 1) q (h.length + 1) = q from if_pos rfl]
  have hn := hR.2.2.2.2.2.2.1
  refine ⟨hR.1, by rw [he]; exact hP, by rw [he]; exact hD, hS, hR.2.2.2.2.1, fun k hk => by rw [hlow k (by omega)]; exact hR.2.2.2.2.2.1 k hk, by rw [List.length_append]; omega, fun n f hsc => ?_⟩
  rw [hlow 0 (Nat.zero_le _)]
  exact hR.2.2.2.2.2.2.2 n f hsc
theorem ab_map_id {l : List Value} (h : ∀ v ∈ l, ∀ k, v ≠ .ref k) (ad : Nat → Nat) : l.map (ab_v ad) = l := by
  have h1 : l.map (ab_v ad) = l.map id := List.map_congr_left fun v hv => by
    cases v <;> first | rfl | exact absurd rfl (h _ hv _)
  rw [h1, List.map_id]
theorem ab_and {a b : Bool} (h : (a && b) = true) : a = true ∧ b = true := by rw [Bool.and_eq_true] at h; exact h
set_option maxHeartbeats 8000000 in
set_option maxRecDepth 100000 in
theorem ab_st_ok {X : ab_X} {M : ab_M} (hX : ab_is X M) {pc : Nat} {L : ab_L} {st : List Value} {h : List ab_C} {kc ks : Nat} {i : ab_I} (hi : ab_chk M.1 M.2.2.1 M.2.2.2.1 M.2.2.2.2.2.1 (pc, i) = true) {ds ds' : List Nat} {P : Option Prop} {F' : ab_F}
    (hs : ab_st (ab_Rc X) (ab_Rs X) (ab_sc X) ds i (pc, L, st, h, kc, ks) = some (ds', P, F')) (hq : ∀ q, P = some q → q) (k : ab_W X M F') : ab_W X M (pc, L, st, h, kc, ks) := by
  obtain ⟨p, l, e, R, s, m, args, below, meth, c, D, ca, B, n0, ad0, sc, Q⟩ := X
  obtain ⟨own, yM, cc, nL, ret, ini, cd, hh⟩ := M
  obtain ⟨ins, len, x, y, pos, v⟩ := i
  obtain ⟨hx, hb, hml, hown, hts, hlk, hini, hfr, hlo⟩ := hX
  unfold ab_W at k ⊢
  unfold ab_chk at hi
  dsimp only [ab_Rc, ab_Rs, ab_sc] at hs k hi hb hml hown hini ⊢
  have hi2 := ab_and hi
  clear hi
  obtain ⟨hd0, hi⟩ := hi2
  have hd := of_decide_eq_true hd0
  clear hd0
  intro ad H locs ls hR hl
  obtain ⟨hK, hP, hD, hS, hBs, had, hn0, hsc⟩ := id hR
  have hA : ∀ q : Nat, s.heap.size ≤ q → (fun q => B ≤ q) q := fun q hq => Nat.le_trans hBs hq
  cases ins <;> dsimp only [ab_st] at hs <;> try (cases hs; done)
  case iconst n => cases hs; exact lv_iconst hx hb hd (of_decide_eq_true hi) (k ad H locs ls hR hl)
  case bipush n => cases hs; exact lv_bipush hx hb hd (of_decide_eq_true hi) (k ad H locs ls hR hl)
  case sipush n => cases hs; exact lv_sipush hx hb hd (of_decide_eq_true hi) (k ad H locs ls hR hl)
  case lconst n => cases hs; exact lv_lconst hx hb hd rfl (k ad H locs ls hR hl)
  case ldc n =>
    cases h1 : Nat.beq x 1 with
    | true => simp [h1] at hs
    | false =>
      simp only [h1, cond_false] at hs
      cases hs
      simp only [h1, Bool.false_or] at hi
      exact lv_ldc hx hb hown (hts _ (ab_in_mem hi)) hd (k ad H locs ls hR hl)
  case iload n =>
    split at hs <;> cases hs
    rename_i a hg
    have hn := Nat.eq_of_beq_eq_true hi
    subst hn
    exact lv_iload hx hb hd (ab_at hl hg) (k ad H locs ls hR hl)
  case iload_n n =>
    split at hs <;> cases hs
    rename_i a hg
    exact lv_iload_n hx hb hd (Nat.eq_of_beq_eq_true hi) (ab_at hl hg) (k ad H locs ls hR hl)
  case lload n =>
    split at hs <;> cases hs
    rename_i a hg
    have hn := Nat.eq_of_beq_eq_true hi
    subst hn
    exact lv_lload hx hb hd (ab_at hl hg) (k ad H locs ls hR hl)
  case lload_n n =>
    split at hs <;> cases hs
    rename_i a hg
    exact lv_lload_n hx hb hd (Nat.eq_of_beq_eq_true hi) (ab_at hl hg) (k ad H locs ls hR hl)
  case aload n =>
    split at hs <;> cases hs
    rename_i a hg
    have hn := Nat.eq_of_beq_eq_true hi
    subst hn
    exact lv_aload hx hb hd (ab_at hl hg) (k ad H locs ls hR hl)
  case aload_n n =>
    split at hs <;> cases hs
    rename_i a hg
    exact lv_aload_n hx hb hd (Nat.eq_of_beq_eq_true hi) (ab_at hl hg) (k ad H locs ls hR hl)
  case istore n =>
    split at hs <;> cases hs
    obtain ⟨hi1, hi2⟩ := ab_and hi
    have hn := Nat.eq_of_beq_eq_true hi1
    subst hn
    exact lv_istore hx hb hd hl (Nat.le_of_ble_eq_true hi2) rfl (fun ls' h' => k ad H locs ls' hR (ab_l_set1 rfl h'))
  case istore_n n =>
    split at hs <;> cases hs
    obtain ⟨hi1, hi2⟩ := ab_and hi
    exact lv_istore_n hx hb hd (Nat.eq_of_beq_eq_true hi1) hl (Nat.le_of_ble_eq_true hi2) rfl (fun ls' h' => k ad H locs ls' hR (ab_l_set1 rfl h'))
  case astore n =>
    split at hs <;> cases hs
    obtain ⟨hi1, hi2⟩ := ab_and hi
    have hn := Nat.eq_of_beq_eq_true hi1
    subst hn
    exact lv_astore hx hb hd hl (Nat.le_of_ble_eq_true hi2) rfl (fun ls' h' => k ad H locs ls' hR (ab_l_set1 rfl h'))
  case astore_n n =>
    split at hs <;> cases hs
    obtain ⟨hi1, hi2⟩ := ab_and hi
    exact lv_astore_n hx hb hd (Nat.eq_of_beq_eq_true hi1) hl (Nat.le_of_ble_eq_true hi2) rfl (fun ls' h' => k ad H locs ls' hR (ab_l_set1 rfl h'))
  case lstore n =>
    split at hs <;> cases hs
    obtain ⟨hi1, hi2⟩ := ab_and hi
    have hn := Nat.eq_of_beq_eq_true hi1
    subst hn
    exact lv_lstore hx hb hd hl (Nat.le_of_ble_eq_true hi2) rfl (fun ls' h' => k ad H locs ls' hR (ab_l_set2 rfl h'))
  case lstore_n n =>
    split at hs <;> cases hs
    obtain ⟨hi1, hi2⟩ := ab_and hi
    exact lv_lstore_n hx hb hd (Nat.eq_of_beq_eq_true hi1) hl (Nat.le_of_ble_eq_true hi2) rfl (fun ls' h' => k ad H locs ls' hR (ab_l_set2 rfl h'))
  case iinc n z =>
    split at hs <;> cases hs
    rename_i a hg
    obtain ⟨hi1, hi2⟩ := ab_and hi
    obtain ⟨hi2, hi3⟩ := ab_and hi2
    have hn := Nat.eq_of_beq_eq_true hi1
    subst hn
    obtain ⟨j, hj⟩ := List.getElem?_of_mem (List.mem_map.mpr ⟨(n, Value.int a), ab_get_mem L n _ hg, rfl⟩ : (n, ab_v ad (.int a)) ∈ ab_l ad L)
    exact lv_iinc (k := j) hx hb hd hl hj (by rw [of_decide_eq_true hi3]) (Nat.le_of_ble_eq_true hi2) rfl (fun ls' h' => k ad H locs ls' hR (ab_l_set1 rfl h'))
  case iadd => split at hs <;> cases hs; exact lv_iadd hx hb hd (k ad H locs ls hR hl)
  case isub => split at hs <;> cases hs; exact lv_isub hx hb hd (k ad H locs ls hR hl)
  case imul => split at hs <;> cases hs; exact lv_imul hx hb hd (k ad H locs ls hR hl)
  case idiv => split at hs <;> cases hs; exact lv_idiv hx hb hd (hq _ rfl) (k ad H locs ls hR hl)
  case irem => split at hs <;> cases hs; exact lv_irem hx hb hd (hq _ rfl) (k ad H locs ls hR hl)
  case ineg => split at hs <;> cases hs; exact lv_ineg hx hb hd (k ad H locs ls hR hl)
  case iand => split at hs <;> cases hs; exact lv_iand hx hb hd (k ad H locs ls hR hl)
  case ior => split at hs <;> cases hs; exact lv_ior hx hb hd (k ad H locs ls hR hl)
  case ixor => split at hs <;> cases hs; exact lv_ixor hx hb hd (k ad H locs ls hR hl)
  case ishl => split at hs <;> cases hs; exact lv_ishl hx hb hd (k ad H locs ls hR hl)
  case ishr => split at hs <;> cases hs; exact lv_ishr hx hb hd (k ad H locs ls hR hl)
  case iushr => split at hs <;> cases hs; exact lv_iushr hx hb hd rfl (k ad H locs ls hR hl)
  case ladd => split at hs <;> cases hs; exact lv_ladd hx hb hd (k ad H locs ls hR hl)
  case lsub => split at hs <;> cases hs; exact lv_lsub hx hb hd (k ad H locs ls hR hl)
  case land => split at hs <;> cases hs; exact lv_land hx hb hd (k ad H locs ls hR hl)
  case lor => split at hs <;> cases hs; exact lv_lor hx hb hd (k ad H locs ls hR hl)
  case lshl => split at hs <;> cases hs; exact lv_lshl hx hb hd rfl (k ad H locs ls hR hl)
  case lshr => split at hs <;> cases hs; exact lv_lshr hx hb hd rfl (k ad H locs ls hR hl)
  case lcmp => split at hs <;> cases hs; exact W.lcmp hx hb hd (k ad H locs ls hR hl)
  case i2l => split at hs <;> cases hs; exact lv_i2l hx hb hd rfl (k ad H locs ls hR hl)
  case l2i => split at hs <;> cases hs; exact lv_l2i hx hb hd rfl (k ad H locs ls hR hl)
  case dup =>
    split at hs
    · rename_i a r
      cases hc : Nat.beq a.category 1 with
      | false => simp [hc] at hs
      | true =>
        simp only [hc, cond_true] at hs
        cases hs
        exact lv_dup hx hb hd (by rw [ab_v_cat]; exact Nat.eq_of_beq_eq_true hc) (k ad H locs ls hR hl)
    · cases hs
  case pop =>
    split at hs
    · rename_i a r
      cases hc : Nat.beq a.category 1 with
      | false => simp [hc] at hs
      | true =>
        simp only [hc, cond_true] at hs
        cases hs
        exact lv_pop hx hb hd (by rw [ab_v_cat]; exact Nat.eq_of_beq_eq_true hc) (k ad H locs ls hR hl)
    · cases hs
  case dup_x1 =>
    split at hs
    · rename_i a b r
      cases hc : (Nat.beq a.category 1 && Nat.beq b.category 1) with
      | false => simp only [hc, cond_false] at hs; cases hs
      | true =>
        simp only [hc, cond_true] at hs
        cases hs
        obtain ⟨c1, c2⟩ := ab_and hc
        exact lv_dup_x1 hx hb hd (by rw [ab_v_cat]; exact Nat.eq_of_beq_eq_true c1) (by rw [ab_v_cat]; exact Nat.eq_of_beq_eq_true c2) (k ad H locs ls hR hl)
    · cases hs
  case dup2 =>
    split at hs
    · rename_i a b r
      cases hc : (Nat.beq a.category 1 && Nat.beq b.category 1) with
      | false => simp only [hc, cond_false] at hs; cases hs
      | true =>
        simp only [hc, cond_true] at hs
        cases hs
        obtain ⟨c1, c2⟩ := ab_and hc
        exact lv_dup2_11 hx hb hd (by rw [ab_v_cat]; exact Nat.eq_of_beq_eq_true c1) (by rw [ab_v_cat]; exact Nat.eq_of_beq_eq_true c2) (k ad H locs ls hR hl)
    · cases hs
  case goto off => cases hs; exact lv_goto hx hb hd (of_decide_eq_true hi) (k ad H locs ls hR hl)
  case ifCond kd off =>
    have ht := of_decide_eq_true hi
    split at hs
    · cases hs
      have h1 := hq _ rfl
      cases kd
      · exact lv_if_eq hx hb hd ht (fun z => absurd z h1) (fun _ => k ad H locs ls hR hl)
      · exact lv_if_ne hx hb hd ht (fun z => absurd h1 z) (fun _ => k ad H locs ls hR hl)
      · exact lv_if_lt hx hb hd ht (fun z => absurd z h1) (fun _ => k ad H locs ls hR hl)
      · exact lv_if_ge hx hb hd ht (fun z => absurd z h1) (fun _ => k ad H locs ls hR hl)
      · exact lv_if_gt hx hb hd ht (fun z => absurd z h1) (fun _ => k ad H locs ls hR hl)
      · exact lv_if_le hx hb hd ht (fun z => absurd z h1) (fun _ => k ad H locs ls hR hl)
    · cases hs
      have h1 := hq _ rfl
      cases kd
      · exact lv_if_eq hx hb hd ht (fun _ => k ad H locs ls hR hl) (fun z => absurd h1 z)
      · exact lv_if_ne hx hb hd ht (fun _ => k ad H locs ls hR hl) (fun z => absurd z h1)
      · exact lv_if_lt hx hb hd ht (fun _ => k ad H locs ls hR hl) (fun z => absurd h1 z)
      · exact lv_if_ge hx hb hd ht (fun _ => k ad H locs ls hR hl) (fun z => absurd h1 z)
      · exact lv_if_gt hx hb hd ht (fun _ => k ad H locs ls hR hl) (fun z => absurd h1 z)
      · exact lv_if_le hx hb hd ht (fun _ => k ad H locs ls hR hl) (fun z => absurd h1 z)
    · cases hs
  case if_icmp kd off =>
    have ht := of_decide_eq_true hi
    split at hs
    · cases hs
      have h1 := hq _ rfl
      cases kd
      · exact lv_icmp_eq hx hb hd ht (fun z => absurd z h1) (fun _ => k ad H locs ls hR hl)
      · exact lv_icmp_ne hx hb hd ht (fun z => absurd h1 z) (fun _ => k ad H locs ls hR hl)
      · exact lv_icmp_lt hx hb hd ht (fun z => absurd z h1) (fun _ => k ad H locs ls hR hl)
      · exact lv_icmp_ge hx hb hd ht (fun z => absurd z h1) (fun _ => k ad H locs ls hR hl)
      · exact lv_icmp_gt hx hb hd ht (fun z => absurd z h1) (fun _ => k ad H locs ls hR hl)
      · exact lv_icmp_le hx hb hd ht (fun z => absurd z h1) (fun _ => k ad H locs ls hR hl)
    · cases hs
      have h1 := hq _ rfl
      cases kd
      · exact lv_icmp_eq hx hb hd ht (fun _ => k ad H locs ls hR hl) (fun z => absurd h1 z)
      · exact lv_icmp_ne hx hb hd ht (fun _ => k ad H locs ls hR hl) (fun z => absurd z h1)
      · exact lv_icmp_lt hx hb hd ht (fun _ => k ad H locs ls hR hl) (fun z => absurd h1 z)
      · exact lv_icmp_ge hx hb hd ht (fun _ => k ad H locs ls hR hl) (fun z => absurd h1 z)
      · exact lv_icmp_gt hx hb hd ht (fun _ => k ad H locs ls hR hl) (fun z => absurd h1 z)
      · exact lv_icmp_le hx hb hd ht (fun _ => k ad H locs ls hR hl) (fun z => absurd h1 z)
    · cases hs
  case tableswitch d lo hi' offs =>
    split at hs
    · split at hs
      · rename_i t ht
        cases hs
        exact lv_tableOut hx hb hd (hq _ rfl) ht (k ad H locs ls hR hl)
      · cases hs
    · split at hs
      · rename_i off ho
        split at hs
        · rename_i t ht
          cases hs
          obtain ⟨h1, h2⟩ := hq _ rfl
          exact lv_tableIn hx hb hd (by omega) h2 (by rw [h1, show ∀ a b : Int, a + b - a = b from fun a b => by omega]; exact ho) ht (k ad H locs ls hR hl)
        · cases hs
      · cases hs
    · cases hs
  case getfield n =>
    split at hs
    · rename_i a r
      split at hs
      · rename_i ci fs he
        cases hc : Nat.beq ci x with
        | false => simp only [hc, cond_false] at hs; cases hs
        | true =>
          simp only [hc, cond_true] at hs
          have hcx := Nat.eq_of_beq_eq_true hc
          subst hcx
          split at hs
          · rename_i w hw
            cases hs
            cases hcl : ab_cl[ci]? with
            | none => simp only [hcl] at hi; cases hi
            | some q =>
              obtain ⟨C, T, N⟩ := q
              simp only [hcl] at hi
              obtain ⟨i1, i2⟩ := ab_and hi
              obtain ⟨o1, -⟩ := ab_cl_ok ci C T N hcl
              exact va_get (D := D) (ci := ci) (C := C) (T := T) (N := N) (v := ab_v ad w) hx hb hts o1 hown hK hP a (ab_w_at he) hcl y (Nat.le_of_ble_eq_true i1) (hts _ (ab_in_mem i2)) (fun _ h9 => h9) (by rw [List.getElem?_map, hw]; rfl) hd (k ad H locs ls hR hl)
          · cases hs
      · cases hs
    · cases hs
  case putfield n =>
    split at hs
    · rename_i w a r
      split at hs
      · rename_i ci fs he
        cases hc : (Nat.beq ci x && (ab_fit (ab_ft x y) w && Nat.blt y fs.length)) with
        | false => simp only [hc, cond_false] at hs; cases hs
        | true =>
          simp only [hc, cond_true] at hs
          cases hs
          obtain ⟨c1, c2⟩ := ab_and hc
          obtain ⟨c2, c3⟩ := ab_and c2
          have hcx := Nat.eq_of_beq_eq_true c1
          subst hcx
          cases hcl : ab_cl[ci]? with
          | none => simp only [hcl] at hi; cases hi
          | some q =>
            obtain ⟨C, T, N⟩ := q
            simp only [hcl] at hi
            obtain ⟨i1, i2⟩ := ab_and hi
            obtain ⟨i2, i3⟩ := ab_and i2
            have hyN : y < N := Nat.le_of_ble_eq_true i1
            obtain ⟨o1, o2, o3, -⟩ := ab_cl_ok ci C T N hcl
            obtain ⟨f1, f2⟩ := ab_fit_ok ad c2
            have hyl : y < (fs.map (ab_v ad)).length := by rw [List.length_map]; exact Nat.le_of_ble_eq_true c3
            have hset : ab_e ad ca (.inr (ci, fs.set y w)) = .inr (ci, (fs.map (ab_v ad)).set y (ab_v ad w)) := by
              show Sum.inr (ci, (fs.set y w).map (ab_v ad)) = _
              rw [List.map_set]
            cases hfin : (T y).2.2.2 with
            | false =>
              exact va_put (D := D) (ci := ci) (C := C) (T := T) (N := N) (v := ab_v ad w) (ty := ab_ft ci y) hx hb hts o1 (ab_ft ci) o2 o3 hown hK hP hD hS a (ab_w_at he) hcl y hyN (hts _ (ab_in_mem i2)) (fun _ h9 => h9) hfin (o2 y hyN) f1 f2 hyl hd (fun H1 locs1 hP1 hD1 hS1 => k ad H1 locs1 ls (ab_R_set hR hset hP1 hD1 hS1) hl)
            | true =>
              rw [hfin] at i3
              obtain ⟨j1, j2⟩ := ab_and (show (ini && decide ((T y).1 = own)) = true from i3)
              exact va_putF (D := D) (ci := ci) (C := C) (T := T) (N := N) (v := ab_v ad w) (ty := ab_ft ci y) hx hb hts o1 (ab_ft ci) o2 o3 hown hK hP hD hS a (ab_w_at he) hcl y hyN (hts _ (ab_in_mem i2)) (fun _ h9 => h9) hfin (hini j1) (of_decide_eq_true j2) (o2 y hyN) f1 f2 hyl hd (fun H1 locs1 hP1 hD1 hS1 => k ad H1 locs1 ls (ab_R_set hR hset hP1 hD1 hS1) hl)
      · cases hs
    · cases hs
  case iaload =>
    split at hs
    · split at hs
      · rename_i n f
        cases hs
        obtain ⟨x1, x2⟩ := hsc n f rfl
        exact va_sld (A := fun q => B ≤ q) hx hb x1 (by omega) (by show ¬ B ≤ ad 0; omega) hS (hq _ rfl) hd (k ad H locs ls hR hl)
      · cases hs
    · rename_i j a r
      split at hs
      · rename_i n f he
        cases hs
        exact va_iald (D := D) hx hb hK hP a 0 (ab_w_at he) rfl (hq _ rfl) hd (k ad H locs ls hR hl)
      · cases hs
    · cases hs
  case baload =>
    split at hs
    · rename_i j a r
      split at hs
      · rename_i n f he
        cases hs
        exact va_zald (D := D) hx hb hK hP a 2 (ab_w_at he) rfl (hq _ rfl) hd (k ad H locs ls hR hl)
      · cases hs
    · cases hs
  case laload =>
    split at hs
    · rename_i j a r
      split at hs
      · rename_i n f he
        cases hs
        exact va_lald (D := D) hx hb hK hP a 1 (ab_w_at he) rfl (hq _ rfl) hd (k ad H locs ls hR hl)
      · cases hs
    · cases hs
  case iastore =>
    split at hs
    · rename_i w j a r
      split at hs
      · rename_i n f he
        cases hs
        exact va_iast (D := D) hx hb hK hP hD hS a 0 (ab_w_at he) rfl (hq _ rfl) hd (fun H1 locs1 hP1 hD1 hS1 => k ad H1 locs1 ls (ab_R_set hR rfl hP1 hD1 hS1) hl)
      · cases hs
    · cases hs
  case bastore =>
    split at hs
    · rename_i w j a r
      split at hs
      · rename_i n f he
        cases hs
        exact va_zast (D := D) hx hb hK hP hD hS a 2 (ab_w_at he) rfl (hq _ rfl) hd (fun H1 locs1 hP1 hD1 hS1 => k ad H1 locs1 ls (ab_R_set hR rfl hP1 hD1 hS1) hl)
      · cases hs
    · cases hs
  case lastore =>
    split at hs
    · rename_i w j a r
      split at hs
      · rename_i n f he
        cases hs
        exact va_last (D := D) hx hb hK hP hD hS a 1 (ab_w_at he) rfl (hq _ rfl) hd (fun H1 locs1 hP1 hD1 hS1 => k ad H1 locs1 ls (ab_R_set hR rfl hP1 hD1 hS1) hl)
      · cases hs
    · cases hs
  case arraylength =>
    split at hs
    · split at hs
      · rename_i n f
        cases hs
        obtain ⟨x1, x2⟩ := hsc n f rfl
        exact va_slen (A := fun q => B ≤ q) hx hb x1 (by omega) (by show ¬ B ≤ ad 0; omega) hS hd (k ad H locs ls hR hl)
      · cases hs
    · rename_i a r
      split at hs
      · rename_i n f he
        cases hs
        exact va_alen (D := D) (x := (n, f)) hx hb hK hP a 0 (ab_w_at he) rfl rfl hd (k ad H locs ls hR hl)
      · cases hs
    · cases hs
  case new n =>
    cases hcl : ab_cl[x]? with
    | none => simp only [hcl] at hs; cases hs
    | some q =>
      obtain ⟨C, T, N⟩ := q
      simp only [hcl] at hs hi
      cases hs
      obtain ⟨w1, w2, w3⟩ := hq _ rfl
      obtain ⟨u1, u2⟩ := ab_and w1
      obtain ⟨u2, u3⟩ := ab_and u2
      obtain ⟨i1, i2⟩ := ab_and hi
      obtain ⟨i2, i3⟩ := ab_and i2
      obtain ⟨o1, o2, o3, o4, o5⟩ := ab_cl_ok x C T N hcl
      refine va_new (ci := x) (fs := ab_df x) (C := C) (T := T) (N := N) hx hb hts o1 (ab_ft x) o2 hown (hts _ (ab_in_mem i1)) (hts _ (ab_in_mem i2)) (hts _ (ab_in_mem i3)) hK hP hD hS hA hcl o4 w2 w3 hd (fun q H1 hP1 hD1 hS1 => ?_)
      have hlow : ∀ k, k ≤ h.length → va_up ad (h.length + 1) q k = ad k := fun k hk => if_neg (by omega)
      have k1 := k (va_up ad (h.length + 1) q) H1 locs ls (ab_R_push hR (show Sum.inr (x, (ab_df x).map (ab_v (va_up ad (h.length + 1) q))) = Sum.inr (x, ab_df x) by rw [ab_map_id o5]) u3 hP1 hD1 hS1) (by rw [ab_l_eq u1 hlow]; exact hl)
      rw [List.map_cons, ab_s_eq u2 hlow, show ab_v (va_up ad (h.length + 1) q) (.ref (h.length + 1)) = .ref q from congrArg Value.ref (if_pos rfl)] at k1
      exact k1
  case newarray at' =>
    split at hs
    · rename_i n r
      have hbytes : ∀ t : FieldType, n.toNatClampNeg ≤ 1000000 → n.toNatClampNeg * componentBytes t ≤ 536870912 := fun t ht => by
        have h8 : componentBytes t ≤ 8 := by cases t <;> simp [componentBytes]
        calc n.toNatClampNeg * componentBytes t ≤ 1000000 * 8 := Nat.mul_le_mul ht h8
          _ ≤ 536870912 := by decide
      have key : ∀ (ty : FieldType) (t0 : Nat) (a0 : vp_A), newarray.typeOf at' = ty → (ab_tys ca)[t0]? = some (ca ty, ty) → (∀ cA : ClassId, vp_cell cA a0 = arrV cA n.toNatClampNeg (fun _ => defaultValue ty)) → (match ty with | .object _ => False | _ => True) → (ab_wf h.length L r h = true ∧ ¬ n < 0 ∧ n.toNatClampNeg ≤ 1000000 ∧ kc + 1 ≤ R.cells ∧ ks + n.toNatClampNeg ≤ R.slots) →
          (∀ (ad : Nat → Nat) (H : Heap) (locs : List Loc) (ls : Array Slot), ab_R D ca B n0 ad0 sc s ad (h ++ [.inl (ty, a0)]) H locs → lv_has ls nL (ab_l ad L) → W p l e R s m args below meth c H locs (kc + 1) (ks + n.toNatClampNeg) Q (F0 m (pc + 2) ls ((Value.ref (h.length + 1) :: r).map (ab_v ad)))) →
          W p l e R s m args below meth c H locs kc ks Q (F0 m pc ls ((Value.int n :: r).map (ab_v ad))) := by
        intro ty t0 a0 hty ht0 ha0 hno hw kk
        obtain ⟨w1, w2, w3, w4, w5⟩ := hw
        obtain ⟨u1, u2⟩ := ab_and w1
        obtain ⟨u2, u3⟩ := ab_and u2
        refine va_newa hx hb (hts _ (ab_in_mem hi)) hty hK hP hD hS hA ha0 w2 rfl (hbytes ty w3) w4 w5 hd (fun q cA H1 hK1 hP1 hD1 hS1 => ?_)
        have hlow : ∀ k, k ≤ h.length → va_up ad (h.length + 1) q k = ad k := fun k hk => if_neg (by omega)
        have hca : cA = ca ty := by
          have h1 := (hK1.2 3 (cA, ty) rfl).2
          have h2 := (hK.2 t0 _ ht0).2
          cases ty <;> first | exact Option.some.inj (h1.symm.trans h2) | exact absurd hno id
        subst hca
        have k1 := kk (va_up ad (h.length + 1) q) H1 locs ls (ab_R_push hR rfl u3 hP1 hD1 hS1) (by rw [ab_l_eq u1 hlow]; exact hl)
        rw [List.map_cons, ab_s_eq u2 hlow, show ab_v (va_up ad (h.length + 1) q) (.ref (h.length + 1)) = .ref q from congrArg Value.ref (if_pos rfl)] at k1
        exact k1
      split at hs
      · cases hs
        exact key .int 0 _ rfl rfl (fun _ => rfl) trivial (hq _ rfl) k
      · cases hs
        exact key .long 1 _ rfl rfl (fun _ => rfl) trivial (hq _ rfl) k
      · cases hs
        exact key .boolean 2 _ rfl rfl (fun _ => rfl) trivial (hq _ rfl) k
      · cases hs
    · cases hs
  case invokestatic n =>
    have hls : c.maxLocals = ls.size := hml.trans hl.1.symm
    split at hs
    · rename_i b a r
      cases hc : Nat.ble (ab_wt r) 8 with
      | false => simp only [hc, cond_false] at hs; cases hs
      | true =>
        simp only [hc, cond_true] at hs
        cases hs
        obtain ⟨w1, w2⟩ := hq _ rfl
        have hw : ((r.map (ab_v ad)).map fun v => v.category).sum + 13 ≤ R.locals := by
          rw [ab_v_sum]
          have := Nat.le_of_ble_eq_true hc
          unfold ab_wt at this
          omega
        exact va_mmax hx hb hls hown (hts _ (ab_in_mem hi)) (hts _ ab_mx.1) (hts _ ab_mx.2.1) (hts _ ab_mx.2.2) hfr hw w1 w2 hd (k ad H locs ls hR hl)
    · rename_i b a r
      cases hc : Nat.ble (ab_wt r) 8 with
      | false => simp only [hc, cond_false] at hs; cases hs
      | true =>
        simp only [hc, cond_true] at hs
        cases hs
        obtain ⟨w1, w2⟩ := hq _ rfl
        have hw : ((r.map (ab_v ad)).map fun v => v.category).sum + 13 ≤ R.locals := by
          rw [ab_v_sum]
          have := Nat.le_of_ble_eq_true hc
          unfold ab_wt at this
          omega
        exact va_mmin hx hb hls hown (hts _ (ab_in_mem hi)) (hts _ ab_mn.1) (hts _ ab_mn.2.1) (hts _ ab_mn.2.2) hfr hw w1 w2 hd (k ad H locs ls hR hl)
    · rename_i a r
      cases hc : Nat.ble (ab_wt r) 8 with
      | false => simp only [hc, cond_false] at hs; cases hs
      | true =>
        simp only [hc, cond_true] at hs
        cases hs
        obtain ⟨w1, w2⟩ := hq _ rfl
        have hw : ((r.map (ab_v ad)).map fun v => v.category).sum + 13 ≤ R.locals := by
          rw [ab_v_sum]
          have := Nat.le_of_ble_eq_true hc
          unfold ab_wt at this
          omega
        exact va_mabs hx hb hls hown (hts _ (ab_in_mem hi)) (hts _ ab_ma.1) (hts _ ab_ma.2.1) (hts _ ab_ma.2.2) hfr hw w1 w2 hd (k ad H locs ls hR hl)
    · cases hs
  case invokespecial n =>
    split at hs
    · rename_i a r
      cases hc : Nat.ble (ab_wt r) 8 with
      | false => simp only [hc, cond_false] at hs; cases hs
      | true =>
        simp only [hc, cond_true] at hs
        cases hs
        have hw : 2 * 0 + ((r.map (ab_v ad)).map fun v => v.category).sum + 12 ≤ R.locals := by
          rw [ab_v_sum]
          have := Nat.le_of_ble_eq_true hc
          unfold ab_wt at this
          omega
        exact W.objInit hx hb hown (hts _ (ab_in_mem hi)) (hts _ ab_oi.1) (hts _ ab_oi.2) rfl (hl.1.trans hml.symm) rfl hd hfr hw (k ad H locs ls hR hl)
    · cases hs
theorem ab_all_cons {P : Prop} {r : List Prop} (h : ab_all (P :: r)) : P ∧ ab_all r := by
  cases r with
  | nil => exact ⟨h, trivial⟩
  | cons a b => exact h
theorem ab_path_acc (cd : List (Nat × ab_I)) (Rc Rs : Nat) (sc : ab_S) : ∀ (k : Nat) (ds : List Nat) (acc : List Prop) (F : ab_F) (vc : List Prop) (F' : ab_F), ab_path cd Rc Rs sc k ds acc F = some (vc, F') → ab_all vc → ab_all acc
  | 0, ds, acc, F, vc, F', h, hv => by
    unfold ab_path at h
    cases h
    exact hv
  | k + 1, ds, acc, F, vc, F', h, hv => by
    unfold ab_path at h
    split at h
    · cases h
    · split at h
      · exact ab_path_acc cd Rc Rs sc k _ _ _ vc F' h hv
      · exact (ab_all_cons (ab_path_acc cd Rc Rs sc k _ _ _ vc F' h hv)).2
      · cases h
/-- A PATH: what it comes to gives where it began -/
theorem ab_go0 {X : ab_X} {M : ab_M} (hX : ab_is X M) (hM : ab_Mok M) : ∀ (k : Nat) (ds : List Nat) (acc : List Prop) (F : ab_F) (vc : List Prop) (F' : ab_F), ab_path M.2.2.2.2.2.2.1 (ab_Rc X) (ab_Rs X) (ab_sc X) k ds acc F = some (vc, F') → ab_all vc → ab_W X M F' → ab_W X M F
  | 0, ds, acc, F, vc, F', h, hv, hk => by
    unfold ab_path at h
    cases h
    exact hk
  | k + 1, ds, acc, F, vc, F', h, hv, hk => by
    unfold ab_path at h
    split at h
    · cases h
    · rename_i i hi
      have hc := List.all_eq_true.mp hM _ (ab_lk_mem _ _ _ hi)
      obtain ⟨pc, L, st, hp, kc, ks⟩ := F
      split at h
      · rename_i ds' F1 hs
        exact ab_st_ok hX hc hs (fun q z => by cases z) (ab_go0 hX hM k _ _ _ vc F' h hv hk)
      · rename_i ds' P F1 hs
        exact ab_st_ok hX hc hs (fun q z => by cases z; exact (ab_all_cons (ab_path_acc _ _ _ _ k _ _ _ vc F' h hv)).1) (ab_go0 hX hM k _ _ _ vc F' h hv hk)
      · cases h
theorem ab_go {X : ab_X} {M : ab_M} (hX : ab_is X M) (hM : ab_Mok M) (k : Nat) (ds : List Nat) {F : ab_F} (vc : List Prop) (F' : ab_F) (h : ab_path M.2.2.2.2.2.2.1 (ab_Rc X) (ab_Rs X) (ab_sc X) k ds [] F = some (vc, F')) (hv : ab_all vc) (hk : ab_W X M F') : ab_W X M F :=
  ab_go0 hX hM k ds [] F vc F' h hv hk
