/-! ABSTRACT RUNS. A heap of numbered cells (cell k is told by the reference k + 1; reference 0 is the law's script), a method's code as a table; a path of it is one equation by rfl ('ab_path'), and 'ab_go' takes it down to the machine. Needs of the names' part: ab_cl (classes), ab_G (words), ab_df (a class's first values), ab_cl_ok. -/
abbrev ab_C : Type := (FieldType × vp_A) ⊕ (Nat × List Value)
abbrev ab_L : Type := List (Nat × Value)
/-- an instruction as the paths read it: itself, its length, two numbers, the place of its word, a constant -/
abbrev ab_I : Type := Instr × Nat × Nat × Nat × Nat × Int32
/-- pc, locals, operands, heap, cells and slots made -/
abbrev ab_F : Type := Nat × ab_L × List Value × List ab_C × Nat × Nat
abbrev ab_S : Type := Option (Nat × (Nat → Int32))
def ab_v (ad : Nat → Nat) (v : Value) : Value := match v with
  | .ref k => .ref (ad k)
  | w => w
def ab_l (ad : Nat → Nat) (L : ab_L) : List (Nat × Value) := L.map fun q => (q.1, ab_v ad q.2)
def ab_e (ad : Nat → Nat) (ca : FieldType → ClassId) (x : ab_C) : va_E := match x with
  | .inl a => .inl (ca a.1, a.2)
  | .inr o => .inr (o.1, o.2.map (ab_v ad))
def ab_w (ad : Nat → Nat) (ca : FieldType → ClassId) (h : List ab_C) : va_W := h.mapIdx fun k x => (ad (k + 1), ab_e ad ca x)
def ab_tys (ca : FieldType → ClassId) : List (ClassId × FieldType) := [(ca .int, .int), (ca .long, .long), (ca .boolean, .boolean)]
theorem ab_v_cat (ad : Nat → Nat) (v : Value) : (ab_v ad v).category = v.category := by cases v <;> rfl
theorem ab_v_sum (ad : Nat → Nat) (st : List Value) : ((st.map (ab_v ad)).map fun v => v.category).sum = (st.map fun v => v.category).sum := by
  rw [List.map_map]
  congr 1
  exact List.map_congr_left fun v _ => ab_v_cat ad v
theorem ab_w_at {ad : Nat → Nat} {ca : FieldType → ClassId} {h : List ab_C} {k : Nat} {x : ab_C} (hk : h[k]? = some x) : (ab_w ad ca h)[k]? = some (ad (k + 1), ab_e ad ca x) := by
  unfold ab_w
  rw [List.getElem?_mapIdx, hk]
  rfl
theorem ab_w_set (ad : Nat → Nat) (ca : FieldType → ClassId) (h : List ab_C) (k : Nat) (x : ab_C) : (ab_w ad ca h).set k (ad (k + 1), ab_e ad ca x) = ab_w ad ca (h.set k x) := by
  unfold ab_w
  exact List.mapIdx_set.symm
theorem ab_w_push (ad : Nat → Nat) (ca : FieldType → ClassId) (h : List ab_C) (x : ab_C) : ab_w ad ca (h ++ [x]) = ab_w ad ca h ++ [(ad (h.length + 1), ab_e ad ca x)] := by
  unfold ab_w
  exact List.mapIdx_concat
-- references that are told of
def ab_wv (n : Nat) (v : Value) : Bool := match v with
  | .ref k => Nat.ble k n
  | _ => true
def ab_wc (n : Nat) (x : ab_C) : Bool := match x with
  | .inl _ => true
  | .inr o => o.2.all (ab_wv n)
def ab_wf (n : Nat) (L : ab_L) (st : List Value) (h : List ab_C) : Bool := L.all (fun q => ab_wv n q.2) && (st.all (ab_wv n) && h.all (ab_wc n))
theorem ab_v_eq {n : Nat} {v : Value} {ad ad' : Nat → Nat} (hw : ab_wv n v = true) (ha : ∀ k, k ≤ n → ad' k = ad k) : ab_v ad' v = ab_v ad v := by
  cases v <;> first | rfl | skip
  case ref k =>
    show Value.ref (ad' k) = Value.ref (ad k)
    rw [ha k (Nat.le_of_ble_eq_true hw)]
theorem ab_l_eq {n : Nat} {L : ab_L} {ad ad' : Nat → Nat} (hw : L.all (fun q => ab_wv n q.2) = true) (ha : ∀ k, k ≤ n → ad' k = ad k) : ab_l ad' L = ab_l ad L := by
  unfold ab_l
  refine List.map_congr_left fun q hq => ?_
  rw [ab_v_eq (List.all_eq_true.mp hw q hq) ha]
theorem ab_s_eq {n : Nat} {st : List Value} {ad ad' : Nat → Nat} (hw : st.all (ab_wv n) = true) (ha : ∀ k, k ≤ n → ad' k = ad k) : st.map (ab_v ad') = st.map (ab_v ad) :=
  List.map_congr_left fun v hv => ab_v_eq (List.all_eq_true.mp hw v hv) ha
theorem ab_e_eq {n : Nat} {x : ab_C} {ca : FieldType → ClassId} {ad ad' : Nat → Nat} (hw : ab_wc n x = true) (ha : ∀ k, k ≤ n → ad' k = ad k) : ab_e ad' ca x = ab_e ad ca x := by
  cases x with
  | inl a => rfl
  | inr o =>
    show Sum.inr (o.1, o.2.map (ab_v ad')) = Sum.inr (o.1, o.2.map (ab_v ad))
    rw [ab_s_eq hw ha]
theorem ab_w_eq {h : List ab_C} {ca : FieldType → ClassId} {ad ad' : Nat → Nat} (hw : h.all (ab_wc h.length) = true) (ha : ∀ k, k ≤ h.length → ad' k = ad k) : ab_w ad' ca h = ab_w ad ca h := by
  unfold ab_w
  refine List.mapIdx_eq_mapIdx_iff.mpr fun i hi => ?_
  show (ad' (i + 1), ab_e ad' ca h[i]) = (ad (i + 1), ab_e ad ca h[i])
  rw [ab_e_eq (List.all_eq_true.mp hw _ (List.getElem_mem hi)) ha, ha (i + 1) (by omega)]
-- locals
def ab_get : ab_L → Nat → Option Value
  | [], _ => none
  | q :: r, i => bif Nat.beq q.1 i then some q.2 else ab_get r i
def ab_ins : ab_L → Nat → Value → ab_L
  | [], i, v => [(i, v)]
  | q :: r, i, v => bif Nat.blt q.1 i then q :: ab_ins r i v else (i, v) :: q :: r
def ab_set1 (L : ab_L) (i : Nat) (v : Value) : ab_L := ab_ins (L.filter fun q => !(q.1 == i) && !(q.1 + 1 == i && q.2.category == 2)) i v
def ab_set2 (L : ab_L) (i : Nat) (v : Value) : ab_L := ab_ins (L.filter fun q => !(q.1 == i) && (!(q.1 == i + 1) && !(q.1 + 1 == i && q.2.category == 2))) i v
theorem ab_get_mem : ∀ (L : ab_L) (i : Nat) (v : Value), ab_get L i = some v → (i, v) ∈ L
  | [], i, v, h => by cases h
  | q :: r, i, v, h => by
    unfold ab_get at h
    cases hq : Nat.beq q.1 i with
    | true =>
      rw [hq] at h
      have h1 : q.2 = v := Option.some.inj h
      have h2 : q.1 = i := Nat.eq_of_beq_eq_true hq
      rw [← h1, ← h2]
      exact List.mem_cons_self
    | false =>
      rw [hq] at h
      exact List.mem_cons_of_mem _ (ab_get_mem r i v h)
theorem ab_ins_mem : ∀ (L : ab_L) (i : Nat) (v : Value) (q : Nat × Value), q ∈ ab_ins L i v → q = (i, v) ∨ q ∈ L
  | [], i, v, q, h => Or.inl (by unfold ab_ins at h; exact List.mem_singleton.mp h)
  | a :: r, i, v, q, h => by
    unfold ab_ins at h
    cases hq : Nat.blt a.1 i with
    | true =>
      rw [hq] at h
      rcases List.mem_cons.mp h with h | h
      · exact Or.inr (by rw [h]; exact List.mem_cons_self)
      · rcases ab_ins_mem r i v q h with h | h
        · exact Or.inl h
        · exact Or.inr (List.mem_cons_of_mem _ h)
    | false =>
      rw [hq] at h
      rcases List.mem_cons.mp h with h | h
      · exact Or.inl h
      · exact Or.inr h
theorem ab_at {ls : Array Slot} {nL i : Nat} {L : ab_L} {ad : Nat → Nat} {v : Value} (hl : lv_has ls nL (ab_l ad L)) (hg : ab_get L i = some v) : ls[i]? = some (.val (ab_v ad v)) :=
  hl.2.2 (i, ab_v ad v) (List.mem_map.mpr ⟨(i, v), ab_get_mem L i v hg, rfl⟩)
theorem ab_l_set1 {ls : Array Slot} {nL i : Nat} {L : ab_L} {ad : Nat → Nat} {v w : Value} (hv : ab_v ad v = w) (h : lv_has ls nL ((i, w) :: (ab_l ad L).filter (fun q => !(q.1 == i) && !(q.1 + 1 == i && q.2.category == 2)))) : lv_has ls nL (ab_l ad (ab_set1 L i v)) := by
  subst hv
  refine ⟨h.1, h.2.1, fun q hq => h.2.2 q ?_⟩
  obtain ⟨q0, h0, rfl⟩ := List.mem_map.mp hq
  rcases ab_ins_mem _ _ _ _ h0 with rfl | h0
  · exact List.mem_cons_self
  · obtain ⟨h1, h2⟩ := List.mem_filter.mp h0
    refine List.mem_cons_of_mem _ (List.mem_filter.mpr ⟨List.mem_map.mpr ⟨q0, h1, rfl⟩, ?_⟩)
    show (!(q0.1 == i) && !(q0.1 + 1 == i && (ab_v ad q0.2).category == 2)) = true
    rw [ab_v_cat]
    exact h2
theorem ab_l_set2 {ls : Array Slot} {nL i : Nat} {L : ab_L} {ad : Nat → Nat} {v w : Value} (hv : ab_v ad v = w) (h : lv_has ls nL ((i, w) :: (ab_l ad L).filter (fun q => !(q.1 == i) && (!(q.1 == i + 1) && !(q.1 + 1 == i && q.2.category == 2))))) : lv_has ls nL (ab_l ad (ab_set2 L i v)) := by
  subst hv
  refine ⟨h.1, h.2.1, fun q hq => h.2.2 q ?_⟩
  obtain ⟨q0, h0, rfl⟩ := List.mem_map.mp hq
  rcases ab_ins_mem _ _ _ _ h0 with rfl | h0
  · exact List.mem_cons_self
  · obtain ⟨h1, h2⟩ := List.mem_filter.mp h0
    refine List.mem_cons_of_mem _ (List.mem_filter.mpr ⟨List.mem_map.mpr ⟨q0, h1, rfl⟩, ?_⟩)
    show (!(q0.1 == i) && (!(q0.1 == i + 1) && !(q0.1 + 1 == i && (ab_v ad q0.2).category == 2))) = true
    rw [ab_v_cat]
    exact h2
