/-! names, by program (gen/names.py): classes, their words; the words that a call keeps -/
def R_Fs : String := "FacetSearch"
def F_Fs : u_T := fun k => match k with
  | 0 => ("FacetSearch", "pad", "LFacetSearch$Pad;", true)
  | 1 => ("FacetSearch", "shelf", "LFacetSearch$Shelf;", true)
  | 2 => ("FacetSearch", "trees", "LFacetSearch$Trees;", true)
  | 3 => ("FacetSearch", "ruler", "LFacetSearch$Ruler;", true)
  | 4 => ("FacetSearch", "question", "LFacetSearch$Question;", true)
  | 5 => ("FacetSearch", "told", "LFacetSearch$Told;", true)
  | _ => ("FacetSearch", "alike", "LFacetSearch$Ranking;", true)
def y_Fs : Nat → FieldType := fun k => match k with
  | 0 => .object "FacetSearch$Pad"
  | 1 => .object "FacetSearch$Shelf"
  | 2 => .object "FacetSearch$Trees"
  | 3 => .object "FacetSearch$Ruler"
  | 4 => .object "FacetSearch$Question"
  | 5 => .object "FacetSearch$Told"
  | _ => .object "FacetSearch$Ranking"
def R_Pa : String := "FacetSearch$Pad"
def F_Pa : u_T := fun k => match k with
  | 0 => ("FacetSearch$Pad", "signs", "[I", true)
  | _ => ("FacetSearch$Pad", "length", "I", false)
def y_Pa : Nat → FieldType := fun k => match k with
  | 0 => .array .int
  | _ => .int
def R_Qu : String := "FacetSearch$Question"
def F_Qu : u_T := fun k => match k with
  | 0 => ("FacetSearch$Question", "kinds", "[I", true)
  | 1 => ("FacetSearch$Question", "words", "[J", true)
  | 2 => ("FacetSearch$Question", "first", "[I", true)
  | 3 => ("FacetSearch$Question", "second", "[I", true)
  | 4 => ("FacetSearch$Question", "size", "I", false)
  | 5 => ("FacetSearch$Question", "pad", "LFacetSearch$Pad;", true)
  | _ => ("FacetSearch$Question", "at", "I", false)
def y_Qu : Nat → FieldType := fun k => match k with
  | 0 => .array .int
  | 1 => .array .long
  | 2 => .array .int
  | 3 => .array .int
  | 4 => .int
  | 5 => .object "FacetSearch$Pad"
  | _ => .int
def R_Ra : String := "FacetSearch$Ranking"
def F_Ra : u_T := fun k => match k with
  | 0 => ("FacetSearch$Ranking", "records", "[I", true)
  | 1 => ("FacetSearch$Ranking", "points", "[I", true)
  | _ => ("FacetSearch$Ranking", "size", "I", false)
def y_Ra : Nat → FieldType := fun k => match k with
  | 0 => .array .int
  | 1 => .array .int
  | _ => .int
def R_Ru : String := "FacetSearch$Ruler"
def F_Ru : u_T := fun k => match k with
  | 0 => ("FacetSearch$Ruler", "one", "[I", true)
  | 1 => ("FacetSearch$Ruler", "two", "[I", true)
  | _ => ("FacetSearch$Ruler", "row", "[I", true)
def y_Ru : Nat → FieldType := fun k => match k with
  | 0 => .array .int
  | 1 => .array .int
  | _ => .array .int
def R_Sh : String := "FacetSearch$Shelf"
def F_Sh : u_T := fun k => match k with
  | 0 => ("FacetSearch$Shelf", "words", "[J", true)
  | 1 => ("FacetSearch$Shelf", "wordCounts", "[I", true)
  | 2 => ("FacetSearch$Shelf", "values", "[I", true)
  | 3 => ("FacetSearch$Shelf", "firstYears", "[I", true)
  | 4 => ("FacetSearch$Shelf", "lastYears", "[I", true)
  | 5 => ("FacetSearch$Shelf", "roles", "[I", true)
  | 6 => ("FacetSearch$Shelf", "size", "I", false)
  | 7 => ("FacetSearch$Shelf", "allWords", "I", false)
  | _ => ("FacetSearch$Shelf", "differentWords", "I", false)
def y_Sh : Nat → FieldType := fun k => match k with
  | 0 => .array .long
  | 1 => .array .int
  | 2 => .array .int
  | 3 => .array .int
  | 4 => .array .int
  | 5 => .array .int
  | 6 => .int
  | 7 => .int
  | _ => .int
def R_To : String := "FacetSearch$Told"
def F_To : u_T := fun k => match k with
  | 0 => ("FacetSearch$Told", "hits", "LFacetSearch$Ranking;", true)
  | 1 => ("FacetSearch$Told", "termScores", "[I", true)
  | 2 => ("FacetSearch$Told", "valueCounts", "[I", true)
  | _ => ("FacetSearch$Told", "terms", "I", false)
def y_To : Nat → FieldType := fun k => match k with
  | 0 => .object "FacetSearch$Ranking"
  | 1 => .array .int
  | 2 => .array .int
  | _ => .int
def R_Tr : String := "FacetSearch$Trees"
def F_Tr : u_T := fun k => match k with
  | _ => ("FacetSearch$Trees", "parents", "[I", true)
def y_Tr : Nat → FieldType := fun k => match k with
  | _ => .array .int
def R_Mo : String := "FacetSearchModel"
def F_Mo : u_T := fun k => match k with
  | 0 => ("FacetSearchModel", "thrown", "I", false)
  | 1 => ("FacetSearchModel", "padded", "I", false)
  | 2 => ("FacetSearchModel", "pad", "[I", true)
  | 3 => ("FacetSearchModel", "records", "I", false)
  | 4 => ("FacetSearchModel", "many", "[I", true)
  | 5 => ("FacetSearchModel", "lengths", "[I", true)
  | 6 => ("FacetSearchModel", "letters", "[I", true)
  | 7 => ("FacetSearchModel", "values", "[I", true)
  | 8 => ("FacetSearchModel", "parents", "[I", true)
  | 9 => ("FacetSearchModel", "froms", "[I", true)
  | 10 => ("FacetSearchModel", "tos", "[I", true)
  | 11 => ("FacetSearchModel", "hidden", "[Z", true)
  | 12 => ("FacetSearchModel", "read", "I", false)
  | 13 => ("FacetSearchModel", "kinds", "[I", true)
  | 14 => ("FacetSearchModel", "firsts", "[I", true)
  | 15 => ("FacetSearchModel", "seconds", "[I", true)
  | 16 => ("FacetSearchModel", "asked", "[I", true)
  | 17 => ("FacetSearchModel", "at", "I", false)
  | 18 => ("FacetSearchModel", "terms", "I", false)
  | 19 => ("FacetSearchModel", "hits", "I", false)
  | 20 => ("FacetSearchModel", "hitRecords", "[I", true)
  | 21 => ("FacetSearchModel", "hitScores", "[I", true)
  | 22 => ("FacetSearchModel", "parts", "[I", true)
  | 23 => ("FacetSearchModel", "partsOf", "[I", true)
  | 24 => ("FacetSearchModel", "totals", "[I", true)
  | 25 => ("FacetSearchModel", "counts", "[I", true)
  | 26 => ("FacetSearchModel", "table", "[I", true)
  | _ => ("FacetSearchModel", "order", "[I", true)
def y_Mo : Nat → FieldType := fun k => match k with
  | 0 => .int
  | 1 => .int
  | 2 => .array .int
  | 3 => .int
  | 4 => .array .int
  | 5 => .array .int
  | 6 => .array .int
  | 7 => .array .int
  | 8 => .array .int
  | 9 => .array .int
  | 10 => .array .int
  | 11 => .array .boolean
  | 12 => .int
  | 13 => .array .int
  | 14 => .array .int
  | 15 => .array .int
  | 16 => .array .int
  | 17 => .int
  | 18 => .int
  | 19 => .int
  | 20 => .array .int
  | 21 => .array .int
  | 22 => .array .int
  | 23 => .array .int
  | 24 => .array .int
  | 25 => .array .int
  | 26 => .array .int
  | _ => .array .int
def ab_cl : List vw_C := [(R_Fs, F_Fs, 7), (R_Pa, F_Pa, 2), (R_Qu, F_Qu, 7), (R_Ra, F_Ra, 3), (R_Ru, F_Ru, 3), (R_Sh, F_Sh, 9), (R_To, F_To, 4), (R_Tr, F_Tr, 1), (R_Mo, F_Mo, 28)]
def ab_ft (c : Nat) : Nat → FieldType := match c with
  | 0 => y_Fs
  | 1 => y_Pa
  | 2 => y_Qu
  | 3 => y_Ra
  | 4 => y_Ru
  | 5 => y_Sh
  | 6 => y_To
  | 7 => y_Tr
  | _ => y_Mo
def ab_df (c : Nat) : List Value := match c with
  | 0 => [.null, .null, .null, .null, .null, .null, .null]
  | 1 => [.null, .int 0]
  | 2 => [.null, .null, .null, .null, .int 0, .null, .int 0]
  | 3 => [.null, .null, .int 0]
  | 4 => [.null, .null, .null]
  | 5 => [.null, .null, .null, .null, .null, .null, .int 0, .int 0, .int 0]
  | 6 => [.null, .null, .null, .int 0]
  | 7 => [.null]
  | _ => [.int 0, .int 0, .null, .int 0, .null, .null, .null, .null, .null, .null, .null, .null, .int 0, .null, .null, .null, .null, .int 0, .int 0, .int 0, .null, .null, .null, .null, .null, .null, .null, .null]
def ab_G : List Cond := lw_tbl.filter goodWord
theorem ab_Gp {w : Cond} (i : Nat) (h : lw_tbl[i]? = some w) (hg : goodWord w = true) : w ∈ ab_G := List.mem_filter.mpr ⟨List.mem_of_getElem? h, hg⟩
theorem l_Fs : ∀ w ∈ u_ws R_Fs F_Fs 7, w ∈ ab_G := by
  have h : u_ws R_Fs F_Fs 7 = [238, 240, 242, 244, 246, 248, 250].filterMap (fun i => lw_tbl[i]?) ∧ (u_ws R_Fs F_Fs 7).all goodWord = true := by decide +kernel
  intro w hw
  have hg := List.all_eq_true.mp h.2 w hw
  rw [h.1] at hw
  obtain ⟨i, -, hi⟩ := List.mem_filterMap.mp hw
  exact ab_Gp i hi hg
theorem n_Fs : (∀ k, k < 7 → parseFieldDescriptor (F_Fs k).2.2.1 = some (y_Fs k)) ∧ (∀ a, a < 7 → ∀ b, b < 7 → a ≠ b → (F_Fs a).2.1 ≠ (F_Fs b).2.1) ∧ (∀ k, k < 7 → defaultValue (y_Fs k) = vp_V (ab_df 0) k) := by decide +kernel
theorem l_Pa : ∀ w ∈ u_ws R_Pa F_Pa 2, w ∈ ab_G := by
  have h : u_ws R_Pa F_Pa 2 = [73, 75].filterMap (fun i => lw_tbl[i]?) ∧ (u_ws R_Pa F_Pa 2).all goodWord = true := by decide +kernel
  intro w hw
  have hg := List.all_eq_true.mp h.2 w hw
  rw [h.1] at hw
  obtain ⟨i, -, hi⟩ := List.mem_filterMap.mp hw
  exact ab_Gp i hi hg
theorem n_Pa : (∀ k, k < 2 → parseFieldDescriptor (F_Pa k).2.2.1 = some (y_Pa k)) ∧ (∀ a, a < 2 → ∀ b, b < 2 → a ≠ b → (F_Pa a).2.1 ≠ (F_Pa b).2.1) ∧ (∀ k, k < 2 → defaultValue (y_Pa k) = vp_V (ab_df 1) k) := by decide +kernel
theorem l_Qu : ∀ w ∈ u_ws R_Qu F_Qu 7, w ∈ ab_G := by
  have h : u_ws R_Qu F_Qu 7 = [171, 173, 175, 177, 179, 181, 183].filterMap (fun i => lw_tbl[i]?) ∧ (u_ws R_Qu F_Qu 7).all goodWord = true := by decide +kernel
  intro w hw
  have hg := List.all_eq_true.mp h.2 w hw
  rw [h.1] at hw
  obtain ⟨i, -, hi⟩ := List.mem_filterMap.mp hw
  exact ab_Gp i hi hg
theorem n_Qu : (∀ k, k < 7 → parseFieldDescriptor (F_Qu k).2.2.1 = some (y_Qu k)) ∧ (∀ a, a < 7 → ∀ b, b < 7 → a ≠ b → (F_Qu a).2.1 ≠ (F_Qu b).2.1) ∧ (∀ k, k < 7 → defaultValue (y_Qu k) = vp_V (ab_df 2) k) := by decide +kernel
theorem l_Ra : ∀ w ∈ u_ws R_Ra F_Ra 3, w ∈ ab_G := by
  have h : u_ws R_Ra F_Ra 3 = [205, 207, 209].filterMap (fun i => lw_tbl[i]?) ∧ (u_ws R_Ra F_Ra 3).all goodWord = true := by decide +kernel
  intro w hw
  have hg := List.all_eq_true.mp h.2 w hw
  rw [h.1] at hw
  obtain ⟨i, -, hi⟩ := List.mem_filterMap.mp hw
  exact ab_Gp i hi hg
theorem n_Ra : (∀ k, k < 3 → parseFieldDescriptor (F_Ra k).2.2.1 = some (y_Ra k)) ∧ (∀ a, a < 3 → ∀ b, b < 3 → a ≠ b → (F_Ra a).2.1 ≠ (F_Ra b).2.1) ∧ (∀ k, k < 3 → defaultValue (y_Ra k) = vp_V (ab_df 3) k) := by decide +kernel
theorem l_Ru : ∀ w ∈ u_ws R_Ru F_Ru 3, w ∈ ab_G := by
  have h : u_ws R_Ru F_Ru 3 = [146, 148, 150].filterMap (fun i => lw_tbl[i]?) ∧ (u_ws R_Ru F_Ru 3).all goodWord = true := by decide +kernel
  intro w hw
  have hg := List.all_eq_true.mp h.2 w hw
  rw [h.1] at hw
  obtain ⟨i, -, hi⟩ := List.mem_filterMap.mp hw
  exact ab_Gp i hi hg
theorem n_Ru : (∀ k, k < 3 → parseFieldDescriptor (F_Ru k).2.2.1 = some (y_Ru k)) ∧ (∀ a, a < 3 → ∀ b, b < 3 → a ≠ b → (F_Ru a).2.1 ≠ (F_Ru b).2.1) ∧ (∀ k, k < 3 → defaultValue (y_Ru k) = vp_V (ab_df 4) k) := by decide +kernel
theorem l_Sh : ∀ w ∈ u_ws R_Sh F_Sh 9, w ∈ ab_G := by
  have h : u_ws R_Sh F_Sh 9 = [105, 107, 109, 111, 113, 115, 117, 119, 121].filterMap (fun i => lw_tbl[i]?) ∧ (u_ws R_Sh F_Sh 9).all goodWord = true := by decide +kernel
  intro w hw
  have hg := List.all_eq_true.mp h.2 w hw
  rw [h.1] at hw
  obtain ⟨i, -, hi⟩ := List.mem_filterMap.mp hw
  exact ab_Gp i hi hg
theorem n_Sh : (∀ k, k < 9 → parseFieldDescriptor (F_Sh k).2.2.1 = some (y_Sh k)) ∧ (∀ a, a < 9 → ∀ b, b < 9 → a ≠ b → (F_Sh a).2.1 ≠ (F_Sh b).2.1) ∧ (∀ k, k < 9 → defaultValue (y_Sh k) = vp_V (ab_df 5) k) := by decide +kernel
theorem l_To : ∀ w ∈ u_ws R_To F_To 4, w ∈ ab_G := by
  have h : u_ws R_To F_To 4 = [220, 222, 224, 226].filterMap (fun i => lw_tbl[i]?) ∧ (u_ws R_To F_To 4).all goodWord = true := by decide +kernel
  intro w hw
  have hg := List.all_eq_true.mp h.2 w hw
  rw [h.1] at hw
  obtain ⟨i, -, hi⟩ := List.mem_filterMap.mp hw
  exact ab_Gp i hi hg
theorem n_To : (∀ k, k < 4 → parseFieldDescriptor (F_To k).2.2.1 = some (y_To k)) ∧ (∀ a, a < 4 → ∀ b, b < 4 → a ≠ b → (F_To a).2.1 ≠ (F_To b).2.1) ∧ (∀ k, k < 4 → defaultValue (y_To k) = vp_V (ab_df 6) k) := by decide +kernel
theorem l_Tr : ∀ w ∈ u_ws R_Tr F_Tr 1, w ∈ ab_G := by
  have h : u_ws R_Tr F_Tr 1 = [134].filterMap (fun i => lw_tbl[i]?) ∧ (u_ws R_Tr F_Tr 1).all goodWord = true := by decide +kernel
  intro w hw
  have hg := List.all_eq_true.mp h.2 w hw
  rw [h.1] at hw
  obtain ⟨i, -, hi⟩ := List.mem_filterMap.mp hw
  exact ab_Gp i hi hg
theorem n_Tr : (∀ k, k < 1 → parseFieldDescriptor (F_Tr k).2.2.1 = some (y_Tr k)) ∧ (∀ a, a < 1 → ∀ b, b < 1 → a ≠ b → (F_Tr a).2.1 ≠ (F_Tr b).2.1) ∧ (∀ k, k < 1 → defaultValue (y_Tr k) = vp_V (ab_df 7) k) := by decide +kernel
theorem l_Mo : ∀ w ∈ u_ws R_Mo F_Mo 28, w ∈ ab_G := by
  have h : u_ws R_Mo F_Mo 28 = [697, 699, 701, 703, 705, 707, 709, 711, 713, 715, 717, 719, 721, 723, 725, 727, 729, 731, 733, 735, 737, 739, 741, 743, 745, 747, 749, 751].filterMap (fun i => lw_tbl[i]?) ∧ (u_ws R_Mo F_Mo 28).all goodWord = true := by decide +kernel
  intro w hw
  have hg := List.all_eq_true.mp h.2 w hw
  rw [h.1] at hw
  obtain ⟨i, -, hi⟩ := List.mem_filterMap.mp hw
  exact ab_Gp i hi hg
theorem n_Mo : (∀ k, k < 28 → parseFieldDescriptor (F_Mo k).2.2.1 = some (y_Mo k)) ∧ (∀ a, a < 28 → ∀ b, b < 28 → a ≠ b → (F_Mo a).2.1 ≠ (F_Mo b).2.1) ∧ (∀ k, k < 28 → defaultValue (y_Mo k) = vp_V (ab_df 8) k) := by decide +kernel
theorem ab_cl_ok (ci : Nat) (C : String) (T : u_T) (N : Nat) (h : ab_cl[ci]? = some (C, T, N)) : (∀ w ∈ u_ws C T N, w ∈ ab_G) ∧ (∀ k, k < N → parseFieldDescriptor (T k).2.2.1 = some (ab_ft ci k)) ∧ (∀ a, a < N → ∀ b, b < N → a ≠ b → (T a).2.1 ≠ (T b).2.1) ∧ (∀ j, j < N → defaultValue (ab_ft ci j) = vp_V (ab_df ci) j) ∧ ∀ v ∈ ab_df ci, ∀ k, v ≠ .ref k := by
  match ci, h with
  | 0, h =>
    have h9 : (R_Fs, F_Fs, 7) = (C, T, N) := Option.some.inj h
    cases h9
    exact ⟨l_Fs, n_Fs.1, n_Fs.2.1, n_Fs.2.2, by simp [ab_df]⟩
  | 1, h =>
    have h9 : (R_Pa, F_Pa, 2) = (C, T, N) := Option.some.inj h
    cases h9
    exact ⟨l_Pa, n_Pa.1, n_Pa.2.1, n_Pa.2.2, by simp [ab_df]⟩
  | 2, h =>
    have h9 : (R_Qu, F_Qu, 7) = (C, T, N) := Option.some.inj h
    cases h9
    exact ⟨l_Qu, n_Qu.1, n_Qu.2.1, n_Qu.2.2, by simp [ab_df]⟩
  | 3, h =>
    have h9 : (R_Ra, F_Ra, 3) = (C, T, N) := Option.some.inj h
    cases h9
    exact ⟨l_Ra, n_Ra.1, n_Ra.2.1, n_Ra.2.2, by simp [ab_df]⟩
  | 4, h =>
    have h9 : (R_Ru, F_Ru, 3) = (C, T, N) := Option.some.inj h
    cases h9
    exact ⟨l_Ru, n_Ru.1, n_Ru.2.1, n_Ru.2.2, by simp [ab_df]⟩
  | 5, h =>
    have h9 : (R_Sh, F_Sh, 9) = (C, T, N) := Option.some.inj h
    cases h9
    exact ⟨l_Sh, n_Sh.1, n_Sh.2.1, n_Sh.2.2, by simp [ab_df]⟩
  | 6, h =>
    have h9 : (R_To, F_To, 4) = (C, T, N) := Option.some.inj h
    cases h9
    exact ⟨l_To, n_To.1, n_To.2.1, n_To.2.2, by simp [ab_df]⟩
  | 7, h =>
    have h9 : (R_Tr, F_Tr, 1) = (C, T, N) := Option.some.inj h
    cases h9
    exact ⟨l_Tr, n_Tr.1, n_Tr.2.1, n_Tr.2.2, by simp [ab_df]⟩
  | 8, h =>
    have h9 : (R_Mo, F_Mo, 28) = (C, T, N) := Option.some.inj h
    cases h9
    exact ⟨l_Mo, n_Mo.1, n_Mo.2.1, n_Mo.2.2, by simp [ab_df]⟩
  | k + 9, h => exact absurd h (by simp [ab_cl])
theorem ab_mx : Cond.static Lib.Math.max.name ∈ ab_G ∧ Cond.initialized "java/lang/Math" ∈ ab_G ∧ Cond.code Lib.Math.max.name Lib.Math.max.code 2 (some .int) ∈ ab_G := ⟨ab_Gp 584 (by decide +kernel) rfl, ab_Gp 54 (by decide +kernel) rfl, ab_Gp 585 (by decide +kernel) rfl⟩
theorem ab_mn : Cond.static Lib.Math.min.name ∈ ab_G ∧ Cond.initialized "java/lang/Math" ∈ ab_G ∧ Cond.code Lib.Math.min.name Lib.Math.min.code 2 (some .int) ∈ ab_G := ⟨ab_Gp 573 (by decide +kernel) rfl, ab_Gp 54 (by decide +kernel) rfl, ab_Gp 574 (by decide +kernel) rfl⟩
theorem ab_ma : Cond.static Lib.Math.abs.name ∈ ab_G ∧ Cond.initialized "java/lang/Math" ∈ ab_G ∧ Cond.code Lib.Math.abs.name Lib.Math.abs.code 1 (some .int) ∈ ab_G := ⟨ab_Gp 566 (by decide +kernel) rfl, ab_Gp 54 (by decide +kernel) rfl, ab_Gp 567 (by decide +kernel) rfl⟩
theorem ab_oi : Cond.instanceMethod objectInit ∈ ab_G ∧ Cond.code objectInit ⟨#[0xb1]⟩ 1 none ∈ ab_G := ⟨ab_Gp 61 (by decide +kernel) rfl, ab_Gp 62 (by decide +kernel) rfl⟩
