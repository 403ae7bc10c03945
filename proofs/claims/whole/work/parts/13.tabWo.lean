/-! tables of methods, by program (gen/mk.py): FacetSearch$Words -/
def cd_Wo_withLetter : List (Nat × ab_I) := [(0, .lload_n 0, 0, 0, 0, 0, 0), (1, .iload_n 3, 0, 3, 0, 0, 0), (2, .bipush 96, 0, 0, 0, 0, 96), (4, .isub, 0, 0, 0, 0, 0), (5, .i2l, 0, 0, 0, 0, 0), (6, .iconst 5, 0, 0, 0, 0, 5), (7, .bipush 9, 0, 0, 0, 0, 9), (9, .iload_n 2, 0, 2, 0, 0, 0), (10, .isub, 0, 0, 0, 0, 0), (11, .imul, 0, 0, 0, 0, 0), (12, .lshl, 0, 0, 0, 0, 0), (13, .lor, 0, 0, 0, 0, 0), (14, .lreturn, 0, 0, 0, 0, 0)]
def M_Wo_withLetter : ab_M := ("FacetSearch$Words", ⟨"FacetSearch$Words", "withLetter", "(JII)J"⟩, prog_9_method_4_code, 4, some .long, false, cd_Wo_withLetter, [])
theorem ok_Wo_withLetter : ab_Mok M_Wo_withLetter := by unfold ab_Mok; decide +kernel
theorem ca_Wo_withLetter : ab_cal M_Wo_withLetter 3 := ⟨ab_Gp 407 (by decide +kernel) rfl, ab_Gp 53 (by decide +kernel) rfl, ⟨by decide +kernel, by decide +kernel⟩, by decide +kernel⟩
def cd_Wo_lengthOf : List (Nat × ab_I) := [(0, .iconst 0, 0, 0, 0, 0, 0), (1, .istore_n 2, 0, 2, 0, 0, 0), (2, .iload_n 2, 0, 2, 0, 0, 0), (3, .bipush 10, 0, 0, 0, 0, 10), (5, .if_icmp .ge 17, 0, 22, 0, 0, 0), (8, .lload_n 0, 0, 0, 0, 0, 0), (9, .iload_n 2, 0, 2, 0, 0, 0), (10, .invokestatic 9, 0, 0, 0, 411, 0), (13, .ifCond .eq 9, 0, 22, 0, 0, 0), (16, .iinc 2 1, 0, 2, 0, 0, 1), (19, .goto (-17), 0, 2, 0, 0, 0), (22, .iload_n 2, 0, 2, 0, 0, 0), (23, .ireturn, 0, 0, 0, 0, 0)]
def M_Wo_lengthOf : ab_M := ("FacetSearch$Words", ⟨"FacetSearch$Words", "lengthOf", "(J)I"⟩, prog_9_method_2_code, 3, some .int, false, cd_Wo_lengthOf, [])
theorem ok_Wo_lengthOf : ab_Mok M_Wo_lengthOf := by unfold ab_Mok; decide +kernel
theorem ca_Wo_lengthOf : ab_cal M_Wo_lengthOf 1 := ⟨ab_Gp 410 (by decide +kernel) rfl, ab_Gp 53 (by decide +kernel) rfl, ⟨by decide +kernel, by decide +kernel⟩, by decide +kernel⟩
def cd_Wo_codeAt : List (Nat × ab_I) := [(0, .lload_n 0, 0, 0, 0, 0, 0), (1, .iconst 5, 0, 0, 0, 0, 5), (2, .bipush 9, 0, 0, 0, 0, 9), (4, .iload_n 2, 0, 2, 0, 0, 0), (5, .isub, 0, 0, 0, 0, 0), (6, .imul, 0, 0, 0, 0, 0), (7, .lshr, 0, 0, 0, 0, 0), (8, .l2i, 0, 0, 0, 0, 0), (9, .bipush 31, 0, 0, 0, 0, 31), (11, .iand, 0, 0, 0, 0, 0), (12, .ireturn, 0, 0, 0, 0, 0)]
def M_Wo_codeAt : ab_M := ("FacetSearch$Words", ⟨"FacetSearch$Words", "codeAt", "(JI)I"⟩, prog_9_method_5_code, 3, some .int, false, cd_Wo_codeAt, [])
theorem ok_Wo_codeAt : ab_Mok M_Wo_codeAt := by unfold ab_Mok; decide +kernel
theorem ca_Wo_codeAt : ab_cal M_Wo_codeAt 2 := ⟨ab_Gp 413 (by decide +kernel) rfl, ab_Gp 53 (by decide +kernel) rfl, ⟨by decide +kernel, by decide +kernel⟩, by decide +kernel⟩
def cd_Wo_letterOf : List (Nat × ab_I) := [(0, .lload_n 0, 0, 0, 0, 0, 0), (1, .iload_n 2, 0, 2, 0, 0, 0), (2, .invokestatic 9, 0, 0, 0, 411, 0), (5, .bipush 96, 0, 0, 0, 0, 96), (7, .iadd, 0, 0, 0, 0, 0), (8, .ireturn, 0, 0, 0, 0, 0)]
def M_Wo_letterOf : ab_M := ("FacetSearch$Words", ⟨"FacetSearch$Words", "letterOf", "(JI)I"⟩, prog_9_method_3_code, 3, some .int, false, cd_Wo_letterOf, [])
theorem ok_Wo_letterOf : ab_Mok M_Wo_letterOf := by unfold ab_Mok; decide +kernel
theorem ca_Wo_letterOf : ab_cal M_Wo_letterOf 2 := ⟨ab_Gp 654 (by decide +kernel) rfl, ab_Gp 53 (by decide +kernel) rfl, ⟨by decide +kernel, by decide +kernel⟩, by decide +kernel⟩
