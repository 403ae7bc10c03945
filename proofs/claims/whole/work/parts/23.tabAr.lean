/-! tables of methods, by program (gen/mk.py): java/util/Arrays -/
def cd_Ar_fill : List (Nat × ab_I) := [(0, .iconst 0, 0, 0, 0, 0, 0), (1, .istore_n 2, 0, 2, 0, 0, 0), (2, .aload_n 0, 0, 0, 0, 0, 0), (3, .arraylength, 0, 0, 0, 0, 0), (4, .istore_n 3, 0, 3, 0, 0, 0), (5, .iload_n 2, 0, 2, 0, 0, 0), (6, .iload_n 3, 0, 3, 0, 0, 0), (7, .if_icmp .ge 13, 0, 20, 0, 0, 0), (10, .aload_n 0, 0, 0, 0, 0, 0), (11, .iload_n 2, 0, 2, 0, 0, 0), (12, .iload_n 1, 0, 1, 0, 0, 0), (13, .iastore, 0, 0, 0, 0, 0), (14, .iinc 2 1, 0, 2, 0, 0, 1), (17, .goto (-12), 0, 5, 0, 0, 0), (20, .return_, 0, 0, 0, 0, 0)]
def M_Ar_fill : ab_M := ("java/util/Arrays", ⟨"java/util/Arrays", "fill", "([II)V"⟩, prog_19_method_103_code, 4, none, false, cd_Ar_fill, [])
theorem ok_Ar_fill : ab_Mok M_Ar_fill := by unfold ab_Mok; decide +kernel
theorem ca_Ar_fill : ab_cal M_Ar_fill 2 := ⟨ab_Gp 87 (by decide +kernel) rfl, ab_Gp 40 (by decide +kernel) rfl, ⟨by decide +kernel, by decide +kernel⟩, by decide +kernel⟩
