section
-- ===== PART A: goes FIRST, ahead of the names: the tables' words, and 'selects' of the private methods out of them =====
/-- a private method of a class that the tables say can be made, by its rows of tables_1 -/
def lw_okq (q : MethodName × Nat) : Prop := (q.1.cls ≠ "java/lang/invoke/MethodHandle" ∧ q.1.cls ≠ "java/lang/invoke/VarHandle") ∧ Cond.instantiable q.1.cls q.2 ∈ tables_1 ∧ Cond.privateMethod q.1 ∈ tables_1 ∧ Cond.instanceMethod q.1 ∈ tables_1
theorem lw_p0 : lw_okq (⟨"java/lang/Throwable", "fillInStackTrace", "(I)Ljava/lang/Throwable;"⟩, 6) := ⟨⟨by decide +kernel, by decide +kernel⟩, List.mem_of_getElem? (i := 273) (by decide +kernel), List.mem_of_getElem? (i := 271) (by decide +kernel), List.mem_of_getElem? (i := 272) (by decide +kernel)⟩
theorem lw_p1 : lw_okq (⟨"FacetSearch", "requireRecord", "(I)V"⟩, 7) := ⟨⟨by decide +kernel, by decide +kernel⟩, List.mem_of_getElem? (i := 20) (by decide +kernel), List.mem_of_getElem? (i := 342) (by decide +kernel), List.mem_of_getElem? (i := 343) (by decide +kernel)⟩
theorem lw_p2 : lw_okq (⟨"FacetSearch$Shelf", "isKnown", "(J)Z"⟩, 9) := ⟨⟨by decide +kernel, by decide +kernel⟩, List.mem_of_getElem? (i := 44) (by decide +kernel), List.mem_of_getElem? (i := 393) (by decide +kernel), List.mem_of_getElem? (i := 394) (by decide +kernel)⟩
theorem lw_p3 : lw_okq (⟨"FacetSearch$Trees", "parentOf", "(II)I"⟩, 1) := ⟨⟨by decide +kernel, by decide +kernel⟩, List.mem_of_getElem? (i := 90) (by decide +kernel), List.mem_of_getElem? (i := 431) (by decide +kernel), List.mem_of_getElem? (i := 432) (by decide +kernel)⟩
theorem lw_p4 : lw_okq (⟨"FacetSearch$Question", "skipSpaces", "()V"⟩, 7) := ⟨⟨by decide +kernel, by decide +kernel⟩, List.mem_of_getElem? (i := 118) (by decide +kernel), List.mem_of_getElem? (i := 469) (by decide +kernel), List.mem_of_getElem? (i := 470) (by decide +kernel)⟩
theorem lw_p5 : lw_okq (⟨"FacetSearch$Question", "readTerm", "(I)Z"⟩, 7) := ⟨⟨by decide +kernel, by decide +kernel⟩, List.mem_of_getElem? (i := 118) (by decide +kernel), List.mem_of_getElem? (i := 474) (by decide +kernel), List.mem_of_getElem? (i := 475) (by decide +kernel)⟩
theorem lw_p6 : lw_okq (⟨"FacetSearch$Question", "readYears", "(I)Z"⟩, 7) := ⟨⟨by decide +kernel, by decide +kernel⟩, List.mem_of_getElem? (i := 118) (by decide +kernel), List.mem_of_getElem? (i := 478) (by decide +kernel), List.mem_of_getElem? (i := 479) (by decide +kernel)⟩
theorem lw_p7 : lw_okq (⟨"FacetSearch$Question", "readNumber", "(II)I"⟩, 7) := ⟨⟨by decide +kernel, by decide +kernel⟩, List.mem_of_getElem? (i := 118) (by decide +kernel), List.mem_of_getElem? (i := 482) (by decide +kernel), List.mem_of_getElem? (i := 483) (by decide +kernel)⟩
theorem lw_p8 : lw_okq (⟨"FacetSearch$Question", "take", "(I)Z"⟩, 7) := ⟨⟨by decide +kernel, by decide +kernel⟩, List.mem_of_getElem? (i := 118) (by decide +kernel), List.mem_of_getElem? (i := 486) (by decide +kernel), List.mem_of_getElem? (i := 487) (by decide +kernel)⟩
theorem lw_p9 : lw_okq (⟨"FacetSearch$Question", "readValue", "(I)Z"⟩, 7) := ⟨⟨by decide +kernel, by decide +kernel⟩, List.mem_of_getElem? (i := 118) (by decide +kernel), List.mem_of_getElem? (i := 490) (by decide +kernel), List.mem_of_getElem? (i := 491) (by decide +kernel)⟩
theorem lw_p10 : lw_okq (⟨"FacetSearch$Question", "readWord", "(I)Z"⟩, 7) := ⟨⟨by decide +kernel, by decide +kernel⟩, List.mem_of_getElem? (i := 118) (by decide +kernel), List.mem_of_getElem? (i := 494) (by decide +kernel), List.mem_of_getElem? (i := 495) (by decide +kernel)⟩
theorem lw_p11 : lw_okq (⟨"FacetSearch$Question", "isBehindTerm", "()Z"⟩, 7) := ⟨⟨by decide +kernel, by decide +kernel⟩, List.mem_of_getElem? (i := 118) (by decide +kernel), List.mem_of_getElem? (i := 500) (by decide +kernel), List.mem_of_getElem? (i := 501) (by decide +kernel)⟩
theorem lw_p12 : lw_okq (⟨"FacetSearch", "tellIfHit", "(I)V"⟩, 7) := ⟨⟨by decide +kernel, by decide +kernel⟩, List.mem_of_getElem? (i := 20) (by decide +kernel), List.mem_of_getElem? (i := 509) (by decide +kernel), List.mem_of_getElem? (i := 510) (by decide +kernel)⟩
theorem lw_p13 : lw_okq (⟨"FacetSearch", "termScore", "(II)I"⟩, 7) := ⟨⟨by decide +kernel, by decide +kernel⟩, List.mem_of_getElem? (i := 20) (by decide +kernel), List.mem_of_getElem? (i := 513) (by decide +kernel), List.mem_of_getElem? (i := 514) (by decide +kernel)⟩
theorem lw_p14 : lw_okq (⟨"FacetSearch", "nearestBelow", "(JII)I"⟩, 7) := ⟨⟨by decide +kernel, by decide +kernel⟩, List.mem_of_getElem? (i := 20) (by decide +kernel), List.mem_of_getElem? (i := 517) (by decide +kernel), List.mem_of_getElem? (i := 518) (by decide +kernel)⟩
theorem lw_p15 : lw_okq (⟨"FacetSearch$Ruler", "nextRow", "(II)I"⟩, 3) := ⟨⟨by decide +kernel, by decide +kernel⟩, List.mem_of_getElem? (i := 102) (by decide +kernel), List.mem_of_getElem? (i := 533) (by decide +kernel), List.mem_of_getElem? (i := 534) (by decide +kernel)⟩
def lw_privs_1 : List (MethodName × Nat) := [(⟨"java/lang/Throwable", "fillInStackTrace", "(I)Ljava/lang/Throwable;"⟩, 6), (⟨"FacetSearch", "requireRecord", "(I)V"⟩, 7), (⟨"FacetSearch$Shelf", "isKnown", "(J)Z"⟩, 9), (⟨"FacetSearch$Trees", "parentOf", "(II)I"⟩, 1), (⟨"FacetSearch$Question", "skipSpaces", "()V"⟩, 7), (⟨"FacetSearch$Question", "readTerm", "(I)Z"⟩, 7), (⟨"FacetSearch$Question", "readYears", "(I)Z"⟩, 7), (⟨"FacetSearch$Question", "readNumber", "(II)I"⟩, 7), (⟨"FacetSearch$Question", "take", "(I)Z"⟩, 7), (⟨"FacetSearch$Question", "readValue", "(I)Z"⟩, 7), (⟨"FacetSearch$Question", "readWord", "(I)Z"⟩, 7), (⟨"FacetSearch$Question", "isBehindTerm", "()Z"⟩, 7), (⟨"FacetSearch", "tellIfHit", "(I)V"⟩, 7), (⟨"FacetSearch", "termScore", "(II)I"⟩, 7), (⟨"FacetSearch", "nearestBelow", "(JII)I"⟩, 7), (⟨"FacetSearch$Ruler", "nextRow", "(II)I"⟩, 3)]
theorem lw_r1 : ∀ q ∈ lw_privs_1, lw_okq q := List.forall_mem_cons.mpr ⟨lw_p0, List.forall_mem_cons.mpr ⟨lw_p1, List.forall_mem_cons.mpr ⟨lw_p2, List.forall_mem_cons.mpr ⟨lw_p3, List.forall_mem_cons.mpr ⟨lw_p4, List.forall_mem_cons.mpr ⟨lw_p5, List.forall_mem_cons.mpr ⟨lw_p6, List.forall_mem_cons.mpr ⟨lw_p7, List.forall_mem_cons.mpr ⟨lw_p8, List.forall_mem_cons.mpr ⟨lw_p9, List.forall_mem_cons.mpr ⟨lw_p10, List.forall_mem_cons.mpr ⟨lw_p11, List.forall_mem_cons.mpr ⟨lw_p12, List.forall_mem_cons.mpr ⟨lw_p13, List.forall_mem_cons.mpr ⟨lw_p14, List.forall_mem_cons.mpr ⟨lw_p15, fun _ h => absurd h List.not_mem_nil⟩⟩⟩⟩⟩⟩⟩⟩⟩⟩⟩⟩⟩⟩⟩⟩
theorem lw_p16 : lw_okq (⟨"FacetSearch", "valueScore", "(III)I"⟩, 7) := ⟨⟨by decide +kernel, by decide +kernel⟩, List.mem_of_getElem? (i := 20) (by decide +kernel), List.mem_of_getElem? (i := 540) (by decide +kernel), List.mem_of_getElem? (i := 541) (by decide +kernel)⟩
theorem lw_p17 : lw_okq (⟨"FacetSearch", "requireHit", "(I)V"⟩, 7) := ⟨⟨by decide +kernel, by decide +kernel⟩, List.mem_of_getElem? (i := 20) (by decide +kernel), List.mem_of_getElem? (i := 567) (by decide +kernel), List.mem_of_getElem? (i := 568) (by decide +kernel)⟩
theorem lw_p18 : lw_okq (⟨"FacetSearchModel", "goes", "(ZZZ)Z"⟩, 28) := ⟨⟨by decide +kernel, by decide +kernel⟩, List.mem_of_getElem? (i := 628) (by decide +kernel), List.mem_of_getElem? (i := 735) (by decide +kernel), List.mem_of_getElem? (i := 736) (by decide +kernel)⟩
theorem lw_p19 : lw_okq (⟨"FacetSearchModel", "take", "(I)V"⟩, 28) := ⟨⟨by decide +kernel, by decide +kernel⟩, List.mem_of_getElem? (i := 628) (by decide +kernel), List.mem_of_getElem? (i := 739) (by decide +kernel), List.mem_of_getElem? (i := 740) (by decide +kernel)⟩
theorem lw_p20 : lw_okq (⟨"FacetSearchModel", "isRecord", "(I)Z"⟩, 28) := ⟨⟨by decide +kernel, by decide +kernel⟩, List.mem_of_getElem? (i := 628) (by decide +kernel), List.mem_of_getElem? (i := 758) (by decide +kernel), List.mem_of_getElem? (i := 759) (by decide +kernel)⟩
theorem lw_p21 : lw_okq (⟨"FacetSearchModel", "isWord", "()Z"⟩, 28) := ⟨⟨by decide +kernel, by decide +kernel⟩, List.mem_of_getElem? (i := 628) (by decide +kernel), List.mem_of_getElem? (i := 762) (by decide +kernel), List.mem_of_getElem? (i := 763) (by decide +kernel)⟩
theorem lw_p22 : lw_okq (⟨"FacetSearchModel", "isIn", "(III)Z"⟩, 28) := ⟨⟨by decide +kernel, by decide +kernel⟩, List.mem_of_getElem? (i := 628) (by decide +kernel), List.mem_of_getElem? (i := 777) (by decide +kernel), List.mem_of_getElem? (i := 778) (by decide +kernel)⟩
theorem lw_p23 : lw_okq (⟨"FacetSearchModel", "reads", "()Z"⟩, 28) := ⟨⟨by decide +kernel, by decide +kernel⟩, List.mem_of_getElem? (i := 628) (by decide +kernel), List.mem_of_getElem? (i := 793) (by decide +kernel), List.mem_of_getElem? (i := 794) (by decide +kernel)⟩
theorem lw_p24 : lw_okq (⟨"FacetSearchModel", "takes", "(I)Z"⟩, 28) := ⟨⟨by decide +kernel, by decide +kernel⟩, List.mem_of_getElem? (i := 628) (by decide +kernel), List.mem_of_getElem? (i := 797) (by decide +kernel), List.mem_of_getElem? (i := 798) (by decide +kernel)⟩
theorem lw_p25 : lw_okq (⟨"FacetSearchModel", "sign", "()I"⟩, 28) := ⟨⟨by decide +kernel, by decide +kernel⟩, List.mem_of_getElem? (i := 628) (by decide +kernel), List.mem_of_getElem? (i := 801) (by decide +kernel), List.mem_of_getElem? (i := 802) (by decide +kernel)⟩
theorem lw_p26 : lw_okq (⟨"FacetSearchModel", "term", "()Z"⟩, 28) := ⟨⟨by decide +kernel, by decide +kernel⟩, List.mem_of_getElem? (i := 628) (by decide +kernel), List.mem_of_getElem? (i := 805) (by decide +kernel), List.mem_of_getElem? (i := 806) (by decide +kernel)⟩
theorem lw_p27 : lw_okq (⟨"FacetSearchModel", "digits", "(II)I"⟩, 28) := ⟨⟨by decide +kernel, by decide +kernel⟩, List.mem_of_getElem? (i := 628) (by decide +kernel), List.mem_of_getElem? (i := 809) (by decide +kernel), List.mem_of_getElem? (i := 810) (by decide +kernel)⟩
theorem lw_p28 : lw_okq (⟨"FacetSearchModel", "note", "(I)V"⟩, 28) := ⟨⟨by decide +kernel, by decide +kernel⟩, List.mem_of_getElem? (i := 628) (by decide +kernel), List.mem_of_getElem? (i := 813) (by decide +kernel), List.mem_of_getElem? (i := 814) (by decide +kernel)⟩
theorem lw_p29 : lw_okq (⟨"FacetSearchModel", "scored", "(II)I"⟩, 28) := ⟨⟨by decide +kernel, by decide +kernel⟩, List.mem_of_getElem? (i := 628) (by decide +kernel), List.mem_of_getElem? (i := 817) (by decide +kernel), List.mem_of_getElem? (i := 818) (by decide +kernel)⟩
theorem lw_p30 : lw_okq (⟨"FacetSearchModel", "distance", "(III)I"⟩, 28) := ⟨⟨by decide +kernel, by decide +kernel⟩, List.mem_of_getElem? (i := 628) (by decide +kernel), List.mem_of_getElem? (i := 821) (by decide +kernel), List.mem_of_getElem? (i := 822) (by decide +kernel)⟩
theorem lw_p31 : lw_okq (⟨"FacetSearchModel", "asks", "(IIII)I"⟩, 28) := ⟨⟨by decide +kernel, by decide +kernel⟩, List.mem_of_getElem? (i := 628) (by decide +kernel), List.mem_of_getElem? (i := 825) (by decide +kernel), List.mem_of_getElem? (i := 826) (by decide +kernel)⟩
def lw_privs_2 : List (MethodName × Nat) := [(⟨"FacetSearch", "valueScore", "(III)I"⟩, 7), (⟨"FacetSearch", "requireHit", "(I)V"⟩, 7), (⟨"FacetSearchModel", "goes", "(ZZZ)Z"⟩, 28), (⟨"FacetSearchModel", "take", "(I)V"⟩, 28), (⟨"FacetSearchModel", "isRecord", "(I)Z"⟩, 28), (⟨"FacetSearchModel", "isWord", "()Z"⟩, 28), (⟨"FacetSearchModel", "isIn", "(III)Z"⟩, 28), (⟨"FacetSearchModel", "reads", "()Z"⟩, 28), (⟨"FacetSearchModel", "takes", "(I)Z"⟩, 28), (⟨"FacetSearchModel", "sign", "()I"⟩, 28), (⟨"FacetSearchModel", "term", "()Z"⟩, 28), (⟨"FacetSearchModel", "digits", "(II)I"⟩, 28), (⟨"FacetSearchModel", "note", "(I)V"⟩, 28), (⟨"FacetSearchModel", "scored", "(II)I"⟩, 28), (⟨"FacetSearchModel", "distance", "(III)I"⟩, 28), (⟨"FacetSearchModel", "asks", "(IIII)I"⟩, 28)]
theorem lw_r2 : ∀ q ∈ lw_privs_2, lw_okq q := List.forall_mem_cons.mpr ⟨lw_p16, List.forall_mem_cons.mpr ⟨lw_p17, List.forall_mem_cons.mpr ⟨lw_p18, List.forall_mem_cons.mpr ⟨lw_p19, List.forall_mem_cons.mpr ⟨lw_p20, List.forall_mem_cons.mpr ⟨lw_p21, List.forall_mem_cons.mpr ⟨lw_p22, List.forall_mem_cons.mpr ⟨lw_p23, List.forall_mem_cons.mpr ⟨lw_p24, List.forall_mem_cons.mpr ⟨lw_p25, List.forall_mem_cons.mpr ⟨lw_p26, List.forall_mem_cons.mpr ⟨lw_p27, List.forall_mem_cons.mpr ⟨lw_p28, List.forall_mem_cons.mpr ⟨lw_p29, List.forall_mem_cons.mpr ⟨lw_p30, List.forall_mem_cons.mpr ⟨lw_p31, fun _ h => absurd h List.not_mem_nil⟩⟩⟩⟩⟩⟩⟩⟩⟩⟩⟩⟩⟩⟩⟩⟩
theorem lw_p32 : lw_okq (⟨"FacetSearchModel", "shared", "(II)I"⟩, 28) := ⟨⟨by decide +kernel, by decide +kernel⟩, List.mem_of_getElem? (i := 628) (by decide +kernel), List.mem_of_getElem? (i := 852) (by decide +kernel), List.mem_of_getElem? (i := 853) (by decide +kernel)⟩
theorem lw_p33 : lw_okq (⟨"FacetSearchModel", "isSame", "(II)Z"⟩, 28) := ⟨⟨by decide +kernel, by decide +kernel⟩, List.mem_of_getElem? (i := 628) (by decide +kernel), List.mem_of_getElem? (i := 856) (by decide +kernel), List.mem_of_getElem? (i := 857) (by decide +kernel)⟩
theorem lw_p34 : lw_okq (⟨"FacetSearchModel", "isAhead", "(II)Z"⟩, 28) := ⟨⟨by decide +kernel, by decide +kernel⟩, List.mem_of_getElem? (i := 628) (by decide +kernel), List.mem_of_getElem? (i := 864) (by decide +kernel), List.mem_of_getElem? (i := 865) (by decide +kernel)⟩
theorem lw_p35 : lw_okq (⟨"FacetSearchModel", "different", "()I"⟩, 28) := ⟨⟨by decide +kernel, by decide +kernel⟩, List.mem_of_getElem? (i := 628) (by decide +kernel), List.mem_of_getElem? (i := 872) (by decide +kernel), List.mem_of_getElem? (i := 873) (by decide +kernel)⟩
def lw_privs_3 : List (MethodName × Nat) := [(⟨"FacetSearchModel", "shared", "(II)I"⟩, 28), (⟨"FacetSearchModel", "isSame", "(II)Z"⟩, 28), (⟨"FacetSearchModel", "isAhead", "(II)Z"⟩, 28), (⟨"FacetSearchModel", "different", "()I"⟩, 28)]
theorem lw_r3 : ∀ q ∈ lw_privs_3, lw_okq q := List.forall_mem_cons.mpr ⟨lw_p32, List.forall_mem_cons.mpr ⟨lw_p33, List.forall_mem_cons.mpr ⟨lw_p34, List.forall_mem_cons.mpr ⟨lw_p35, fun _ h => absurd h List.not_mem_nil⟩⟩⟩⟩
def lw_privs : List (MethodName × Nat) := lw_privs_1 ++ (lw_privs_2 ++ (lw_privs_3))
def lw_tbl : List Cond := k2_sels lw_privs ++ tables_1
theorem lw_privs_ok : ∀ q ∈ lw_privs, lw_okq q := by
  show ∀ q ∈ lw_privs_1 ++ (lw_privs_2 ++ (lw_privs_3)), lw_okq q
  exact List.forall_mem_append.mpr ⟨lw_r1, List.forall_mem_append.mpr ⟨lw_r2, lw_r3⟩⟩
end
section
/-! names, by program (gen/names.py): classes, their words; the words that a call keeps -/
def R_Fs : String := "FacetSearch"
def F_Fs : u_T := fun k => match k with
  | 0 => ("FacetSearch", "pad", "LFacetSearch$Pad;", true)
  | 1 => ("FacetSearch", "shelf", "LFacetSearch$Shelf;", true)
  | 2 => ("FacetSearch", "trees", "LFacetSearch$Trees;", true)
  | 3 => ("FacetSearch", "ruler", "LFacetSearch$Ruler;", true)
  | 4 => ("FacetSearch", "question", "LFacetSearch$Question;", true)
  | 5 => ("FacetSearch", "told", "LFacetSearch$Told;", true)
  | _ => ("FacetSearch", "alike", "LFacetSearch$Ranking;", true)
def y_Fs : Nat → FieldType := fun k => match k with
  | 0 => .object "FacetSearch$Pad"
  | 1 => .object "FacetSearch$Shelf"
  | 2 => .object "FacetSearch$Trees"
  | 3 => .object "FacetSearch$Ruler"
  | 4 => .object "FacetSearch$Question"
  | 5 => .object "FacetSearch$Told"
  | _ => .object "FacetSearch$Ranking"
def R_Pa : String := "FacetSearch$Pad"
def F_Pa : u_T := fun k => match k with
  | 0 => ("FacetSearch$Pad", "signs", "[I", true)
  | _ => ("FacetSearch$Pad", "length", "I", false)
def y_Pa : Nat → FieldType := fun k => match k with
  | 0 => .array .int
  | _ => .int
def R_Qu : String := "FacetSearch$Question"
def F_Qu : u_T := fun k => match k with
  | 0 => ("FacetSearch$Question", "kinds", "[I", true)
  | 1 => ("FacetSearch$Question", "words", "[J", true)
  | 2 => ("FacetSearch$Question", "first", "[I", true)
  | 3 => ("FacetSearch$Question", "second", "[I", true)
  | 4 => ("FacetSearch$Question", "size", "I", false)
  | 5 => ("FacetSearch$Question", "pad", "LFacetSearch$Pad;", true)
  | _ => ("FacetSearch$Question", "at", "I", false)
def y_Qu : Nat → FieldType := fun k => match k with
  | 0 => .array .int
  | 1 => .array .long
  | 2 => .array .int
  | 3 => .array .int
  | 4 => .int
  | 5 => .object "FacetSearch$Pad"
  | _ => .int
def R_Ra : String := "FacetSearch$Ranking"
def F_Ra : u_T := fun k => match k with
  | 0 => ("FacetSearch$Ranking", "records", "[I", true)
  | 1 => ("FacetSearch$Ranking", "points", "[I", true)
  | _ => ("FacetSearch$Ranking", "size", "I", false)
def y_Ra : Nat → FieldType := fun k => match k with
  | 0 => .array .int
  | 1 => .array .int
  | _ => .int
def R_Ru : String := "FacetSearch$Ruler"
def F_Ru : u_T := fun k => match k with
  | 0 => ("FacetSearch$Ruler", "one", "[I", true)
  | 1 => ("FacetSearch$Ruler", "two", "[I", true)
  | _ => ("FacetSearch$Ruler", "row", "[I", true)
def y_Ru : Nat → FieldType := fun k => match k with
  | 0 => .array .int
  | 1 => .array .int
  | _ => .array .int
def R_Sh : String := "FacetSearch$Shelf"
def F_Sh : u_T := fun k => match k with
  | 0 => ("FacetSearch$Shelf", "words", "[J", true)
  | 1 => ("FacetSearch$Shelf", "wordCounts", "[I", true)
  | 2 => ("FacetSearch$Shelf", "values", "[I", true)
  | 3 => ("FacetSearch$Shelf", "firstYears", "[I", true)
  | 4 => ("FacetSearch$Shelf", "lastYears", "[I", true)
  | 5 => ("FacetSearch$Shelf", "roles", "[I", true)
  | 6 => ("FacetSearch$Shelf", "size", "I", false)
  | 7 => ("FacetSearch$Shelf", "allWords", "I", false)
  | _ => ("FacetSearch$Shelf", "differentWords", "I", false)
def y_Sh : Nat → FieldType := fun k => match k with
  | 0 => .array .long
  | 1 => .array .int
  | 2 => .array .int
  | 3 => .array .int
  | 4 => .array .int
  | 5 => .array .int
  | 6 => .int
  | 7 => .int
  | _ => .int
def R_To : String := "FacetSearch$Told"
def F_To : u_T := fun k => match k with
  | 0 => ("FacetSearch$Told", "hits", "LFacetSearch$Ranking;", true)
  | 1 => ("FacetSearch$Told", "termScores", "[I", true)
  | 2 => ("FacetSearch$Told", "valueCounts", "[I", true)
  | _ => ("FacetSearch$Told", "terms", "I", false)
def y_To : Nat → FieldType := fun k => match k with
  | 0 => .object "FacetSearch$Ranking"
  | 1 => .array .int
  | 2 => .array .int
  | _ => .int
def R_Tr : String := "FacetSearch$Trees"
def F_Tr : u_T := fun k => match k with
  | _ => ("FacetSearch$Trees", "parents", "[I", true)
def y_Tr : Nat → FieldType := fun k => match k with
  | _ => .array .int
def R_Mo : String := "FacetSearchModel"
def F_Mo : u_T := fun k => match k with
  | 0 => ("FacetSearchModel", "thrown", "I", false)
  | 1 => ("FacetSearchModel", "padded", "I", false)
  | 2 => ("FacetSearchModel", "pad", "[I", true)
  | 3 => ("FacetSearchModel", "records", "I", false)
  | 4 => ("FacetSearchModel", "many", "[I", true)
  | 5 => ("FacetSearchModel", "lengths", "[I", true)
  | 6 => ("FacetSearchModel", "letters", "[I", true)
  | 7 => ("FacetSearchModel", "values", "[I", true)
  | 8 => ("FacetSearchModel", "parents", "[I", true)
  | 9 => ("FacetSearchModel", "froms", "[I", true)
  | 10 => ("FacetSearchModel", "tos", "[I", true)
  | 11 => ("FacetSearchModel", "hidden", "[Z", true)
  | 12 => ("FacetSearchModel", "read", "I", false)
  | 13 => ("FacetSearchModel", "kinds", "[I", true)
  | 14 => ("FacetSearchModel", "firsts", "[I", true)
  | 15 => ("FacetSearchModel", "seconds", "[I", true)
  | 16 => ("FacetSearchModel", "asked", "[I", true)
  | 17 => ("FacetSearchModel", "at", "I", false)
  | 18 => ("FacetSearchModel", "terms", "I", false)
  | 19 => ("FacetSearchModel", "hits", "I", false)
  | 20 => ("FacetSearchModel", "hitRecords", "[I", true)
  | 21 => ("FacetSearchModel", "hitScores", "[I", true)
  | 22 => ("FacetSearchModel", "parts", "[I", true)
  | 23 => ("FacetSearchModel", "partsOf", "[I", true)
  | 24 => ("FacetSearchModel", "totals", "[I", true)
  | 25 => ("FacetSearchModel", "counts", "[I", true)
  | 26 => ("FacetSearchModel", "table", "[I", true)
  | _ => ("FacetSearchModel", "order", "[I", true)
def y_Mo : Nat → FieldType := fun k => match k with
  | 0 => .int
  | 1 => .int
  | 2 => .array .int
  | 3 => .int
  | 4 => .array .int
  | 5 => .array .int
  | 6 => .array .int
  | 7 => .array .int
  | 8 => .array .int
  | 9 => .array .int
  | 10 => .array .int
  | 11 => .array .boolean
  | 12 => .int
  | 13 => .array .int
  | 14 => .array .int
  | 15 => .array .int
  | 16 => .array .int
  | 17 => .int
  | 18 => .int
  | 19 => .int
  | 20 => .array .int
  | 21 => .array .int
  | 22 => .array .int
  | 23 => .array .int
  | 24 => .array .int
  | 25 => .array .int
  | 26 => .array .int
  | _ => .array .int
def ab_cl : List vw_C := [(R_Fs, F_Fs, 7), (R_Pa, F_Pa, 2), (R_Qu, F_Qu, 7), (R_Ra, F_Ra, 3), (R_Ru, F_Ru, 3), (R_Sh, F_Sh, 9), (R_To, F_To, 4), (R_Tr, F_Tr, 1), (R_Mo, F_Mo, 28)]
def ab_ft (c : Nat) : Nat → FieldType := match c with
  | 0 => y_Fs
  | 1 => y_Pa
  | 2 => y_Qu
  | 3 => y_Ra
  | 4 => y_Ru
  | 5 => y_Sh
  | 6 => y_To
  | 7 => y_Tr
  | _ => y_Mo
def ab_df (c : Nat) : List Value := match c with
  | 0 => [.null, .null, .null, .null, .null, .null, .null]
  | 1 => [.null, .int 0]
  | 2 => [.null, .null, .null, .null, .int 0, .null, .int 0]
  | 3 => [.null, .null, .int 0]
  | 4 => [.null, .null, .null]
  | 5 => [.null, .null, .null, .null, .null, .null, .int 0, .int 0, .int 0]
  | 6 => [.null, .null, .null, .int 0]
  | 7 => [.null]
  | _ => [.int 0, .int 0, .null, .int 0, .null, .null, .null, .null, .null, .null, .null, .null, .int 0, .null, .null, .null, .null, .int 0, .int 0, .int 0, .null, .null, .null, .null, .null, .null, .null, .null]
def ab_G : List Cond := lw_tbl.filter goodWord
theorem ab_Gp {w : Cond} (i : Nat) (h : lw_tbl[i]? = some w) (hg : goodWord w = true) : w ∈ ab_G := List.mem_filter.mpr ⟨List.mem_of_getElem? h, hg⟩
theorem l_Fs : ∀ w ∈ u_ws R_Fs F_Fs 7, w ∈ ab_G := by
  have h : u_ws R_Fs F_Fs 7 = [238, 240, 242, 244, 246, 248, 250].filterMap (fun i => lw_tbl[i]?) ∧ (u_ws R_Fs F_Fs 7).all goodWord = true := by decide +kernel
  intro w hw
  have hg := List.all_eq_true.mp h.2 w hw
  rw [h.1] at hw
  obtain ⟨i, -, hi⟩ := List.mem_filterMap.mp hw
  exact ab_Gp i hi hg
theorem n_Fs : (∀ k, k < 7 → parseFieldDescriptor (F_Fs k).2.2.1 = some (y_Fs k)) ∧ (∀ a, a < 7 → ∀ b, b < 7 → a ≠ b → (F_Fs a).2.1 ≠ (F_Fs b).2.1) ∧ (∀ k, k < 7 → defaultValue (y_Fs k) = vp_V (ab_df 0) k) := by decide +kernel
theorem l_Pa : ∀ w ∈ u_ws R_Pa F_Pa 2, w ∈ ab_G := by
  have h : u_ws R_Pa F_Pa 2 = [73, 75].filterMap (fun i => lw_tbl[i]?) ∧ (u_ws R_Pa F_Pa 2).all goodWord = true := by decide +kernel
  intro w hw
  have hg := List.all_eq_true.mp h.2 w hw
  rw [h.1] at hw
  obtain ⟨i, -, hi⟩ := List.mem_filterMap.mp hw
  exact ab_Gp i hi hg
theorem n_Pa : (∀ k, k < 2 → parseFieldDescriptor (F_Pa k).2.2.1 = some (y_Pa k)) ∧ (∀ a, a < 2 → ∀ b, b < 2 → a ≠ b → (F_Pa a).2.1 ≠ (F_Pa b).2.1) ∧ (∀ k, k < 2 → defaultValue (y_Pa k) = vp_V (ab_df 1) k) := by decide +kernel
theorem l_Qu : ∀ w ∈ u_ws R_Qu F_Qu 7, w ∈ ab_G := by
  have h : u_ws R_Qu F_Qu 7 = [171, 173, 175, 177, 179, 181, 183].filterMap (fun i => lw_tbl[i]?) ∧ (u_ws R_Qu F_Qu 7).all goodWord = true := by decide +kernel
  intro w hw
  have hg := List.all_eq_true.mp h.2 w hw
  rw [h.1] at hw
  obtain ⟨i, -, hi⟩ := List.mem_filterMap.mp hw
  exact ab_Gp i hi hg
theorem n_Qu : (∀ k, k < 7 → parseFieldDescriptor (F_Qu k).2.2.1 = some (y_Qu k)) ∧ (∀ a, a < 7 → ∀ b, b < 7 → a ≠ b → (F_Qu a).2.1 ≠ (F_Qu b).2.1) ∧ (∀ k, k < 7 → defaultValue (y_Qu k) = vp_V (ab_df 2) k) := by decide +kernel
theorem l_Ra : ∀ w ∈ u_ws R_Ra F_Ra 3, w ∈ ab_G := by
  have h : u_ws R_Ra F_Ra 3 = [205, 207, 209].filterMap (fun i => lw_tbl[i]?) ∧ (u_ws R_Ra F_Ra 3).all goodWord = true := by decide +kernel
  intro w hw
  have hg := List.all_eq_true.mp h.2 w hw
  rw [h.1] at hw
  obtain ⟨i, -, hi⟩ := List.mem_filterMap.mp hw
  exact ab_Gp i hi hg
theorem n_Ra : (∀ k, k < 3 → parseFieldDescriptor (F_Ra k).2.2.1 = some (y_Ra k)) ∧ (∀ a, a < 3 → ∀ b, b < 3 → a ≠ b → (F_Ra a).2.1 ≠ (F_Ra b).2.1) ∧ (∀ k, k < 3 → defaultValue (y_Ra k) = vp_V (ab_df 3) k) := by decide +kernel
theorem l_Ru : ∀ w ∈ u_ws R_Ru F_Ru 3, w ∈ ab_G := by
  have h : u_ws R_Ru F_Ru 3 = [146, 148, 150].filterMap (fun i => lw_tbl[i]?) ∧ (u_ws R_Ru F_Ru 3).all goodWord = true := by decide +kernel
  intro w hw
  have hg := List.all_eq_true.mp h.2 w hw
  rw [h.1] at hw
  obtain ⟨i, -, hi⟩ := List.mem_filterMap.mp hw
  exact ab_Gp i hi hg
theorem n_Ru : (∀ k, k < 3 → parseFieldDescriptor (F_Ru k).2.2.1 = some (y_Ru k)) ∧ (∀ a, a < 3 → ∀ b, b < 3 → a ≠ b → (F_Ru a).2.1 ≠ (F_Ru b).2.1) ∧ (∀ k, k < 3 → defaultValue (y_Ru k) = vp_V (ab_df 4) k) := by decide +kernel
theorem l_Sh : ∀ w ∈ u_ws R_Sh F_Sh 9, w ∈ ab_G := by
  have h : u_ws R_Sh F_Sh 9 = [105, 107, 109, 111, 113, 115, 117, 119, 121].filterMap (fun i => lw_tbl[i]?) ∧ (u_ws R_Sh F_Sh 9).all goodWord = true := by decide +kernel
  intro w hw
  have hg := List.all_eq_true.mp h.2 w hw
  rw [h.1] at hw
  obtain ⟨i, -, hi⟩ := List.mem_filterMap.mp hw
  exact ab_Gp i hi hg
theorem n_Sh : (∀ k, k < 9 → parseFieldDescriptor (F_Sh k).2.2.1 = some (y_Sh k)) ∧ (∀ a, a < 9 → ∀ b, b < 9 → a ≠ b → (F_Sh a).2.1 ≠ (F_Sh b).2.1) ∧ (∀ k, k < 9 → defaultValue (y_Sh k) = vp_V (ab_df 5) k) := by decide +kernel
theorem l_To : ∀ w ∈ u_ws R_To F_To 4, w ∈ ab_G := by
  have h : u_ws R_To F_To 4 = [220, 222, 224, 226].filterMap (fun i => lw_tbl[i]?) ∧ (u_ws R_To F_To 4).all goodWord = true := by decide +kernel
  intro w hw
  have hg := List.all_eq_true.mp h.2 w hw
  rw [h.1] at hw
  obtain ⟨i, -, hi⟩ := List.mem_filterMap.mp hw
  exact ab_Gp i hi hg
theorem n_To : (∀ k, k < 4 → parseFieldDescriptor (F_To k).2.2.1 = some (y_To k)) ∧ (∀ a, a < 4 → ∀ b, b < 4 → a ≠ b → (F_To a).2.1 ≠ (F_To b).2.1) ∧ (∀ k, k < 4 → defaultValue (y_To k) = vp_V (ab_df 6) k) := by decide +kernel
theorem l_Tr : ∀ w ∈ u_ws R_Tr F_Tr 1, w ∈ ab_G := by
  have h : u_ws R_Tr F_Tr 1 = [134].filterMap (fun i => lw_tbl[i]?) ∧ (u_ws R_Tr F_Tr 1).all goodWord = true := by decide +kernel
  intro w hw
  have hg := List.all_eq_true.mp h.2 w hw
  rw [h.1] at hw
  obtain ⟨i, -, hi⟩ := List.mem_filterMap.mp hw
  exact ab_Gp i hi hg
theorem n_Tr : (∀ k, k < 1 → parseFieldDescriptor (F_Tr k).2.2.1 = some (y_Tr k)) ∧ (∀ a, a < 1 → ∀ b, b < 1 → a ≠ b → (F_Tr a).2.1 ≠ (F_Tr b).2.1) ∧ (∀ k, k < 1 → defaultValue (y_Tr k) = vp_V (ab_df 7) k) := by decide +kernel
theorem l_Mo : ∀ w ∈ u_ws R_Mo F_Mo 28, w ∈ ab_G := by
  have h : u_ws R_Mo F_Mo 28 = [697, 699, 701, 703, 705, 707, 709, 711, 713, 715, 717, 719, 721, 723, 725, 727, 729, 731, 733, 735, 737, 739, 741, 743, 745, 747, 749, 751].filterMap (fun i => lw_tbl[i]?) ∧ (u_ws R_Mo F_Mo 28).all goodWord = true := by decide +kernel
  intro w hw
  have hg := List.all_eq_true.mp h.2 w hw
  rw [h.1] at hw
  obtain ⟨i, -, hi⟩ := List.mem_filterMap.mp hw
  exact ab_Gp i hi hg
theorem n_Mo : (∀ k, k < 28 → parseFieldDescriptor (F_Mo k).2.2.1 = some (y_Mo k)) ∧ (∀ a, a < 28 → ∀ b, b < 28 → a ≠ b → (F_Mo a).2.1 ≠ (F_Mo b).2.1) ∧ (∀ k, k < 28 → defaultValue (y_Mo k) = vp_V (ab_df 8) k) := by decide +kernel
theorem ab_cl_ok (ci : Nat) (C : String) (T : u_T) (N : Nat) (h : ab_cl[ci]? = some (C, T, N)) : (∀ w ∈ u_ws C T N, w ∈ ab_G) ∧ (∀ k, k < N → parseFieldDescriptor (T k).2.2.1 = some (ab_ft ci k)) ∧ (∀ a, a < N → ∀ b, b < N → a ≠ b → (T a).2.1 ≠ (T b).2.1) ∧ (∀ j, j < N → defaultValue (ab_ft ci j) = vp_V (ab_df ci) j) ∧ ∀ v ∈ ab_df ci, ∀ k, v ≠ .ref k := by
  match ci, h with
  | 0, h =>
    have h9 : (R_Fs, F_Fs, 7) = (C, T, N) := Option.some.inj h
    cases h9
    exact ⟨l_Fs, n_Fs.1, n_Fs.2.1, n_Fs.2.2, by simp [ab_df]⟩
  | 1, h =>
    have h9 : (R_Pa, F_Pa, 2) = (C, T, N) := Option.some.inj h
    cases h9
    exact ⟨l_Pa, n_Pa.1, n_Pa.2.1, n_Pa.2.2, by simp [ab_df]⟩
  | 2, h =>
    have h9 : (R_Qu, F_Qu, 7) = (C, T, N) := Option.some.inj h
    cases h9
    exact ⟨l_Qu, n_Qu.1, n_Qu.2.1, n_Qu.2.2, by simp [ab_df]⟩
  | 3, h =>
    have h9 : (R_Ra, F_Ra, 3) = (C, T, N) := Option.some.inj h
    cases h9
    exact ⟨l_Ra, n_Ra.1, n_Ra.2.1, n_Ra.2.2, by simp [ab_df]⟩
  | 4, h =>
    have h9 : (R_Ru, F_Ru, 3) = (C, T, N) := Option.some.inj h
    cases h9
    exact ⟨l_Ru, n_Ru.1, n_Ru.2.1, n_Ru.2.2, by simp [ab_df]⟩
  | 5, h =>
    have h9 : (R_Sh, F_Sh, 9) = (C, T, N) := Option.some.inj h
    cases h9
    exact ⟨l_Sh, n_Sh.1, n_Sh.2.1, n_Sh.2.2, by simp [ab_df]⟩
  | 6, h =>
    have h9 : (R_To, F_To, 4) = (C, T, N) := Option.some.inj h
    cases h9
    exact ⟨l_To, n_To.1, n_To.2.1, n_To.2.2, by simp [ab_df]⟩
  | 7, h =>
    have h9 : (R_Tr, F_Tr, 1) = (C, T, N) := Option.some.inj h
    cases h9
    exact ⟨l_Tr, n_Tr.1, n_Tr.2.1, n_Tr.2.2, by simp [ab_df]⟩
  | 8, h =>
    have h9 : (R_Mo, F_Mo, 28) = (C, T, N) := Option.some.inj h
    cases h9
    exact ⟨l_Mo, n_Mo.1, n_Mo.2.1, n_Mo.2.2, by simp [ab_df]⟩
  | k + 9, h => exact absurd h (by simp [ab_cl])
theorem ab_mx : Cond.static Lib.Math.max.name ∈ ab_G ∧ Cond.initialized "java/lang/Math" ∈ ab_G ∧ Cond.code Lib.Math.max.name Lib.Math.max.code 2 (some .int) ∈ ab_G := ⟨ab_Gp 584 (by decide +kernel) rfl, ab_Gp 54 (by decide +kernel) rfl, ab_Gp 585 (by decide +kernel) rfl⟩
theorem ab_mn : Cond.static Lib.Math.min.name ∈ ab_G ∧ Cond.initialized "java/lang/Math" ∈ ab_G ∧ Cond.code Lib.Math.min.name Lib.Math.min.code 2 (some .int) ∈ ab_G := ⟨ab_Gp 573 (by decide +kernel) rfl, ab_Gp 54 (by decide +kernel) rfl, ab_Gp 574 (by decide +kernel) rfl⟩
theorem ab_ma : Cond.static Lib.Math.abs.name ∈ ab_G ∧ Cond.initialized "java/lang/Math" ∈ ab_G ∧ Cond.code Lib.Math.abs.name Lib.Math.abs.code 1 (some .int) ∈ ab_G := ⟨ab_Gp 566 (by decide +kernel) rfl, ab_Gp 54 (by decide +kernel) rfl, ab_Gp 567 (by decide +kernel) rfl⟩
theorem ab_oi : Cond.instanceMethod objectInit ∈ ab_G ∧ Cond.code objectInit ⟨#[0xb1]⟩ 1 none ∈ ab_G := ⟨ab_Gp 61 (by decide +kernel) rfl, ab_Gp 62 (by decide +kernel) rfl⟩
end
section
/-! ABSTRACT RUNS. A heap of numbered cells (cell k is told by the reference k + 1; reference 0 is the law's script), a method's code as a table; a path of it is one equation by rfl ('ab_path'), and 'ab_go' takes it down to the machine. Needs of the names' part: ab_cl (classes), ab_G (words), ab_df (a class's first values), ab_cl_ok. -/
abbrev ab_C : Type := (FieldType × vp_A) ⊕ (Nat × List Value)
abbrev ab_L : Type := List (Nat × Value)
/-- an instruction as the paths read it: itself, its length, two numbers, the place of its word, a constant -/
abbrev ab_I : Type := Instr × Nat × Nat × Nat × Nat × Int32
/-- pc, locals, operands, heap, cells and slots made -/
abbrev ab_F : Type := Nat × ab_L × List Value × List ab_C × Nat × Nat
abbrev ab_S : Type := Option (Nat × (Nat → Int32))
def ab_v (ad : Nat → Nat) (v : Value) : Value := match v with
  | .ref k => .ref (ad k)
  | w => w
def ab_l (ad : Nat → Nat) (L : ab_L) : List (Nat × Value) := L.map fun q => (q.1, ab_v ad q.2)
def ab_e (ad : Nat → Nat) (ca : FieldType → ClassId) (x : ab_C) : va_E := match x with
  | .inl a => .inl (ca a.1, a.2)
  | .inr o => .inr (o.1, o.2.map (ab_v ad))
def ab_w (ad : Nat → Nat) (ca : FieldType → ClassId) (h : List ab_C) : va_W := h.mapIdx fun k x => (ad (k + 1), ab_e ad ca x)
def ab_tys (ca : FieldType → ClassId) : List (ClassId × FieldType) := [(ca .int, .int), (ca .long, .long), (ca .boolean, .boolean)]
theorem ab_v_cat (ad : Nat → Nat) (v : Value) : (ab_v ad v).category = v.category := by cases v <;> rfl
theorem ab_v_sum (ad : Nat → Nat) (st : List Value) : ((st.map (ab_v ad)).map fun v => v.category).sum = (st.map fun v => v.category).sum := by
  rw [List.map_map]
  congr 1
  exact List.map_congr_left fun v _ => ab_v_cat ad v
theorem ab_w_at {ad : Nat → Nat} {ca : FieldType → ClassId} {h : List ab_C} {k : Nat} {x : ab_C} (hk : h[k]? = some x) : (ab_w ad ca h)[k]? = some (ad (k + 1), ab_e ad ca x) := by
  unfold ab_w
  rw [List.getElem?_mapIdx, hk]
  rfl
theorem ab_w_set (ad : Nat → Nat) (ca : FieldType → ClassId) (h : List ab_C) (k : Nat) (x : ab_C) : (ab_w ad ca h).set k (ad (k + 1), ab_e ad ca x) = ab_w ad ca (h.set k x) := by
  unfold ab_w
  exact List.mapIdx_set.symm
theorem ab_w_push (ad : Nat → Nat) (ca : FieldType → ClassId) (h : List ab_C) (x : ab_C) : ab_w ad ca (h ++ [x]) = ab_w ad ca h ++ [(ad (h.length + 1), ab_e ad ca x)] := by
  unfold ab_w
  exact List.mapIdx_concat
-- references that are told of
def ab_wv (n : Nat) (v : Value) : Bool := match v with
  | .ref k => Nat.ble k n
  | _ => true
def ab_wc (n : Nat) (x : ab_C) : Bool := match x with
  | .inl _ => true
  | .inr o => o.2.all (ab_wv n)
def ab_wf (n : Nat) (L : ab_L) (st : List Value) (h : List ab_C) : Bool := L.all (fun q => ab_wv n q.2) && (st.all (ab_wv n) && h.all (ab_wc n))
theorem ab_v_eq {n : Nat} {v : Value} {ad ad' : Nat → Nat} (hw : ab_wv n v = true) (ha : ∀ k, k ≤ n → ad' k = ad k) : ab_v ad' v = ab_v ad v := by
  cases v <;> first | rfl | skip
  case ref k =>
    show Value.ref (ad' k) = Value.ref (ad k)
    rw [ha k (Nat.le_of_ble_eq_true hw)]
theorem ab_l_eq {n : Nat} {L : ab_L} {ad ad' : Nat → Nat} (hw : L.all (fun q => ab_wv n q.2) = true) (ha : ∀ k, k ≤ n → ad' k = ad k) : ab_l ad' L = ab_l ad L := by
  unfold ab_l
  refine List.map_congr_left fun q hq => ?_
  rw [ab_v_eq (List.all_eq_true.mp hw q hq) ha]
theorem ab_s_eq {n : Nat} {st : List Value} {ad ad' : Nat → Nat} (hw : st.all (ab_wv n) = true) (ha : ∀ k, k ≤ n → ad' k = ad k) : st.map (ab_v ad') = st.map (ab_v ad) :=
  List.map_congr_left fun v hv => ab_v_eq (List.all_eq_true.mp hw v hv) ha
theorem ab_e_eq {n : Nat} {x : ab_C} {ca : FieldType → ClassId} {ad ad' : Nat → Nat} (hw : ab_wc n x = true) (ha : ∀ k, k ≤ n → ad' k = ad k) : ab_e ad' ca x = ab_e ad ca x := by
  cases x with
  | inl a => rfl
  | inr o =>
    show Sum.inr (o.1, o.2.map (ab_v ad')) = Sum.inr (o.1, o.2.map (ab_v ad))
    rw [ab_s_eq hw ha]
theorem ab_w_eq {h : List ab_C} {ca : FieldType → ClassId} {ad ad' : Nat → Nat} (hw : h.all (ab_wc h.length) = true) (ha : ∀ k, k ≤ h.length → ad' k = ad k) : ab_w ad' ca h = ab_w ad ca h := by
  unfold ab_w
  refine List.mapIdx_eq_mapIdx_iff.mpr fun i hi => ?_
  show (ad' (i + 1), ab_e ad' ca h[i]) = (ad (i + 1), ab_e ad ca h[i])
  rw [ab_e_eq (List.all_eq_true.mp hw _ (List.getElem_mem hi)) ha, ha (i + 1) (by omega)]
-- locals
def ab_get : ab_L → Nat → Option Value
  | [], _ => none
  | q :: r, i => bif Nat.beq q.1 i then some q.2 else ab_get r i
def ab_ins : ab_L → Nat → Value → ab_L
  | [], i, v => [(i, v)]
  | q :: r, i, v => bif Nat.blt q.1 i then q :: ab_ins r i v else (i, v) :: q :: r
def ab_set1 (L : ab_L) (i : Nat) (v : Value) : ab_L := ab_ins (L.filter fun q => !(q.1 == i) && !(q.1 + 1 == i && q.2.category == 2)) i v
def ab_set2 (L : ab_L) (i : Nat) (v : Value) : ab_L := ab_ins (L.filter fun q => !(q.1 == i) && (!(q.1 == i + 1) && !(q.1 + 1 == i && q.2.category == 2))) i v
theorem ab_get_mem : ∀ (L : ab_L) (i : Nat) (v : Value), ab_get L i = some v → (i, v) ∈ L
  | [], i, v, h => by cases h
  | q :: r, i, v, h => by
    unfold ab_get at h
    cases hq : Nat.beq q.1 i with
    | true =>
      rw [hq] at h
      have h1 : q.2 = v := Option.some.inj h
      have h2 : q.1 = i := Nat.eq_of_beq_eq_true hq
      rw [← h1, ← h2]
      exact List.mem_cons_self
    | false =>
      rw [hq] at h
      exact List.mem_cons_of_mem _ (ab_get_mem r i v h)
theorem ab_ins_mem : ∀ (L : ab_L) (i : Nat) (v : Value) (q : Nat × Value), q ∈ ab_ins L i v → q = (i, v) ∨ q ∈ L
  | [], i, v, q, h => Or.inl (by unfold ab_ins at h; exact List.mem_singleton.mp h)
  | a :: r, i, v, q, h => by
    unfold ab_ins at h
    cases hq : Nat.blt a.1 i with
    | true =>
      rw [hq] at h
      rcases List.mem_cons.mp h with h | h
      · exact Or.inr (by rw [h]; exact List.mem_cons_self)
      · rcases ab_ins_mem r i v q h with h | h
        · exact Or.inl h
        · exact Or.inr (List.mem_cons_of_mem _ h)
    | false =>
      rw [hq] at h
      rcases List.mem_cons.mp h with h | h
      · exact Or.inl h
      · exact Or.inr h
theorem ab_at {ls : Array Slot} {nL i : Nat} {L : ab_L} {ad : Nat → Nat} {v : Value} (hl : lv_has ls nL (ab_l ad L)) (hg : ab_get L i = some v) : ls[i]? = some (.val (ab_v ad v)) :=
  hl.2.2 (i, ab_v ad v) (List.mem_map.mpr ⟨(i, v), ab_get_mem L i v hg, rfl⟩)
theorem ab_l_set1 {ls : Array Slot} {nL i : Nat} {L : ab_L} {ad : Nat → Nat} {v w : Value} (hv : ab_v ad v = w) (h : lv_has ls nL ((i, w) :: (ab_l ad L).filter (fun q => !(q.1 == i) && !(q.1 + 1 == i && q.2.category == 2)))) : lv_has ls nL (ab_l ad (ab_set1 L i v)) := by
  subst hv
  refine ⟨h.1, h.2.1, fun q hq => h.2.2 q ?_⟩
  obtain ⟨q0, h0, rfl⟩ := List.mem_map.mp hq
  rcases ab_ins_mem _ _ _ _ h0 with rfl | h0
  · exact List.mem_cons_self
  · obtain ⟨h1, h2⟩ := List.mem_filter.mp h0
    refine List.mem_cons_of_mem _ (List.mem_filter.mpr ⟨List.mem_map.mpr ⟨q0, h1, rfl⟩, ?_⟩)
    show (!(q0.1 == i) && !(q0.1 + 1 == i && (ab_v ad q0.2).category == 2)) = true
    rw [ab_v_cat]
    exact h2
theorem ab_l_set2 {ls : Array Slot} {nL i : Nat} {L : ab_L} {ad : Nat → Nat} {v w : Value} (hv : ab_v ad v = w) (h : lv_has ls nL ((i, w) :: (ab_l ad L).filter (fun q => !(q.1 == i) && (!(q.1 == i + 1) && !(q.1 + 1 == i && q.2.category == 2))))) : lv_has ls nL (ab_l ad (ab_set2 L i v)) := by
  subst hv
  refine ⟨h.1, h.2.1, fun q hq => h.2.2 q ?_⟩
  obtain ⟨q0, h0, rfl⟩ := List.mem_map.mp hq
  rcases ab_ins_mem _ _ _ _ h0 with rfl | h0
  · exact List.mem_cons_self
  · obtain ⟨h1, h2⟩ := List.mem_filter.mp h0
    refine List.mem_cons_of_mem _ (List.mem_filter.mpr ⟨List.mem_map.mpr ⟨q0, h1, rfl⟩, ?_⟩)
    show (!(q0.1 == i) && (!(q0.1 == i + 1) && !(q0.1 + 1 == i && (ab_v ad q0.2).category == 2))) = true
    rw [ab_v_cat]
    exact h2
end
section
/-! THE TABLE OF A METHOD, and one step of a path -/
def ab_in (w : Cond) (pos : Nat) : Bool := decide (lw_tbl[pos]? = some w) && goodWord w
theorem ab_in_mem {w : Cond} {pos : Nat} (h : ab_in w pos = true) : w ∈ ab_G := by
  unfold ab_in at h
  rw [Bool.and_eq_true, decide_eq_true_eq] at h
  exact List.mem_filter.mpr ⟨List.mem_of_getElem? h.1, h.2⟩
def ab_len (n : Nat) : Instr → Nat
  | .bipush _ | .ldc _ | .iload _ | .lload _ | .aload _ | .istore _ | .lstore _ | .astore _ | .newarray _ => 2
  | .sipush _ | .iinc _ _ | .ifCond _ _ | .if_icmp _ _ | .goto _ | .getfield _ | .putfield _ | .new _ | .invokespecial _ | .invokestatic _ | .invokevirtual _ => 3
  | .tableswitch _ _ _ _ => n
  | _ => 1
def ab_chk (own : String) (cc : ByteArray) (nL : Nat) (ini : Bool) (q : Nat × ab_I) : Bool :=
  match q with
  | (pc, ins, len, x, y, pos, v) => decide (decode cc pc = .ok (ins, ab_len len ins)) && match ins with
    | .iconst n => decide (Int32.ofInt n = v)
    | .bipush n => decide ((Int8.ofInt n).toInt32 = v)
    | .sipush n => decide ((Int16.ofInt n).toInt32 = v)
    | .ldc n => Nat.beq x 1 || ab_in (.constant own n v) pos
    | .iload k => Nat.beq k x
    | .lload k => Nat.beq k x
    | .aload k => Nat.beq k x
    | .iload_n k => Nat.beq k.val x
    | .lload_n k => Nat.beq k.val x
    | .aload_n k => Nat.beq k.val x
    | .istore k => Nat.beq k x && Nat.blt x nL
    | .astore k => Nat.beq k x && Nat.blt x nL
    | .istore_n k => Nat.beq k.val x && Nat.blt x nL
    | .astore_n k => Nat.beq k.val x && Nat.blt x nL
    | .lstore k => Nat.beq k x && Nat.blt (x + 1) nL
    | .lstore_n k => Nat.beq k.val x && Nat.blt (x + 1) nL
    | .iinc k n => Nat.beq k x && (Nat.blt x nL && decide (Int32.ofInt n = v))
    | .ifCond _ off => decide ((pc : Int) + off = (x : Int))
    | .if_icmp _ off => decide ((pc : Int) + off = (x : Int))
    | .goto off => decide ((pc : Int) + off = (x : Int))
    | .getfield n => match ab_cl[x]? with
      | some (_, T, N) => Nat.blt y N && ab_in (.fieldLink own n (T y).1 (T y).2.1 (T y).2.2.1) pos
      | none => false
    | .putfield n => match ab_cl[x]? with
      | some (_, T, N) => Nat.blt y N && (ab_in (.fieldLink own n (T y).1 (T y).2.1 (T y).2.2.1) pos && (!(T y).2.2.2 || (ini && decide ((T y).1 = own))))
      | none => false
    | .new n => match ab_cl[x]? with
      | some (C, _, N) => ab_in (.classLink own n C) pos && (ab_in (.instantiable C N) y && ab_in (.initialized C) len)
      | none => Nat.beq x 99
    | .newarray a => ab_in (.arrayClass (newarray.typeOf a)) pos
    | .invokestatic n => match x with
      | 1 => ab_in (.methodLink own n Lib.Math.max.name) pos
      | 2 => ab_in (.methodLink own n Lib.Math.min.name) pos
      | 3 => ab_in (.methodLink own n Lib.Math.abs.name) pos
      | _ => true
    | .invokespecial n => match x with
      | 9 => ab_in (.methodLink own n objectInit) pos
      | _ => true
    | _ => true
def ab_fit (t : FieldType) (v : Value) : Bool := match t, v with
  | .int, .int _ => true
  | .long, .long _ => true
  | .object _, .ref _ => true
  | .object _, .null => true
  | .array _, .ref _ => true
  | .array _, .null => true
  | _, _ => false
theorem ab_fit_ok {t : FieldType} {v : Value} (ad : Nat → Nat) (h : ab_fit t v = true) : narrow t (ab_v ad v) = ab_v ad v ∧ fits t (ab_v ad v) = true := by
  cases t <;> cases v <;> first | exact ⟨rfl, rfl⟩ | (exact absurd h (by simp [ab_fit]))
def ab_yes (k : ClassFile.Cond) (x y : Int32) : Prop := match k with
  | .eq => x = y
  | .ne => ¬ x = y
  | .lt => x < y
  | .ge => y ≤ x
  | .gt => y < x
  | .le => x ≤ y
def ab_no (k : ClassFile.Cond) (x y : Int32) : Prop := match k with
  | .eq => ¬ x = y
  | .ne => x = y
  | .lt => ¬ x < y
  | .ge => ¬ y ≤ x
  | .gt => ¬ y < x
  | .le => ¬ x ≤ y
def ab_wt (st : List Value) : Nat := (st.map fun v => v.category).sum
/-- one step: the decisions left, what must hold, the next frame -/
def ab_st (Rc Rs : Nat) (sc : ab_S) (ds : List Nat) (i : ab_I) (F : ab_F) : Option (List Nat × Option Prop × ab_F) :=
  match F, i with
  | (pc, L, st, h, kc, ks), (ins, _, x, y, _, v) => match ins with
    | .iconst _ => some (ds, none, pc + 1, L, .int v :: st, h, kc, ks)
    | .bipush _ => some (ds, none, pc + 2, L, .int v :: st, h, kc, ks)
    | .sipush _ => some (ds, none, pc + 3, L, .int v :: st, h, kc, ks)
    | .ldc _ => bif Nat.beq x 1 then none else some (ds, none, pc + 2, L, .int v :: st, h, kc, ks)
    | .lconst n => some (ds, none, pc + 1, L, .long (Int64.ofNat (n : Nat)) :: st, h, kc, ks)
    | .iload _ => match ab_get L x with
      | some (.int a) => some (ds, none, pc + 2, L, .int a :: st, h, kc, ks)
      | _ => none
    | .iload_n _ => match ab_get L x with
      | some (.int a) => some (ds, none, pc + 1, L, .int a :: st, h, kc, ks)
      | _ => none
    | .lload _ => match ab_get L x with
      | some (.long a) => some (ds, none, pc + 2, L, .long a :: st, h, kc, ks)
      | _ => none
    | .lload_n _ => match ab_get L x with
      | some (.long a) => some (ds, none, pc + 1, L, .long a :: st, h, kc, ks)
      | _ => none
    | .aload _ => match ab_get L x with
      | some (.ref a) => some (ds, none, pc + 2, L, .ref a :: st, h, kc, ks)
      | _ => none
    | .aload_n _ => match ab_get L x with
      | some (.ref a) => some (ds, none, pc + 1, L, .ref a :: st, h, kc, ks)
      | _ => none
    | .istore _ => match st with
      | .int a :: r => some (ds, none, pc + 2, ab_set1 L x (.int a), r, h, kc, ks)
      | _ => none
    | .istore_n _ => match st with
      | .int a :: r => some (ds, none, pc + 1, ab_set1 L x (.int a), r, h, kc, ks)
      | _ => none
    | .astore _ => match st with
      | .ref a :: r => some (ds, none, pc + 2, ab_set1 L x (.ref a), r, h, kc, ks)
      | _ => none
    | .astore_n _ => match st with
      | .ref a :: r => some (ds, none, pc + 1, ab_set1 L x (.ref a), r, h, kc, ks)
      | _ => none
    | .lstore _ => match st with
      | .long a :: r => some (ds, none, pc + 2, ab_set2 L x (.long a), r, h, kc, ks)
      | _ => none
    | .lstore_n _ => match st with
      | .long a :: r => some (ds, none, pc + 1, ab_set2 L x (.long a), r, h, kc, ks)
      | _ => none
    | .iinc _ _ => match ab_get L x with
      | some (.int a) => some (ds, none, pc + 3, ab_set1 L x (.int (a + v)), st, h, kc, ks)
      | _ => none
    | .iadd => match st with
      | .int b :: .int a :: r => some (ds, none, pc + 1, L, .int (a + b) :: r, h, kc, ks)
      | _ => none
    | .isub => match st with
      | .int b :: .int a :: r => some (ds, none, pc + 1, L, .int (a - b) :: r, h, kc, ks)
      | _ => none
    | .imul => match st with
      | .int b :: .int a :: r => some (ds, none, pc + 1, L, .int (a * b) :: r, h, kc, ks)
      | _ => none
    | .idiv => match st with
      | .int b :: .int a :: r => some (ds, some (¬ b = 0), pc + 1, L, .int (a / b) :: r, h, kc, ks)
      | _ => none
    | .irem => match st with
      | .int b :: .int a :: r => some (ds, some (¬ b = 0), pc + 1, L, .int (a - a / b * b) :: r, h, kc, ks)
      | _ => none
    | .ineg => match st with
      | .int a :: r => some (ds, none, pc + 1, L, .int (-a) :: r, h, kc, ks)
      | _ => none
    | .iand => match st with
      | .int b :: .int a :: r => some (ds, none, pc + 1, L, .int (a &&& b) :: r, h, kc, ks)
      | _ => none
    | .ior => match st with
      | .int b :: .int a :: r => some (ds, none, pc + 1, L, .int (a ||| b) :: r, h, kc, ks)
      | _ => none
    | .ixor => match st with
      | .int b :: .int a :: r => some (ds, none, pc + 1, L, .int (a ^^^ b) :: r, h, kc, ks)
      | _ => none
    | .ishl => match st with
      | .int b :: .int a :: r => some (ds, none, pc + 1, L, .int (a <<< (b &&& 31)) :: r, h, kc, ks)
      | _ => none
    | .ishr => match st with
      | .int b :: .int a :: r => some (ds, none, pc + 1, L, .int (a >>> (b &&& 31)) :: r, h, kc, ks)
      | _ => none
    | .iushr => match st with
      | .int b :: .int a :: r => some (ds, none, pc + 1, L, .int ((a.toUInt32 >>> (b.toUInt32 &&& Int32.toUInt32 31)).toInt32) :: r, h, kc, ks)
      | _ => none
    | .ladd => match st with
      | .long b :: .long a :: r => some (ds, none, pc + 1, L, .long (a + b) :: r, h, kc, ks)
      | _ => none
    | .lsub => match st with
      | .long b :: .long a :: r => some (ds, none, pc + 1, L, .long (a - b) :: r, h, kc, ks)
      | _ => none
    | .land => match st with
      | .long b :: .long a :: r => some (ds, none, pc + 1, L, .long (a &&& b) :: r, h, kc, ks)
      | _ => none
    | .lor => match st with
      | .long b :: .long a :: r => some (ds, none, pc + 1, L, .long (a ||| b) :: r, h, kc, ks)
      | _ => none
    | .lshl => match st with
      | .int b :: .long a :: r => some (ds, none, pc + 1, L, .long (a <<< (b.toInt64 &&& 63)) :: r, h, kc, ks)
      | _ => none
    | .lshr => match st with
      | .int b :: .long a :: r => some (ds, none, pc + 1, L, .long (a >>> (b.toInt64 &&& 63)) :: r, h, kc, ks)
      | _ => none
    | .lcmp => match st with
      | .long b :: .long a :: r => some (ds, none, pc + 1, L, .int (lg_cmp a b) :: r, h, kc, ks)
      | _ => none
    | .i2l => match st with
      | .int a :: r => some (ds, none, pc + 1, L, .long a.toInt64 :: r, h, kc, ks)
      | _ => none
    | .l2i => match st with
      | .long a :: r => some (ds, none, pc + 1, L, .int a.toInt32 :: r, h, kc, ks)
      | _ => none
    | .dup => match st with
      | a :: r => bif Nat.beq a.category 1 then some (ds, none, pc + 1, L, a :: a :: r, h, kc, ks) else none
      | _ => none
    | .dup_x1 => match st with
      | a :: b :: r => bif Nat.beq a.category 1 && Nat.beq b.category 1 then some (ds, none, pc + 1, L, a :: b :: a :: r, h, kc, ks) else none
      | _ => none
    | .dup2 => match st with
      | a :: b :: r => bif Nat.beq a.category 1 && Nat.beq b.category 1 then some (ds, none, pc + 1, L, a :: b :: a :: b :: r, h, kc, ks) else none
      | _ => none
    | .pop => match st with
      | a :: r => bif Nat.beq a.category 1 then some (ds, none, pc + 1, L, r, h, kc, ks) else none
      | _ => none
    | .goto _ => some (ds, none, x, L, st, h, kc, ks)
    | .ifCond k _ => match st, ds with
      | .int a :: r, 0 :: ds' => some (ds', some (ab_no k a 0), pc + 3, L, r, h, kc, ks)
      | .int a :: r, 1 :: ds' => some (ds', some (ab_yes k a 0), x, L, r, h, kc, ks)
      | _, _ => none
    | .if_icmp k _ => match st, ds with
      | .int b :: .int a :: r, 0 :: ds' => some (ds', some (ab_no k a b), pc + 3, L, r, h, kc, ks)
      | .int b :: .int a :: r, 1 :: ds' => some (ds', some (ab_yes k a b), x, L, r, h, kc, ks)
      | _, _ => none
    | .tableswitch d lo hi offs => match st, ds with
      | .int a :: r, 0 :: ds' => match (pc : Int) + d with
        | .ofNat t => some (ds', some (a.toInt < lo ∨ hi < a.toInt), t, L, r, h, kc, ks)
        | _ => none
      | .int a :: r, (j + 1) :: ds' => match offs[j]? with
        | some off => match (pc : Int) + off with
          | .ofNat t => some (ds', some (a.toInt = lo + j ∧ ¬ hi < a.toInt), t, L, r, h, kc, ks)
          | _ => none
        | none => none
      | _, _ => none
    | .getfield _ => match st with
      | .ref (a + 1) :: r => match h[a]? with
        | some (.inr (ci, fs)) => bif Nat.beq ci x then match fs[y]? with
          | some w => some (ds, none, pc + 3, L, w :: r, h, kc, ks)
          | none => none
          else none
        | _ => none
      | _ => none
    | .putfield _ => match st with
      | w :: .ref (a + 1) :: r => match h[a]? with
        | some (.inr (ci, fs)) => bif Nat.beq ci x && (ab_fit (ab_ft x y) w && Nat.blt y fs.length) then some (ds, none, pc + 3, L, r, h.set a (.inr (ci, fs.set y w)), kc, ks) else none
        | _ => none
      | _ => none
    | .iaload => match st with
      | .int j :: .ref 0 :: r => match sc with
        | some (n, f) => some (ds, some (vp_in j n), pc + 1, L, .int (f j.toNatClampNeg) :: r, h, kc, ks)
        | none => none
      | .int j :: .ref (a + 1) :: r => match h[a]? with
        | some (.inl (.int, n, .inl f)) => some (ds, some (vp_in j n), pc + 1, L, .int (f j.toNatClampNeg) :: r, h, kc, ks)
        | _ => none
      | _ => none
    | .baload => match st with
      | .int j :: .ref (a + 1) :: r => match h[a]? with
        | some (.inl (.boolean, n, .inl f)) => some (ds, some (vp_in j n), pc + 1, L, .int (f j.toNatClampNeg) :: r, h, kc, ks)
        | _ => none
      | _ => none
    | .laload => match st with
      | .int j :: .ref (a + 1) :: r => match h[a]? with
        | some (.inl (.long, n, .inr (.inl f))) => some (ds, some (vp_in j n), pc + 1, L, .long (f j.toNatClampNeg) :: r, h, kc, ks)
        | _ => none
      | _ => none
    | .iastore => match st with
      | .int w :: .int j :: .ref (a + 1) :: r => match h[a]? with
        | some (.inl (.int, n, .inl f)) => some (ds, some (vp_in j n), pc + 1, L, r, h.set a (.inl (.int, n, .inl (upd f j.toNatClampNeg w))), kc, ks)
        | _ => none
      | _ => none
    | .bastore => match st with
      | .int w :: .int j :: .ref (a + 1) :: r => match h[a]? with
        | some (.inl (.boolean, n, .inl f)) => some (ds, some (vp_in j n), pc + 1, L, r, h.set a (.inl (.boolean, n, .inl (upd f j.toNatClampNeg (vp_nar .boolean w)))), kc, ks)
        | _ => none
      | _ => none
    | .lastore => match st with
      | .long w :: .int j :: .ref (a + 1) :: r => match h[a]? with
        | some (.inl (.long, n, .inr (.inl f))) => some (ds, some (vp_in j n), pc + 1, L, r, h.set a (.inl (.long, n, .inr (.inl (vp_updL f j.toNatClampNeg w)))), kc, ks)
        | _ => none
      | _ => none
    | .arraylength => match st with
      | .ref 0 :: r => match sc with
        | some (n, _) => some (ds, none, pc + 1, L, .int (Int32.ofNat n) :: r, h, kc, ks)
        | none => none
      | .ref (a + 1) :: r => match h[a]? with
        | some (.inl (.int, n, _)) => some (ds, none, pc + 1, L, .int (Int32.ofNat n) :: r, h, kc, ks)
        | _ => none
      | _ => none
    | .new _ => match ab_cl[x]? with
      | some (_, _, N) => some (ds, some (ab_wf h.length L st h = true ∧ kc + 1 ≤ Rc ∧ ks + N ≤ Rs), pc + 3, L, .ref (h.length + 1) :: st, h ++ [.inr (x, ab_df x)], kc + 1, ks + N)
      | none => none
    | .newarray a => match st with
      | .int n :: r => match a with
        | .int => some (ds, some (ab_wf h.length L r h = true ∧ ¬ n < 0 ∧ n.toNatClampNeg ≤ 1000000 ∧ kc + 1 ≤ Rc ∧ ks + n.toNatClampNeg ≤ Rs), pc + 2, L, .ref (h.length + 1) :: r, h ++ [.inl (.int, n.toNatClampNeg, .inl fun _ => 0)], kc + 1, ks + n.toNatClampNeg)
        | .long => some (ds, some (ab_wf h.length L r h = true ∧ ¬ n < 0 ∧ n.toNatClampNeg ≤ 1000000 ∧ kc + 1 ≤ Rc ∧ ks + n.toNatClampNeg ≤ Rs), pc + 2, L, .ref (h.length + 1) :: r, h ++ [.inl (.long, n.toNatClampNeg, .inr (.inl fun _ => 0))], kc + 1, ks + n.toNatClampNeg)
        | .boolean => some (ds, some (ab_wf h.length L r h = true ∧ ¬ n < 0 ∧ n.toNatClampNeg ≤ 1000000 ∧ kc + 1 ≤ Rc ∧ ks + n.toNatClampNeg ≤ Rs), pc + 2, L, .ref (h.length + 1) :: r, h ++ [.inl (.boolean, n.toNatClampNeg, .inl fun _ => 0)], kc + 1, ks + n.toNatClampNeg)
        | _ => none
      | _ => none
    | .invokestatic _ => match x, st with
      | 1, .int b :: .int a :: r => bif Nat.ble (ab_wt r) 8 then some (ds, some (kc ≤ Rc ∧ ks ≤ Rs), pc + 3, L, .int (if a < b then b else a) :: r, h, kc, ks) else none
      | 2, .int b :: .int a :: r => bif Nat.ble (ab_wt r) 8 then some (ds, some (kc ≤ Rc ∧ ks ≤ Rs), pc + 3, L, .int (if b < a then b else a) :: r, h, kc, ks) else none
      | 3, .int a :: r => bif Nat.ble (ab_wt r) 8 then some (ds, some (kc ≤ Rc ∧ ks ≤ Rs), pc + 3, L, .int (if 0 ≤ a then a else 0 - a) :: r, h, kc, ks) else none
      | _, _ => none
    | .invokespecial _ => match x, st with
      | 9, .ref _ :: r => bif Nat.ble (ab_wt r) 8 then some (ds, none, pc + 3, L, r, h, kc, ks) else none
      | _, _ => none
    | _ => none
def ab_lk : List (Nat × ab_I) → Nat → Option ab_I
  | [], _ => none
  | q :: r, i => bif Nat.beq q.1 i then some q.2 else ab_lk r i
theorem ab_lk_mem : ∀ (L : List (Nat × ab_I)) (i : Nat) (v : ab_I), ab_lk L i = some v → (i, v) ∈ L
  | [], i, v, h => by cases h
  | q :: r, i, v, h => by
    unfold ab_lk at h
    cases hq : Nat.beq q.1 i with
    | true =>
      rw [hq] at h
      have h1 : q.2 = v := Option.some.inj h
      have h2 : q.1 = i := Nat.eq_of_beq_eq_true hq
      rw [← h1, ← h2]
      exact List.mem_cons_self
    | false =>
      rw [hq] at h
      exact List.mem_cons_of_mem _ (ab_lk_mem r i v h)
/-- a path of k steps -/
def ab_path (cd : List (Nat × ab_I)) (Rc Rs : Nat) (sc : ab_S) : Nat → List Nat → List Prop → ab_F → Option (List Prop × ab_F)
  | 0, _, acc, F => some (acc, F)
  | k + 1, ds, acc, F => match ab_lk cd F.1 with
    | none => none
    | some i => match ab_st Rc Rs sc ds i F with
      | some (ds', none, F') => ab_path cd Rc Rs sc k ds' acc F'
      | some (ds', some P, F') => ab_path cd Rc Rs sc k ds' (P :: acc) F'
      | none => none
def ab_all : List Prop → Prop
  | [] => True
  | [P] => P
  | P :: r => P ∧ ab_all r
end
section
/-! WHAT A PATH SAYS OF THE MACHINE -/
/-- program, launch, environment, room, first state, method, arguments, frames below, its record and code; the tables' numbers, the base, how many cells were told of at the start and where they lay, the script, what is to be reached -/
abbrev ab_X : Type := Program × Launch × Env × Room × State × MethodId × Array Value × List Frame × Method × Code × va_G × (FieldType → ClassId) × Nat × Nat × (Nat → Nat) × ab_S × (State → Prop)
/-- class, name, bytes, locals, answer, a constructor, the table, the handlers -/
abbrev ab_M : Type := String × MethodName × ByteArray × Nat × Option FieldType × Bool × List (Nat × ab_I) × List (Nat × Nat × Nat × Nat)
def ab_Mok (M : ab_M) : Prop := M.2.2.2.2.2.2.1.all (ab_chk M.1 M.2.2.1 M.2.2.2.1 M.2.2.2.2.2.1) = true
def ab_is (X : ab_X) (M : ab_M) : Prop := match X with
  | (p, _, _, R, s, m, args, _, meth, c, _) => p.tables.exec = Jvm.exec ∧ c.code = M.2.2.1 ∧ c.maxLocals = M.2.2.2.1 ∧ s.vm.findClass M.1 = some m.cls ∧ (∀ w ∈ ab_G, w.before args s = true) ∧ meth.locks = false ∧ (M.2.2.2.2.2.1 = true → meth.name = "<init>") ∧ 1 ≤ R.frames ∧ 21 ≤ R.locals
def ab_R (D : va_G) (ca : FieldType → ClassId) (B n0 : Nat) (ad0 : Nat → Nat) (sc : ab_S) (s : State) (ad : Nat → Nat) (h : List ab_C) (H : Heap) (locs : List Loc) : Prop :=
  va_K D ab_cl (ab_tys ca) s ∧ va_P D ab_cl (ab_w ad ca h) H ∧ va_D (fun q => B ≤ q) (ab_w ad ca h) ∧ va_S (fun q => B ≤ q) s.heap H locs ∧ B ≤ s.heap.size ∧ (∀ k, k ≤ n0 → ad k = ad0 k) ∧ n0 ≤ h.length ∧ ∀ n f, sc = some (n, f) → va_X (ad 0) n f s s.heap ∧ ad 0 < B
def ab_W (X : ab_X) (M : ab_M) (F : ab_F) : Prop := match X with
  | (p, l, e, R, s, m, args, below, meth, c, D, ca, B, n0, ad0, sc, Q) => ∀ (ad : Nat → Nat) (H : Heap) (locs : List Loc) (ls : Array Slot), ab_R D ca B n0 ad0 sc s ad F.2.2.2.1 H locs → lv_has ls M.2.2.2.1 (ab_l ad F.2.1) →
      W p l e R s m args below meth c H locs F.2.2.2.2.1 F.2.2.2.2.2 Q (F0 m F.1 ls (F.2.2.1.map (ab_v ad)))
abbrev ab_Rc (X : ab_X) : Nat := X.2.2.2.1.cells
abbrev ab_Rs (X : ab_X) : Nat := X.2.2.2.1.slots
abbrev ab_sc (X : ab_X) : ab_S := X.2.2.2.2.2.2.2.2.2.2.2.2.2.2.2.1
theorem ab_R_set {D : va_G} {ca : FieldType → ClassId} {B n0 : Nat} {ad0 : Nat → Nat} {sc : ab_S} {s : State} {ad : Nat → Nat} {h : List ab_C} {H H1 : Heap} {locs locs1 : List Loc} {a : Nat} {x : ab_C} {y : va_E} (hR : ab_R D ca B n0 ad0 sc s ad h H locs) (hy : ab_e ad ca x = y)
    (hP : va_P D ab_cl ((ab_w ad ca h).set a (ad (a + 1), y)) H1) (hD : va_D (fun q => B ≤ q) ((ab_w ad ca h).set a (ad (a + 1), y))) (hS : va_S (fun q => B ≤ q) s.heap H1 locs1) : ab_R D ca B n0 ad0 sc s ad (h.set a x) H1 locs1 := by
  subst hy
  rw [ab_w_set] at hP hD
  exact ⟨hR.1, hP, hD, hS, hR.2.2.2.2.1, hR.2.2.2.2.2.1, by rw [List.length_set]; exact hR.2.2.2.2.2.2.1, hR.2.2.2.2.2.2.2⟩
theorem ab_R_push {D : va_G} {ca : FieldType → ClassId} {B n0 : Nat} {ad0 : Nat → Nat} {sc : ab_S} {s : State} {ad : Nat → Nat} {h : List ab_C} {H H1 : Heap} {locs locs1 : List Loc} {q : Nat} {x : ab_C} {y : va_E} (hR : ab_R D ca B n0 ad0 sc s ad h H locs) (hy : ab_e (va_up ad (h.length + 1) q) ca x = y) (hw : h.all (ab_wc h.length) = true)
    (hP : va_P D ab_cl (ab_w ad ca h ++ [(q, y)]) H1) (hD : va_D (fun q => B ≤ q) (ab_w ad ca h ++ [(q, y)])) (hS : va_S (fun q => B ≤ q) s.heap H1 locs1) : ab_R D ca B n0 ad0 sc s (va_up ad (h.length + 1) q) (h ++ [x]) H1 locs1 := by
  have hlow : ∀ k, k ≤ h.length → va_up ad (h.length + 1) q k = ad k := fun k hk => if_neg (by omega)
  have he : ab_w (va_up ad (h.length + 1) q) ca (h ++ [x]) = ab_w ad ca h ++ [(q, y)] := by
    rw [ab_w_push, ab_w_eq hw hlow, hy, show va_up ad (h.length + 1) q (h.length + 1) = q from if_pos rfl]
  have hn := hR.2.2.2.2.2.2.1
  refine ⟨hR.1, by rw [he]; exact hP, by rw [he]; exact hD, hS, hR.2.2.2.2.1, fun k hk => by rw [hlow k (by omega)]; exact hR.2.2.2.2.2.1 k hk, by rw [List.length_append]; omega, fun n f hsc => ?_⟩
  rw [hlow 0 (Nat.zero_le _)]
  exact hR.2.2.2.2.2.2.2 n f hsc
theorem ab_map_id {l : List Value} (h : ∀ v ∈ l, ∀ k, v ≠ .ref k) (ad : Nat → Nat) : l.map (ab_v ad) = l := by
  have h1 : l.map (ab_v ad) = l.map id := List.map_congr_left fun v hv => by
    cases v <;> first | rfl | exact absurd rfl (h _ hv _)
  rw [h1, List.map_id]
theorem ab_and {a b : Bool} (h : (a && b) = true) : a = true ∧ b = true := by rw [Bool.and_eq_true] at h; exact h
set_option maxHeartbeats 8000000 in
set_option maxRecDepth 100000 in
theorem ab_st_ok {X : ab_X} {M : ab_M} (hX : ab_is X M) {pc : Nat} {L : ab_L} {st : List Value} {h : List ab_C} {kc ks : Nat} {i : ab_I} (hi : ab_chk M.1 M.2.2.1 M.2.2.2.1 M.2.2.2.2.2.1 (pc, i) = true) {ds ds' : List Nat} {P : Option Prop} {F' : ab_F}
    (hs : ab_st (ab_Rc X) (ab_Rs X) (ab_sc X) ds i (pc, L, st, h, kc, ks) = some (ds', P, F')) (hq : ∀ q, P = some q → q) (k : ab_W X M F') : ab_W X M (pc, L, st, h, kc, ks) := by
  obtain ⟨p, l, e, R, s, m, args, below, meth, c, D, ca, B, n0, ad0, sc, Q⟩ := X
  obtain ⟨own, yM, cc, nL, ret, ini, cd, hh⟩ := M
  obtain ⟨ins, len, x, y, pos, v⟩ := i
  obtain ⟨hx, hb, hml, hown, hts, hlk, hini, hfr, hlo⟩ := hX
  unfold ab_W at k ⊢
  unfold ab_chk at hi
  dsimp only [ab_Rc, ab_Rs, ab_sc] at hs k hi hb hml hown hini ⊢
  have hi2 := ab_and hi
  clear hi
  obtain ⟨hd0, hi⟩ := hi2
  have hd := of_decide_eq_true hd0
  clear hd0
  intro ad H locs ls hR hl
  obtain ⟨hK, hP, hD, hS, hBs, had, hn0, hsc⟩ := id hR
  have hA : ∀ q : Nat, s.heap.size ≤ q → (fun q => B ≤ q) q := fun q hq => Nat.le_trans hBs hq
  cases ins <;> dsimp only [ab_st] at hs <;> try (cases hs; done)
  case iconst n => cases hs; exact lv_iconst hx hb hd (of_decide_eq_true hi) (k ad H locs ls hR hl)
  case bipush n => cases hs; exact lv_bipush hx hb hd (of_decide_eq_true hi) (k ad H locs ls hR hl)
  case sipush n => cases hs; exact lv_sipush hx hb hd (of_decide_eq_true hi) (k ad H locs ls hR hl)
  case lconst n => cases hs; exact lv_lconst hx hb hd rfl (k ad H locs ls hR hl)
  case ldc n =>
    cases h1 : Nat.beq x 1 with
    | true => simp [h1] at hs
    | false =>
      simp only [h1, cond_false] at hs
      cases hs
      simp only [h1, Bool.false_or] at hi
      exact lv_ldc hx hb hown (hts _ (ab_in_mem hi)) hd (k ad H locs ls hR hl)
  case iload n =>
    split at hs <;> cases hs
    rename_i a hg
    have hn := Nat.eq_of_beq_eq_true hi
    subst hn
    exact lv_iload hx hb hd (ab_at hl hg) (k ad H locs ls hR hl)
  case iload_n n =>
    split at hs <;> cases hs
    rename_i a hg
    exact lv_iload_n hx hb hd (Nat.eq_of_beq_eq_true hi) (ab_at hl hg) (k ad H locs ls hR hl)
  case lload n =>
    split at hs <;> cases hs
    rename_i a hg
    have hn := Nat.eq_of_beq_eq_true hi
    subst hn
    exact lv_lload hx hb hd (ab_at hl hg) (k ad H locs ls hR hl)
  case lload_n n =>
    split at hs <;> cases hs
    rename_i a hg
    exact lv_lload_n hx hb hd (Nat.eq_of_beq_eq_true hi) (ab_at hl hg) (k ad H locs ls hR hl)
  case aload n =>
    split at hs <;> cases hs
    rename_i a hg
    have hn := Nat.eq_of_beq_eq_true hi
    subst hn
    exact lv_aload hx hb hd (ab_at hl hg) (k ad H locs ls hR hl)
  case aload_n n =>
    split at hs <;> cases hs
    rename_i a hg
    exact lv_aload_n hx hb hd (Nat.eq_of_beq_eq_true hi) (ab_at hl hg) (k ad H locs ls hR hl)
  case istore n =>
    split at hs <;> cases hs
    obtain ⟨hi1, hi2⟩ := ab_and hi
    have hn := Nat.eq_of_beq_eq_true hi1
    subst hn
    exact lv_istore hx hb hd hl (Nat.le_of_ble_eq_true hi2) rfl (fun ls' h' => k ad H locs ls' hR (ab_l_set1 rfl h'))
  case istore_n n =>
    split at hs <;> cases hs
    obtain ⟨hi1, hi2⟩ := ab_and hi
    exact lv_istore_n hx hb hd (Nat.eq_of_beq_eq_true hi1) hl (Nat.le_of_ble_eq_true hi2) rfl (fun ls' h' => k ad H locs ls' hR (ab_l_set1 rfl h'))
  case astore n =>
    split at hs <;> cases hs
    obtain ⟨hi1, hi2⟩ := ab_and hi
    have hn := Nat.eq_of_beq_eq_true hi1
    subst hn
    exact lv_astore hx hb hd hl (Nat.le_of_ble_eq_true hi2) rfl (fun ls' h' => k ad H locs ls' hR (ab_l_set1 rfl h'))
  case astore_n n =>
    split at hs <;> cases hs
    obtain ⟨hi1, hi2⟩ := ab_and hi
    exact lv_astore_n hx hb hd (Nat.eq_of_beq_eq_true hi1) hl (Nat.le_of_ble_eq_true hi2) rfl (fun ls' h' => k ad H locs ls' hR (ab_l_set1 rfl h'))
  case lstore n =>
    split at hs <;> cases hs
    obtain ⟨hi1, hi2⟩ := ab_and hi
    have hn := Nat.eq_of_beq_eq_true hi1
    subst hn
    exact lv_lstore hx hb hd hl (Nat.le_of_ble_eq_true hi2) rfl (fun ls' h' => k ad H locs ls' hR (ab_l_set2 rfl h'))
  case lstore_n n =>
    split at hs <;> cases hs
    obtain ⟨hi1, hi2⟩ := ab_and hi
    exact lv_lstore_n hx hb hd (Nat.eq_of_beq_eq_true hi1) hl (Nat.le_of_ble_eq_true hi2) rfl (fun ls' h' => k ad H locs ls' hR (ab_l_set2 rfl h'))
  case iinc n z =>
    split at hs <;> cases hs
    rename_i a hg
    obtain ⟨hi1, hi2⟩ := ab_and hi
    obtain ⟨hi2, hi3⟩ := ab_and hi2
    have hn := Nat.eq_of_beq_eq_true hi1
    subst hn
    obtain ⟨j, hj⟩ := List.getElem?_of_mem (List.mem_map.mpr ⟨(n, Value.int a), ab_get_mem L n _ hg, rfl⟩ : (n, ab_v ad (.int a)) ∈ ab_l ad L)
    exact lv_iinc (k := j) hx hb hd hl hj (by rw [of_decide_eq_true hi3]) (Nat.le_of_ble_eq_true hi2) rfl (fun ls' h' => k ad H locs ls' hR (ab_l_set1 rfl h'))
  case iadd => split at hs <;> cases hs; exact lv_iadd hx hb hd (k ad H locs ls hR hl)
  case isub => split at hs <;> cases hs; exact lv_isub hx hb hd (k ad H locs ls hR hl)
  case imul => split at hs <;> cases hs; exact lv_imul hx hb hd (k ad H locs ls hR hl)
  case idiv => split at hs <;> cases hs; exact lv_idiv hx hb hd (hq _ rfl) (k ad H locs ls hR hl)
  case irem => split at hs <;> cases hs; exact lv_irem hx hb hd (hq _ rfl) (k ad H locs ls hR hl)
  case ineg => split at hs <;> cases hs; exact lv_ineg hx hb hd (k ad H locs ls hR hl)
  case iand => split at hs <;> cases hs; exact lv_iand hx hb hd (k ad H locs ls hR hl)
  case ior => split at hs <;> cases hs; exact lv_ior hx hb hd (k ad H locs ls hR hl)
  case ixor => split at hs <;> cases hs; exact lv_ixor hx hb hd (k ad H locs ls hR hl)
  case ishl => split at hs <;> cases hs; exact lv_ishl hx hb hd (k ad H locs ls hR hl)
  case ishr => split at hs <;> cases hs; exact lv_ishr hx hb hd (k ad H locs ls hR hl)
  case iushr => split at hs <;> cases hs; exact lv_iushr hx hb hd rfl (k ad H locs ls hR hl)
  case ladd => split at hs <;> cases hs; exact lv_ladd hx hb hd (k ad H locs ls hR hl)
  case lsub => split at hs <;> cases hs; exact lv_lsub hx hb hd (k ad H locs ls hR hl)
  case land => split at hs <;> cases hs; exact lv_land hx hb hd (k ad H locs ls hR hl)
  case lor => split at hs <;> cases hs; exact lv_lor hx hb hd (k ad H locs ls hR hl)
  case lshl => split at hs <;> cases hs; exact lv_lshl hx hb hd rfl (k ad H locs ls hR hl)
  case lshr => split at hs <;> cases hs; exact lv_lshr hx hb hd rfl (k ad H locs ls hR hl)
  case lcmp => split at hs <;> cases hs; exact W.lcmp hx hb hd (k ad H locs ls hR hl)
  case i2l => split at hs <;> cases hs; exact lv_i2l hx hb hd rfl (k ad H locs ls hR hl)
  case l2i => split at hs <;> cases hs; exact lv_l2i hx hb hd rfl (k ad H locs ls hR hl)
  case dup =>
    split at hs
    · rename_i a r
      cases hc : Nat.beq a.category 1 with
      | false => simp [hc] at hs
      | true =>
        simp only [hc, cond_true] at hs
        cases hs
        exact lv_dup hx hb hd (by rw [ab_v_cat]; exact Nat.eq_of_beq_eq_true hc) (k ad H locs ls hR hl)
    · cases hs
  case pop =>
    split at hs
    · rename_i a r
      cases hc : Nat.beq a.category 1 with
      | false => simp [hc] at hs
      | true =>
        simp only [hc, cond_true] at hs
        cases hs
        exact lv_pop hx hb hd (by rw [ab_v_cat]; exact Nat.eq_of_beq_eq_true hc) (k ad H locs ls hR hl)
    · cases hs
  case dup_x1 =>
    split at hs
    · rename_i a b r
      cases hc : (Nat.beq a.category 1 && Nat.beq b.category 1) with
      | false => simp only [hc, cond_false] at hs; cases hs
      | true =>
        simp only [hc, cond_true] at hs
        cases hs
        obtain ⟨c1, c2⟩ := ab_and hc
        exact lv_dup_x1 hx hb hd (by rw [ab_v_cat]; exact Nat.eq_of_beq_eq_true c1) (by rw [ab_v_cat]; exact Nat.eq_of_beq_eq_true c2) (k ad H locs ls hR hl)
    · cases hs
  case dup2 =>
    split at hs
    · rename_i a b r
      cases hc : (Nat.beq a.category 1 && Nat.beq b.category 1) with
      | false => simp only [hc, cond_false] at hs; cases hs
      | true =>
        simp only [hc, cond_true] at hs
        cases hs
        obtain ⟨c1, c2⟩ := ab_and hc
        exact lv_dup2_11 hx hb hd (by rw [ab_v_cat]; exact Nat.eq_of_beq_eq_true c1) (by rw [ab_v_cat]; exact Nat.eq_of_beq_eq_true c2) (k ad H locs ls hR hl)
    · cases hs
  case goto off => cases hs; exact lv_goto hx hb hd (of_decide_eq_true hi) (k ad H locs ls hR hl)
  case ifCond kd off =>
    have ht := of_decide_eq_true hi
    split at hs
    · cases hs
      have h1 := hq _ rfl
      cases kd
      · exact lv_if_eq hx hb hd ht (fun z => absurd z h1) (fun _ => k ad H locs ls hR hl)
      · exact lv_if_ne hx hb hd ht (fun z => absurd h1 z) (fun _ => k ad H locs ls hR hl)
      · exact lv_if_lt hx hb hd ht (fun z => absurd z h1) (fun _ => k ad H locs ls hR hl)
      · exact lv_if_ge hx hb hd ht (fun z => absurd z h1) (fun _ => k ad H locs ls hR hl)
      · exact lv_if_gt hx hb hd ht (fun z => absurd z h1) (fun _ => k ad H locs ls hR hl)
      · exact lv_if_le hx hb hd ht (fun z => absurd z h1) (fun _ => k ad H locs ls hR hl)
    · cases hs
      have h1 := hq _ rfl
      cases kd
      · exact lv_if_eq hx hb hd ht (fun _ => k ad H locs ls hR hl) (fun z => absurd h1 z)
      · exact lv_if_ne hx hb hd ht (fun _ => k ad H locs ls hR hl) (fun z => absurd z h1)
      · exact lv_if_lt hx hb hd ht (fun _ => k ad H locs ls hR hl) (fun z => absurd h1 z)
      · exact lv_if_ge hx hb hd ht (fun _ => k ad H locs ls hR hl) (fun z => absurd h1 z)
      · exact lv_if_gt hx hb hd ht (fun _ => k ad H locs ls hR hl) (fun z => absurd h1 z)
      · exact lv_if_le hx hb hd ht (fun _ => k ad H locs ls hR hl) (fun z => absurd h1 z)
    · cases hs
  case if_icmp kd off =>
    have ht := of_decide_eq_true hi
    split at hs
    · cases hs
      have h1 := hq _ rfl
      cases kd
      · exact lv_icmp_eq hx hb hd ht (fun z => absurd z h1) (fun _ => k ad H locs ls hR hl)
      · exact lv_icmp_ne hx hb hd ht (fun z => absurd h1 z) (fun _ => k ad H locs ls hR hl)
      · exact lv_icmp_lt hx hb hd ht (fun z => absurd z h1) (fun _ => k ad H locs ls hR hl)
      · exact lv_icmp_ge hx hb hd ht (fun z => absurd z h1) (fun _ => k ad H locs ls hR hl)
      · exact lv_icmp_gt hx hb hd ht (fun z => absurd z h1) (fun _ => k ad H locs ls hR hl)
      · exact lv_icmp_le hx hb hd ht (fun z => absurd z h1) (fun _ => k ad H locs ls hR hl)
    · cases hs
      have h1 := hq _ rfl
      cases kd
      · exact lv_icmp_eq hx hb hd ht (fun _ => k ad H locs ls hR hl) (fun z => absurd h1 z)
      · exact lv_icmp_ne hx hb hd ht (fun _ => k ad H locs ls hR hl) (fun z => absurd z h1)
      · exact lv_icmp_lt hx hb hd ht (fun _ => k ad H locs ls hR hl) (fun z => absurd h1 z)
      · exact lv_icmp_ge hx hb hd ht (fun _ => k ad H locs ls hR hl) (fun z => absurd h1 z)
      · exact lv_icmp_gt hx hb hd ht (fun _ => k ad H locs ls hR hl) (fun z => absurd h1 z)
      · exact lv_icmp_le hx hb hd ht (fun _ => k ad H locs ls hR hl) (fun z => absurd h1 z)
    · cases hs
  case tableswitch d lo hi' offs =>
    split at hs
    · split at hs
      · rename_i t ht
        cases hs
        exact lv_tableOut hx hb hd (hq _ rfl) ht (k ad H locs ls hR hl)
      · cases hs
    · split at hs
      · rename_i off ho
        split at hs
        · rename_i t ht
          cases hs
          obtain ⟨h1, h2⟩ := hq _ rfl
          exact lv_tableIn hx hb hd (by omega) h2 (by rw [h1, show ∀ a b : Int, a + b - a = b from fun a b => by omega]; exact ho) ht (k ad H locs ls hR hl)
        · cases hs
      · cases hs
    · cases hs
  case getfield n =>
    split at hs
    · rename_i a r
      split at hs
      · rename_i ci fs he
        cases hc : Nat.beq ci x with
        | false => simp only [hc, cond_false] at hs; cases hs
        | true =>
          simp only [hc, cond_true] at hs
          have hcx := Nat.eq_of_beq_eq_true hc
          subst hcx
          split at hs
          · rename_i w hw
            cases hs
            cases hcl : ab_cl[ci]? with
            | none => simp only [hcl] at hi; cases hi
            | some q =>
              obtain ⟨C, T, N⟩ := q
              simp only [hcl] at hi
              obtain ⟨i1, i2⟩ := ab_and hi
              obtain ⟨o1, -⟩ := ab_cl_ok ci C T N hcl
              exact va_get (D := D) (ci := ci) (C := C) (T := T) (N := N) (v := ab_v ad w) hx hb hts o1 hown hK hP a (ab_w_at he) hcl y (Nat.le_of_ble_eq_true i1) (hts _ (ab_in_mem i2)) (fun _ h9 => h9) (by rw [List.getElem?_map, hw]; rfl) hd (k ad H locs ls hR hl)
          · cases hs
      · cases hs
    · cases hs
  case putfield n =>
    split at hs
    · rename_i w a r
      split at hs
      · rename_i ci fs he
        cases hc : (Nat.beq ci x && (ab_fit (ab_ft x y) w && Nat.blt y fs.length)) with
        | false => simp only [hc, cond_false] at hs; cases hs
        | true =>
          simp only [hc, cond_true] at hs
          cases hs
          obtain ⟨c1, c2⟩ := ab_and hc
          obtain ⟨c2, c3⟩ := ab_and c2
          have hcx := Nat.eq_of_beq_eq_true c1
          subst hcx
          cases hcl : ab_cl[ci]? with
          | none => simp only [hcl] at hi; cases hi
          | some q =>
            obtain ⟨C, T, N⟩ := q
            simp only [hcl] at hi
            obtain ⟨i1, i2⟩ := ab_and hi
            obtain ⟨i2, i3⟩ := ab_and i2
            have hyN : y < N := Nat.le_of_ble_eq_true i1
            obtain ⟨o1, o2, o3, -⟩ := ab_cl_ok ci C T N hcl
            obtain ⟨f1, f2⟩ := ab_fit_ok ad c2
            have hyl : y < (fs.map (ab_v ad)).length := by rw [List.length_map]; exact Nat.le_of_ble_eq_true c3
            have hset : ab_e ad ca (.inr (ci, fs.set y w)) = .inr (ci, (fs.map (ab_v ad)).set y (ab_v ad w)) := by
              show Sum.inr (ci, (fs.set y w).map (ab_v ad)) = _
              rw [List.map_set]
            cases hfin : (T y).2.2.2 with
            | false =>
              exact va_put (D := D) (ci := ci) (C := C) (T := T) (N := N) (v := ab_v ad w) (ty := ab_ft ci y) hx hb hts o1 (ab_ft ci) o2 o3 hown hK hP hD hS a (ab_w_at he) hcl y hyN (hts _ (ab_in_mem i2)) (fun _ h9 => h9) hfin (o2 y hyN) f1 f2 hyl hd (fun H1 locs1 hP1 hD1 hS1 => k ad H1 locs1 ls (ab_R_set hR hset hP1 hD1 hS1) hl)
            | true =>
              rw [hfin] at i3
              obtain ⟨j1, j2⟩ := ab_and (show (ini && decide ((T y).1 = own)) = true from i3)
              exact va_putF (D := D) (ci := ci) (C := C) (T := T) (N := N) (v := ab_v ad w) (ty := ab_ft ci y) hx hb hts o1 (ab_ft ci) o2 o3 hown hK hP hD hS a (ab_w_at he) hcl y hyN (hts _ (ab_in_mem i2)) (fun _ h9 => h9) hfin (hini j1) (of_decide_eq_true j2) (o2 y hyN) f1 f2 hyl hd (fun H1 locs1 hP1 hD1 hS1 => k ad H1 locs1 ls (ab_R_set hR hset hP1 hD1 hS1) hl)
      · cases hs
    · cases hs
  case iaload =>
    split at hs
    · split at hs
      · rename_i n f
        cases hs
        obtain ⟨x1, x2⟩ := hsc n f rfl
        exact va_sld (A := fun q => B ≤ q) hx hb x1 (by omega) (by show ¬ B ≤ ad 0; omega) hS (hq _ rfl) hd (k ad H locs ls hR hl)
      · cases hs
    · rename_i j a r
      split at hs
      · rename_i n f he
        cases hs
        exact va_iald (D := D) hx hb hK hP a 0 (ab_w_at he) rfl (hq _ rfl) hd (k ad H locs ls hR hl)
      · cases hs
    · cases hs
  case baload =>
    split at hs
    · rename_i j a r
      split at hs
      · rename_i n f he
        cases hs
        exact va_zald (D := D) hx hb hK hP a 2 (ab_w_at he) rfl (hq _ rfl) hd (k ad H locs ls hR hl)
      · cases hs
    · cases hs
  case laload =>
    split at hs
    · rename_i j a r
      split at hs
      · rename_i n f he
        cases hs
        exact va_lald (D := D) hx hb hK hP a 1 (ab_w_at he) rfl (hq _ rfl) hd (k ad H locs ls hR hl)
      · cases hs
    · cases hs
  case iastore =>
    split at hs
    · rename_i w j a r
      split at hs
      · rename_i n f he
        cases hs
        exact va_iast (D := D) hx hb hK hP hD hS a 0 (ab_w_at he) rfl (hq _ rfl) hd (fun H1 locs1 hP1 hD1 hS1 => k ad H1 locs1 ls (ab_R_set hR rfl hP1 hD1 hS1) hl)
      · cases hs
    · cases hs
  case bastore =>
    split at hs
    · rename_i w j a r
      split at hs
      · rename_i n f he
        cases hs
        exact va_zast (D := D) hx hb hK hP hD hS a 2 (ab_w_at he) rfl (hq _ rfl) hd (fun H1 locs1 hP1 hD1 hS1 => k ad H1 locs1 ls (ab_R_set hR rfl hP1 hD1 hS1) hl)
      · cases hs
    · cases hs
  case lastore =>
    split at hs
    · rename_i w j a r
      split at hs
      · rename_i n f he
        cases hs
        exact va_last (D := D) hx hb hK hP hD hS a 1 (ab_w_at he) rfl (hq _ rfl) hd (fun H1 locs1 hP1 hD1 hS1 => k ad H1 locs1 ls (ab_R_set hR rfl hP1 hD1 hS1) hl)
      · cases hs
    · cases hs
  case arraylength =>
    split at hs
    · split at hs
      · rename_i n f
        cases hs
        obtain ⟨x1, x2⟩ := hsc n f rfl
        exact va_slen (A := fun q => B ≤ q) hx hb x1 (by omega) (by show ¬ B ≤ ad 0; omega) hS hd (k ad H locs ls hR hl)
      · cases hs
    · rename_i a r
      split at hs
      · rename_i n f he
        cases hs
        exact va_alen (D := D) (x := (n, f)) hx hb hK hP a 0 (ab_w_at he) rfl rfl hd (k ad H locs ls hR hl)
      · cases hs
    · cases hs
  case new n =>
    cases hcl : ab_cl[x]? with
    | none => simp only [hcl] at hs; cases hs
    | some q =>
      obtain ⟨C, T, N⟩ := q
      simp only [hcl] at hs hi
      cases hs
      obtain ⟨w1, w2, w3⟩ := hq _ rfl
      obtain ⟨u1, u2⟩ := ab_and w1
      obtain ⟨u2, u3⟩ := ab_and u2
      obtain ⟨i1, i2⟩ := ab_and hi
      obtain ⟨i2, i3⟩ := ab_and i2
      obtain ⟨o1, o2, o3, o4, o5⟩ := ab_cl_ok x C T N hcl
      refine va_new (ci := x) (fs := ab_df x) (C := C) (T := T) (N := N) hx hb hts o1 (ab_ft x) o2 hown (hts _ (ab_in_mem i1)) (hts _ (ab_in_mem i2)) (hts _ (ab_in_mem i3)) hK hP hD hS hA hcl o4 w2 w3 hd (fun q H1 hP1 hD1 hS1 => ?_)
      have hlow : ∀ k, k ≤ h.length → va_up ad (h.length + 1) q k = ad k := fun k hk => if_neg (by omega)
      have k1 := k (va_up ad (h.length + 1) q) H1 locs ls (ab_R_push hR (show Sum.inr (x, (ab_df x).map (ab_v (va_up ad (h.length + 1) q))) = Sum.inr (x, ab_df x) by rw [ab_map_id o5]) u3 hP1 hD1 hS1) (by rw [ab_l_eq u1 hlow]; exact hl)
      rw [List.map_cons, ab_s_eq u2 hlow, show ab_v (va_up ad (h.length + 1) q) (.ref (h.length + 1)) = .ref q from congrArg Value.ref (if_pos rfl)] at k1
      exact k1
  case newarray at' =>
    split at hs
    · rename_i n r
      have hbytes : ∀ t : FieldType, n.toNatClampNeg ≤ 1000000 → n.toNatClampNeg * componentBytes t ≤ 536870912 := fun t ht => by
        have h8 : componentBytes t ≤ 8 := by cases t <;> simp [componentBytes]
        calc n.toNatClampNeg * componentBytes t ≤ 1000000 * 8 := Nat.mul_le_mul ht h8
          _ ≤ 536870912 := by decide
      have key : ∀ (ty : FieldType) (t0 : Nat) (a0 : vp_A), newarray.typeOf at' = ty → (ab_tys ca)[t0]? = some (ca ty, ty) → (∀ cA : ClassId, vp_cell cA a0 = arrV cA n.toNatClampNeg (fun _ => defaultValue ty)) → (match ty with | .object _ => False | _ => True) → (ab_wf h.length L r h = true ∧ ¬ n < 0 ∧ n.toNatClampNeg ≤ 1000000 ∧ kc + 1 ≤ R.cells ∧ ks + n.toNatClampNeg ≤ R.slots) →
          (∀ (ad : Nat → Nat) (H : Heap) (locs : List Loc) (ls : Array Slot), ab_R D ca B n0 ad0 sc s ad (h ++ [.inl (ty, a0)]) H locs → lv_has ls nL (ab_l ad L) → W p l e R s m args below meth c H locs (kc + 1) (ks + n.toNatClampNeg) Q (F0 m (pc + 2) ls ((Value.ref (h.length + 1) :: r).map (ab_v ad)))) →
          W p l e R s m args below meth c H locs kc ks Q (F0 m pc ls ((Value.int n :: r).map (ab_v ad))) := by
        intro ty t0 a0 hty ht0 ha0 hno hw kk
        obtain ⟨w1, w2, w3, w4, w5⟩ := hw
        obtain ⟨u1, u2⟩ := ab_and w1
        obtain ⟨u2, u3⟩ := ab_and u2
        refine va_newa hx hb (hts _ (ab_in_mem hi)) hty hK hP hD hS hA ha0 w2 rfl (hbytes ty w3) w4 w5 hd (fun q cA H1 hK1 hP1 hD1 hS1 => ?_)
        have hlow : ∀ k, k ≤ h.length → va_up ad (h.length + 1) q k = ad k := fun k hk => if_neg (by omega)
        have hca : cA = ca ty := by
          have h1 := (hK1.2 3 (cA, ty) rfl).2
          have h2 := (hK.2 t0 _ ht0).2
          cases ty <;> first | exact Option.some.inj (h1.symm.trans h2) | exact absurd hno id
        subst hca
        have k1 := kk (va_up ad (h.length + 1) q) H1 locs ls (ab_R_push hR rfl u3 hP1 hD1 hS1) (by rw [ab_l_eq u1 hlow]; exact hl)
        rw [List.map_cons, ab_s_eq u2 hlow, show ab_v (va_up ad (h.length + 1) q) (.ref (h.length + 1)) = .ref q from congrArg Value.ref (if_pos rfl)] at k1
        exact k1
      split at hs
      · cases hs
        exact key .int 0 _ rfl rfl (fun _ => rfl) trivial (hq _ rfl) k
      · cases hs
        exact key .long 1 _ rfl rfl (fun _ => rfl) trivial (hq _ rfl) k
      · cases hs
        exact key .boolean 2 _ rfl rfl (fun _ => rfl) trivial (hq _ rfl) k
      · cases hs
    · cases hs
  case invokestatic n =>
    have hls : c.maxLocals = ls.size := hml.trans hl.1.symm
    split at hs
    · rename_i b a r
      cases hc : Nat.ble (ab_wt r) 8 with
      | false => simp only [hc, cond_false] at hs; cases hs
      | true =>
        simp only [hc, cond_true] at hs
        cases hs
        obtain ⟨w1, w2⟩ := hq _ rfl
        have hw : ((r.map (ab_v ad)).map fun v => v.category).sum + 13 ≤ R.locals := by
          rw [ab_v_sum]
          have := Nat.le_of_ble_eq_true hc
          unfold ab_wt at this
          omega
        exact va_mmax hx hb hls hown (hts _ (ab_in_mem hi)) (hts _ ab_mx.1) (hts _ ab_mx.2.1) (hts _ ab_mx.2.2) hfr hw w1 w2 hd (k ad H locs ls hR hl)
    · rename_i b a r
      cases hc : Nat.ble (ab_wt r) 8 with
      | false => simp only [hc, cond_false] at hs; cases hs
      | true =>
        simp only [hc, cond_true] at hs
        cases hs
        obtain ⟨w1, w2⟩ := hq _ rfl
        have hw : ((r.map (ab_v ad)).map fun v => v.category).sum + 13 ≤ R.locals := by
          rw [ab_v_sum]
          have := Nat.le_of_ble_eq_true hc
          unfold ab_wt at this
          omega
        exact va_mmin hx hb hls hown (hts _ (ab_in_mem hi)) (hts _ ab_mn.1) (hts _ ab_mn.2.1) (hts _ ab_mn.2.2) hfr hw w1 w2 hd (k ad H locs ls hR hl)
    · rename_i a r
      cases hc : Nat.ble (ab_wt r) 8 with
      | false => simp only [hc, cond_false] at hs; cases hs
      | true =>
        simp only [hc, cond_true] at hs
        cases hs
        obtain ⟨w1, w2⟩ := hq _ rfl
        have hw : ((r.map (ab_v ad)).map fun v => v.category).sum + 13 ≤ R.locals := by
          rw [ab_v_sum]
          have := Nat.le_of_ble_eq_true hc
          unfold ab_wt at this
          omega
        exact va_mabs hx hb hls hown (hts _ (ab_in_mem hi)) (hts _ ab_ma.1) (hts _ ab_ma.2.1) (hts _ ab_ma.2.2) hfr hw w1 w2 hd (k ad H locs ls hR hl)
    · cases hs
  case invokespecial n =>
    split at hs
    · rename_i a r
      cases hc : Nat.ble (ab_wt r) 8 with
      | false => simp only [hc, cond_false] at hs; cases hs
      | true =>
        simp only [hc, cond_true] at hs
        cases hs
        have hw : 2 * 0 + ((r.map (ab_v ad)).map fun v => v.category).sum + 12 ≤ R.locals := by
          rw [ab_v_sum]
          have := Nat.le_of_ble_eq_true hc
          unfold ab_wt at this
          omega
        exact W.objInit hx hb hown (hts _ (ab_in_mem hi)) (hts _ ab_oi.1) (hts _ ab_oi.2) rfl (hl.1.trans hml.symm) rfl hd hfr hw (k ad H locs ls hR hl)
    · cases hs
theorem ab_all_cons {P : Prop} {r : List Prop} (h : ab_all (P :: r)) : P ∧ ab_all r := by
  cases r with
  | nil => exact ⟨h, trivial⟩
  | cons a b => exact h
theorem ab_path_acc (cd : List (Nat × ab_I)) (Rc Rs : Nat) (sc : ab_S) : ∀ (k : Nat) (ds : List Nat) (acc : List Prop) (F : ab_F) (vc : List Prop) (F' : ab_F), ab_path cd Rc Rs sc k ds acc F = some (vc, F') → ab_all vc → ab_all acc
  | 0, ds, acc, F, vc, F', h, hv => by
    unfold ab_path at h
    cases h
    exact hv
  | k + 1, ds, acc, F, vc, F', h, hv => by
    unfold ab_path at h
    split at h
    · cases h
    · split at h
      · exact ab_path_acc cd Rc Rs sc k _ _ _ vc F' h hv
      · exact (ab_all_cons (ab_path_acc cd Rc Rs sc k _ _ _ vc F' h hv)).2
      · cases h
/-- A PATH: what it comes to gives where it began -/
theorem ab_go0 {X : ab_X} {M : ab_M} (hX : ab_is X M) (hM : ab_Mok M) : ∀ (k : Nat) (ds : List Nat) (acc : List Prop) (F : ab_F) (vc : List Prop) (F' : ab_F), ab_path M.2.2.2.2.2.2.1 (ab_Rc X) (ab_Rs X) (ab_sc X) k ds acc F = some (vc, F') → ab_all vc → ab_W X M F' → ab_W X M F
  | 0, ds, acc, F, vc, F', h, hv, hk => by
    unfold ab_path at h
    cases h
    exact hk
  | k + 1, ds, acc, F, vc, F', h, hv, hk => by
    unfold ab_path at h
    split at h
    · cases h
    · rename_i i hi
      have hc := List.all_eq_true.mp hM _ (ab_lk_mem _ _ _ hi)
      obtain ⟨pc, L, st, hp, kc, ks⟩ := F
      split at h
      · rename_i ds' F1 hs
        exact ab_st_ok hX hc hs (fun q z => by cases z) (ab_go0 hX hM k _ _ _ vc F' h hv hk)
      · rename_i ds' P F1 hs
        exact ab_st_ok hX hc hs (fun q z => by cases z; exact (ab_all_cons (ab_path_acc _ _ _ _ k _ _ _ vc F' h hv)).1) (ab_go0 hX hM k _ _ _ vc F' h hv hk)
      · cases h
theorem ab_go {X : ab_X} {M : ab_M} (hX : ab_is X M) (hM : ab_Mok M) (k : Nat) (ds : List Nat) {F : ab_F} (vc : List Prop) (F' : ab_F) (h : ab_path M.2.2.2.2.2.2.1 (ab_Rc X) (ab_Rs X) (ab_sc X) k ds [] F = some (vc, F')) (hv : ab_all vc) (hk : ab_W X M F') : ab_W X M F :=
  ab_go0 hX hM k ds [] F vc F' h hv hk
end
section
/-! THROWS. Pasted out of claim/NAMES.whole.lean.txt (its rows on exceptions, as far as they are used here), the library's names written out -/
section VXP
variable {p : Program} {l : Launch} {e : Env} {R : Room} {s : State} {m : MethodId} {args : Array Value} {below : List Frame} {meth : Method} {c : Code} {H : Heap} {locs : List Loc} {cells slots : Nat} {Q : State → Prop} {pc : Nat} {ls : Array Slot} {rest : List Value} {free : Addr → Prop} {Qc : Array Value → State → Outcome → State → Prop} {XC : String → State → State → Prop}
def vx_T (XC : String → State → State → Prop) (st : State) (q : Addr) (t : State) (mc ms : Nat) (free : Addr → Prop) : Prop :=
  ∃ (E : String) (ce : Cell) (L : List Loc), XC E st t ∧ t.heap[q]? = some ce ∧ ce.vm = .none ∧ st.vm.findClass E = some ce.cls ∧ st.WarmedH t.vm ∧ st.sameButNew ({ t with vm := st.vm } : State) L mc ms ∧ ∀ z ∈ L, free z.base
def vx_Q (Qc : Array Value → State → Outcome → State → Prop) (XC : String → State → State → Prop) (mc ms : Nat) (free : Addr → Prop) : Array Value → State → Outcome → State → Prop := fun a st o t =>
  (Qc a st o t ∧ ∃ L, FrameEnd st o t L mc ms ∧ ∀ q ∈ L, free q.base) ∨ ∃ q, o = .threw q ∧ vx_T XC st q t mc ms free
def vx_MQ (below : List Frame) (Qc : Array Value → State → Outcome → State → Prop) (XC : String → State → State → Prop) (a : Array Value) (s : State) (mc ms : Nat) (free : Addr → Prop) : State → Prop := fun t =>
  ∃ o, t.status = .running ∧ Ended t below o ∧ vx_Q Qc XC mc ms free a s o t
theorem vx_frame {U : State} {k n : Nat} (h : s.sameButNew ({ U with vm := s.vm } : State) locs k n) : s.heap.size ≤ U.heap.size ∧ ∀ q : Nat, q < s.heap.size → (∀ z ∈ locs, z.base ≠ q) → U.heap[q]? = s.heap[q]? := by
  obtain ⟨-, h2, -, -, -, h6⟩ := h
  refine ⟨h2, fun q hq hz => ?_⟩
  obtain ⟨c9, e1, e2, e3, e4⟩ := h6 q _ (Array.getElem?_eq_getElem hq)
  have hs : c9.slots = (s.heap[q]).slots := Array.ext_getElem? fun i => e4 i fun hm => hz _ hm rfl
  have h9 : c9 = s.heap[q] := by
    rw [hs] at e2
    exact e2
  have e5 : U.heap[q]? = some c9 := e1
  rw [e5, h9, Array.getElem?_eq_getElem hq]
def vx_no (w : Cond) : Bool := decide (w ≠ .isRef (.static Bundle.tN "UNASSIGNED_STACK" Bundle.steD)) && decide (w ≠ .isRef (.static Bundle.tN "SUPPRESSED_SENTINEL" Bundle.listD)) && decide (w ≠ .laysStatic Bundle.tN "UNASSIGNED_STACK" Bundle.steD) && decide (w ≠ .laysStatic Bundle.tN "SUPPRESSED_SENTINEL" Bundle.listD)
def vx_atS (own : String) (ic : Nat) (X : String) (names : List String) : List Cond := (Bundle.ownAtoms own ic X names).filter vx_no
def vx_ot (w : Cond) : Bool := w.onTables || goodWord w
theorem vx_ot_at {args a' : Array Value} {s U : State} {w : Cond} (hW : s.WarmedH U.vm) (hvm : s.vm = U.vm) (hg : vx_ot w = true) (h : w.before args s = true) : w.before a' U = true := by
  simp only [vx_ot, Bool.or_eq_true] at hg
  rcases hg with hg | hg
  · exact va_tabs hg hvm h
  · exact word_at hW (good_of_word hg) h
theorem vx_own {args : Array Value} {s : State} {L : List Cond} (h1 : ∀ w ∈ L.filter vx_no, w.before args s = true)
    (hU : (Cond.isRef (.static Bundle.tN "UNASSIGNED_STACK" Bundle.steD)).before args s = true) (hN : (Cond.isRef (.static Bundle.tN "SUPPRESSED_SENTINEL" Bundle.listD)).before args s = true)
    (lU : (Cond.laysStatic Bundle.tN "UNASSIGNED_STACK" Bundle.steD).before args s = true) (lN : (Cond.laysStatic Bundle.tN "SUPPRESSED_SENTINEL" Bundle.listD).before args s = true) : ∀ w ∈ L, w.before args s = true := by
  intro w hw
  by_cases e1 : w = .isRef (.static Bundle.tN "UNASSIGNED_STACK" Bundle.steD)
  · rw [e1]; exact hU
  · by_cases e2 : w = .isRef (.static Bundle.tN "SUPPRESSED_SENTINEL" Bundle.listD)
    · rw [e2]; exact hN
    · by_cases e3 : w = .laysStatic Bundle.tN "UNASSIGNED_STACK" Bundle.steD
      · rw [e3]; exact lU
      · by_cases e4 : w = .laysStatic Bundle.tN "SUPPRESSED_SENTINEL" Bundle.listD
        · rw [e4]; exact lN
        · exact h1 w (List.mem_filter.mpr ⟨hw, by unfold vx_no; rw [decide_eq_true e1, decide_eq_true e2, decide_eq_true e3, decide_eq_true e4]; rfl⟩)
def vx_L (C n d : String) (A : Nat → Prop) (U : State) (H : Heap) : Prop := ∃ (c : ClassId) (k : Class) (i : Nat) (f : Field) (a : Nat) (cell : Cell), U.vm.findClass C = some c ∧ U.fieldFound? C n d = some (c, k, i, f) ∧ f.isStatic = true ∧ k.statics = some a ∧ H[a]? = some cell ∧ cell.vm.isStatics = true ∧ cell.cls = c ∧ f.slot < cell.slots.size ∧ k.staticTypes[f.slot]? = some f.type ∧ ¬ A a
theorem vx_L.moved {C n d : String} {A : Nat → Prop} {u U : State} {H : Heap} (hvm : u.vm.Alike U.vm) (h : vx_L C n d A u H) : vx_L C n d A U H := by
  obtain ⟨c, k, i, f, a, cell, h1, h2, h3, h4, h5, h6, h7, h8, h9, h10⟩ := h
  obtain ⟨k', hi', he⟩ := State.fieldFound?_setVm hvm h2
  exact ⟨c, k', i, f, a, cell, by rw [hvm.findClass]; exact h1, hi', h3, by rw [he]; exact h4, h5, h6, h7, h8, by rw [he]; exact h9, h10⟩
theorem vx_L.kept {C n d : String} {A : Nat → Prop} {U : State} {H H1 : Heap} (h : vx_L C n d A U H) (hq : ∀ a : Nat, a < H.size → ¬ A a → H1[a]? = H[a]?) : vx_L C n d A U H1 := by
  obtain ⟨c, k, i, f, a, cell, h1, h2, h3, h4, h5, h6, h7, h8, h9, h10⟩ := h
  exact ⟨c, k, i, f, a, cell, h1, h2, h3, h4, by rw [hq a (Array.getElem?_eq_some_iff.mp h5).1 h10]; exact h5, h6, h7, h8, h9, h10⟩
theorem vx_L.word {C n d : String} {A : Nat → Prop} {s : State} {args : Array Value} (h : vx_L C n d A s s.heap) : (Cond.laysStatic C n d).before args s = true := by
  obtain ⟨c, k, i, f, a, cell, h1, h2, h3, h4, h5, h6, h7, h8, h9, -⟩ := h
  show (Cond.laysStatic C n d).holds args s none s [] = true
  exact Cond.laysStatic_of h1 h2 h3 h4 h5 h6 h7 h8 h9
def vx_Zq (C n d : String) (A : Nat → Prop) (U : State) (H : Heap) : Prop := va_Zq C n d A U H ∧ vx_L C n d A U H
theorem vx_Zq.moved {C n d : String} {A : Nat → Prop} {u U : State} {H : Heap} (hvm : u.vm.Alike U.vm) (h : vx_Zq C n d A u H) : vx_Zq C n d A U H := ⟨va_Zq.moved hvm h.1, vx_L.moved hvm h.2⟩
theorem vx_Zq.kept {C n d : String} {A : Nat → Prop} {U : State} {H H1 : Heap} (h : vx_Zq C n d A U H) (hq : ∀ a : Nat, a < H.size → ¬ A a → H1[a]? = H[a]?) : vx_Zq C n d A U H1 := ⟨va_Zq.kept h.1 hq, vx_L.kept h.2 hq⟩
theorem vx_Zqof {args : Array Value} {s : State} {C n d : String} {A : Nat → Prop} (hl : (Cond.laysStatic C n d).before args s = true) (hini : (Cond.initialized C).before args s = true) (h : (Cond.isRef (.static C n d)).before args s = true) (hA : ∀ a : Nat, a < s.heap.size → ¬ A a) : vx_Zq C n d A s s.heap := by
  refine ⟨va_Zqof hl hini h hA, ?_⟩
  obtain ⟨c, k, i, f, a, cell, h1, h2, h3, h4, h5, h6, h7, h8, h9⟩ := Cond.laysStatic_spec hl
  exact ⟨c, k, i, f, a, cell, h1, h2, h3, h4, h5, h6, h7, h8, h9, hA a (Array.getElem?_eq_some_iff.mp h5).1⟩
theorem vx_isRef {C n d : String} {v : Value} {A : Nat → Prop} {s : State} {args : Array Value} (h : va_Z C n d v A s s.heap) (hv : v.isRef = true) : (Cond.isRef (.static C n d)).before args s = true := by
  obtain ⟨cf, kf, fi, f, a, cell, h1, h2, h3, h4, h5, h6, h7, -⟩ := h
  have he : (Term.static C n d).eval args s none [] s = some v := by
    simp [Term.eval, State.fieldNamed?, h1, h2, h4, h5, h6, h7]
  simp only [Cond.before, Cond.holds, Cond.value, he]
  cases v <;> simp_all [Value.isRef]
theorem vx_isRefq {C n d : String} {A : Nat → Prop} {s : State} {args : Array Value} (h : va_Zq C n d A s s.heap) : (Cond.isRef (.static C n d)).before args s = true := by
  rcases h with h | ⟨t, h⟩
  · exact vx_isRef h rfl
  · exact vx_isRef h rfl
theorem vx_rebase {T : State} (X : Stand p l e R s m args below meth c T locs cells slots) {R' : Room} (hf : R'.frames ≤ R.frames) (hl : R'.locals ≤ R.locals) (hc : cells + R'.cells ≤ R.cells) (hs : slots + R'.slots ≤ R.slots) :
    Stand p l e R' ((T.setVm s.vm).setFrames (.invoking m args :: below)) m args below meth c T [] 0 0 := by
  have htop : (T.setVm s.vm).topJava?.isSome := X.here.top
  have hF : ((T.setVm s.vm).setFrames (.invoking m args :: below)).frames = .invoking m args :: below := State.frames_setFrames _ (State.cur_lt_of_top htop)
  obtain ⟨g₀, hg0⟩ := Option.isSome_iff_exists.mp htop
  obtain ⟨r, hr⟩ := State.topJava?_eq_some.mp hg0
  have hl9 : e.platform.stackLimits (T.setVm s.vm).me = e.platform.stackLimits s.me := X.limits
  have hb9 : (T.setVm s.vm).me.stackBytes = s.me.stackBytes := X.bytes
  refine ⟨X.admits, X.cas, X.clock, hF, ?_, X.hears, X.method, X.code, X.here, X.tail, X.warmed, ?_, ?_, ?_⟩
  · have h := X.room
    have hU : ((T.setVm s.vm).setFrames (.invoking m args :: below)).localsInUse = s.localsInUse := by
      rw [State.localsInUse_invoking hF (meth := meth) (c := c) X.method X.code, State.localsInUse_invoking X.frames X.method X.code]
    simp only [State.hasRoom, Bool.and_eq_true, decide_eq_true_eq] at h ⊢
    obtain ⟨⟨⟨⟨h1, h2, h3, h4, h5, h6⟩, h7⟩, h8⟩, h9⟩ := h
    rw [X.frames, List.length_cons] at h2 h3
    have q1 := X.heapSize
    have q2 := X.used
    simp only [hF, hU, List.length_cons, State.stackLimits_setFrames, State.stackBytes_setFrames, hl9, hb9]
    refine ⟨⟨⟨⟨by omega, by omega, by omega, by omega, by omega, h6⟩, ?_⟩, ?_⟩, X.book⟩
    · show T.heap.size + R'.cells ≤ e.platform.maxCells
      omega
    · show T.slotsUsed + R'.slots ≤ e.platform.maxSlots
      omega
  · rw [State.stackLimits_setFrames]; rfl
  · rw [State.stackBytes_setFrames]; rfl
  · refine ⟨?_, Nat.le_refl _, Nat.le_refl _, ?_, ?_, fun a c9 h9 => ⟨c9, h9, rfl, rfl, fun _ _ => rfl⟩⟩
    · obtain ⟨t, ht, -⟩ := State.frames_cons hr
      show T.setVm s.vm = { ((T.setVm s.vm).setFrames (.invoking m args :: below)).setFrames (T.setVm s.vm).frames with heap := T.heap, slotsUsed := T.slotsUsed }
      rw [State.setFrames_setFrames, State.setFrames_self ht]
      rfl
    · show T.slotsUsed = T.slotsUsed + ((T.heap.toList.drop T.heap.size).map (·.slots.size)).sum
      rw [List.drop_eq_nil_of_le (Nat.le_of_eq Array.length_toList)]
      rfl
    · show ((T.heap.toList.drop T.heap.size).map (·.slots.size)).sum ≤ 0
      rw [List.drop_eq_nil_of_le (Nat.le_of_eq Array.length_toList)]
      exact Nat.le_refl _
theorem vx_throwS {cc : ByteArray} {pc : Nat} (hexec : p.tables.exec = Jvm.exec) (hb : c.code = cc) (hl : l.stackTraces = false) {own cls text : String} {names : List String} {ik is ic mc ms sa : Nat} {A : Nat → Prop}
    (hown : s.vm.findClass own = some m.cls) (hcls : Bundle.fit cls = true) (hnames : ∀ n ∈ names, Bundle.fit n = true)
    (hk : (Cond.classLink own ik cls).before args s = true) (hini : (Cond.initialized cls).before args s = true) (hstr : vk_R own is text sa s) (hat : ∀ w ∈ vx_atS own ic cls names, w.before args s = true)
    (hgood : ∀ w ∈ Cond.classLink own ik cls :: Cond.initialized cls :: vx_atS own ic cls names, vx_ot w = true)
    (hU : vx_Zq Bundle.tN "UNASSIGNED_STACK" Bundle.steD A s s.heap) (hN : vx_Zq Bundle.tN "SUPPRESSED_SENTINEL" Bundle.listD A s s.heap) (hS : va_S A s.heap H locs) (hsize : ls.size = c.maxLocals)
    (d0 : decode cc pc = .ok (.new ik, 3)) (d3 : decode cc (pc + 3) = .ok (.dup, 1)) (d4 : decode cc (pc + 4) = .ok (.ldc is, 2)) (d6 : decode cc (pc + 6) = .ok (.invokespecial ic, 3)) (d9 : decode cc (pc + 9) = .ok (.athrow, 1))
    (hout : ∀ x ∈ c.exceptionTable.toList, covers x (pc + 9) = false)
    (hRframes : names.length + 3 < R.frames) (hRlocals : (rest.map fun v => v.category).sum + (13 * (names.length + 1) + 43) ≤ R.locals) (hRcells : cells + 1 ≤ R.cells) (hRslots : slots + 6 ≤ R.slots) (hlocks : meth.locks = false)
    (hx : ∀ t : State, s.vm.Alike t.vm → H.size ≤ t.heap.size → (∀ q : Nat, q < H.size → t.heap[q]? = H[q]?) → XC cls s t)
    (hf : ∀ z ∈ locs, free z.base) (hc : cells + 1 ≤ mc) (hs : slots + 6 ≤ ms) :
    W p l e R s m args below meth c H locs cells slots (vx_MQ below Qc XC args s mc ms free) (F0 m pc ls rest) := by
  intro T hT X
  have htr : e.platform.stackTraces = false := (show e.platform.stackTraces = l.stackTraces by rw [X.admits.platform]).trans hl
  have Y := vx_rebase X (R' := { frames := R.frames, locals := R.locals, cells := 1, slots := 6 }) (Nat.le_refl _) (Nat.le_refl _) hRcells hRslots
  obtain ⟨s', hA⟩ : ∃ z, z = (T.setVm s.vm).setFrames (.invoking m args :: below) := ⟨_, rfl⟩
  rw [← hA] at Y
  have hvm : s'.vm = s.vm := by rw [hA]; rfl
  have hhp : s'.heap = H := by rw [hA]; exact hT
  have hW0 : s.WarmedH s'.vm := by rw [hvm]; exact State.WarmedH.refl s
  have hat' : ∀ w ∈ vx_atS own ic cls names, w.before args s' = true := fun w hw => vx_ot_at hW0 hvm.symm (hgood w (List.mem_cons_of_mem _ (List.mem_cons_of_mem _ hw))) (hat w hw)
  have hk' : (Cond.classLink own ik cls).before args s' = true := vx_ot_at hW0 hvm.symm (hgood _ List.mem_cons_self) hk
  have hini' : (Cond.initialized cls).before args s' = true := vx_ot_at hW0 hvm.symm (hgood _ (List.mem_cons_of_mem _ List.mem_cons_self)) hini
  have hU' : vx_Zq Bundle.tN "UNASSIGNED_STACK" Bundle.steD A s' s'.heap := by rw [hhp]; exact vx_Zq.moved hW0.alike (hU.kept hS.2.1)
  have hN' : vx_Zq Bundle.tN "SUPPRESSED_SENTINEL" Bundle.listD A s' s'.heap := by rw [hhp]; exact vx_Zq.moved hW0.alike (hN.kept hS.2.1)
  have h : ∀ w ∈ Bundle.ownAtoms own ic cls names, w.before args s' = true := vx_own hat' (vx_isRefq hU'.1) (vx_isRefq hN'.1) hU'.2.word hN'.2.word
  have hown' : s'.vm.findClass own = some m.cls := by rw [hvm]; exact hown
  have hins : (Cond.instantiable cls 6).before args s' = true := h _ (by simp [Bundle.ownAtoms])
  obtain ⟨vm₁, cX, kX, hfX, hkX, -, -, X₁, st1⟩ := Y.newCold hexec (own := own) (C := cls) (index := ik) (n := 6) hown' hk' hins hini'
    (g := F0 m pc ls rest) rfl (by rw [hb]; exact d0) (Nat.le_refl _) (Nat.le_refl _)
  generalize hT1 : (T.setVm vm₁).pushCell { cls := cX, slots := kX.instanceTypes.map defaultValue, vm := .none } = T1 at X₁ st1
  have hcat : (Value.ref T.heap.size).category = 1 := rfl
  have hcellA : T1.heap[T.heap.size]? = some (freshCell cX kX) := by rw [← hT1]; exact State.heap_pushCell_size _ _
  have d3' : decode c.code (pc + 3) = .ok (.dup, 1) := by rw [hb]; exact d3
  have d4' : decode c.code (pc + 4) = .ok (.ldc is, 2) := by rw [hb]; exact d4
  have hstr' : vk_R own is text sa s' := vk_R.warm hW0 hstr
  obtain ⟨U, hsteps, hrun, hend, hW, hsame, ce, hce, hO⟩ := X₁.ctorThrowS hexec htr (own := own) (cls := cls) (names := names) (ic := ic) hown' hcls hnames h (fun x hx => nomatch hx) hfX hkX hcellA (by rw [hhp, hT]; exact Nat.le_refl _) (msg := .ref sa) rfl
    (g := { method := m, pc := pc + 6, locals := ls, stack := .ref sa :: .ref T.heap.size :: .ref T.heap.size :: rest, locked := none }) rfl hsize rfl rfl (rest := rest) rfl
    (by rw [hb]; exact d6) (by rw [hb]; exact d9) hout hRframes (by simp only [List.map_cons, List.sum_cons, hcat]; omega) hlocks
  obtain ⟨f1, f2⟩ := vx_frame hsame
  rw [hhp] at f1 f2
  have hWs : s.WarmedH U.vm := State.WarmedH.trans hW0 hW
  have hcl : s.vm.findClass cls = some ce.cls := by
    have h9 := hO.cls
    rw [hvm] at h9
    exact h9
  have hall : s.sameButNew ({ U with vm := s.vm } : State) locs mc ms := by
    subst hA
    obtain ⟨e1, e2⟩ := hsame
    rw [State.setFrames_setFrames] at e1
    have h2 : (T.setVm s.vm).sameButNew ({ U with vm := s.vm } : State) [] (0 + 1) (0 + 6) := ⟨e1, e2⟩
    have h3 := X.same.trans h2
    rw [List.append_nil] at h3
    exact h3.mono hc hs
  refine ⟨U, ?_, .threw T.heap.size, hrun, hend, Or.inr ⟨T.heap.size, rfl, cls, ce, locs, hx U hWs.alike f1 (fun q hq => f2 q hq (fun z hz => nomatch hz)), hce, hO.vm, hcl, hWs, hall, hf⟩⟩
  refine st1 _ ?_
  show Steps p.tables e below (T1.setTop { method := m, pc := pc + 3, locals := ls, stack := .ref T.heap.size :: rest, locked := none }) _
  jvm_step X₁.here [X₁.here.top, hexec, d3', Value.category]
  exact X₁.ldcString hexec (own := own) (text := text) (index := is) (a := sa) hown' hstr'.1 hstr'.2
    (g := { method := m, pc := pc + 4, locals := ls, stack := .ref T.heap.size :: .ref T.heap.size :: rest, locked := none }) rfl d4' _ hsteps
def vx_W (p : Program) (l : Launch) (e : Env) (R : Room) (s : State) (m : MethodId) (args : Array Value) (below : List Frame) (meth : Method) (c : Code) (H : Heap) (locs : List Loc) (cells slots : Nat) (Q : State → Prop) (g : JFrame) (q : Addr) : Prop :=
  ∀ T : State, T.heap = H → Stand p l e R s m args below meth c T locs cells slots → ∃ t, Steps p.tables e below ((T.setTop g).pushFrame (.throwing q)) t ∧ Q t
theorem vx_catch {own name : String} {E : String} {ce : Cell} {q : Addr} (hown : s.vm.findClass own = some m.cls) (pre : List ExceptionTableEntry) (x : ExceptionTableEntry) (suf : List ExceptionTableEntry) (hsplit : c.exceptionTable.toList = pre ++ x :: suf)
    (hpass : ∀ z ∈ pre, covers z pc = false ∨ (z.catchType ≠ 0 ∧ ∃ nm : String, (Cond.classLink own z.catchType nm).before args s = true ∧ va_Nc E nm s)) (hx : covers x pc = true) (h0 : x.catchType ≠ 0)
    (hlink : (Cond.classLink own x.catchType name).before args s = true) (hcast : (Cond.castable E name).before args s = true) (hcell : H[q]? = some ce) (hv : ce.vm = .none) (hcl : s.vm.findClass E = some ce.cls)
    (kk : W p l e R s m args below meth c H locs cells slots Q (F0 m x.handlerPc ls [.ref q])) : vx_W p l e R s m args below meth c H locs cells slots Q (F0 m pc ls rest) q := by
  intro T hT X
  have hpl : e.platform.magicAccessors = ({} : Platform).magicAccessors := by rw [X.admits.platform]
  obtain ⟨c3, c4, hc3, hc4, hasg⟩ := Cond.castable_spec hcast
  cases Option.some.inj (hc3.symm.trans hcl)
  obtain ⟨c5, hc5, hcl5⟩ := Cond.classLink_spec hown hlink e.platform hpl
  cases Option.some.inj (hc4.symm.trans hc5)
  obtain ⟨vm', X', st⟩ := X.thenCaughtThrough q (g := F0 m pc ls rest) rfl (Steps.refl _) (by rw [hT]; exact hcell) (by rw [hv]; rfl) (by obtain ⟨k9, h9, -⟩ := Vm.findClass_spec hcl; exact ⟨k9, h9⟩) pre x suf hsplit
    (fun z hz => by
      rcases hpass z hz with h | ⟨hz0, nm, hl1, hn1⟩
      · exact Or.inl h
      · obtain ⟨c6, hc6, hcl6⟩ := Cond.classLink_spec hown hl1 e.platform hpl
        obtain ⟨a8, b8, h1, h2, h3⟩ := hn1
        cases Option.some.inj (h1.symm.trans hcl)
        cases Option.some.inj (h2.symm.trans hc6)
        exact Or.inr ⟨hz0, _, hcl6, h3⟩) hx (Or.inr ⟨h0, c4, hcl5, hasg⟩)
  obtain ⟨t, a1, b1⟩ := kk (T.setVm vm') hT X'
  exact ⟨t, st.trans a1, b1⟩
end VXP
end
section
/-! what throws and catches ask of a state, beside the words: the statics of Throwable, the texts, what is cast to what -/
def ab_exn : List String := ["java/lang/IllegalArgumentException", "java/lang/IllegalStateException", "java/util/NoSuchElementException"]
def ab_str : List (String × Nat × String) := [("FacetSearch", 66, "a sign is above 127"), ("FacetSearch", 81, "the pad would have more than 60 signs"), ("FacetSearch", 91, "there are 32 records"), ("FacetSearch", 106, "the pad is no word"), ("FacetSearch", 116, "the record has twelve other words"), ("FacetSearch", 145, "no span of years within 0 .. 9999"), ("FacetSearch", 189, "a hit tells 0, its record, and 1, its score"), ("FacetSearch", 195, "no such term"), ("FacetSearch", 211, "k is below 0"), ("FacetSearch", 220, "no such word"), ("FacetSearch", 222, "no such sign"), ("FacetSearch", 234, "nothing that is counted"), ("FacetSearch", 236, "no such record"), ("FacetSearch", 238, "no such hit"), ("FacetSearch", 240, "no such facet"), ("FacetSearch", 242, "no such value"), ("FacetSearch", 244, "no such role")]
def ab_nc : List (String × String) := [("java/lang/IllegalArgumentException", "java/lang/IllegalStateException"), ("java/lang/IllegalArgumentException", "java/util/NoSuchElementException"), ("java/lang/IllegalStateException", "java/lang/IllegalArgumentException"), ("java/lang/IllegalStateException", "java/util/NoSuchElementException"), ("java/util/NoSuchElementException", "java/lang/IllegalArgumentException"), ("java/util/NoSuchElementException", "java/lang/IllegalStateException")]
def ab_T (B : Nat) (U : State) : Prop :=
  vx_Zq Bundle.tN "UNASSIGNED_STACK" Bundle.steD (fun q => B ≤ q) U U.heap ∧ vx_Zq Bundle.tN "SUPPRESSED_SENTINEL" Bundle.listD (fun q => B ≤ q) U U.heap ∧ (∀ E ∈ ab_exn, va_Nw (.castable E E) U) ∧ (∀ q ∈ ab_nc, va_Nc q.1 q.2 U) ∧ ∀ r ∈ ab_str, ∃ a, vk_R r.1 r.2.1 r.2.2 a U
theorem ab_T_moved {B : Nat} {s U : State} (h : ab_T B s) (hW : s.WarmedH U.vm) (hh : ∀ q, q < B → U.heap[q]? = s.heap[q]?) : ab_T B U := by
  obtain ⟨h1, h2, h3, h4, h5⟩ := h
  refine ⟨vx_Zq.moved hW.alike (h1.kept fun a _ ha => hh a (Nat.not_le.mp ha)), vx_Zq.moved hW.alike (h2.kept fun a _ ha => hh a (Nat.not_le.mp ha)), fun E hE => va_Nw.warmC hW (h3 E hE), fun q hq => va_Nc.moved hW.alike (h4 q hq), fun r hr => ?_⟩
  obtain ⟨a, ha⟩ := h5 r hr
  exact ⟨a, vk_R.warm hW ha⟩
theorem ab_T_same {B : Nat} {s U : State} (h : ab_T B s) (hv : U.vm = s.vm) (hh : U.heap = s.heap) : ab_T B U := ab_T_moved h (by rw [hv]; exact State.WarmedH.refl s) (fun q _ => by rw [hh])
end
section
/-! CONTRACTS OVER ABSTRACT HEAPS, CALLS, ENDS -/
abbrev ab_O : Type := Option Value ⊕ String
abbrev ab_Y : Type := ab_O × List ab_C
def ab_o (ad : Nat → Nat) (r : ab_O) (o : Outcome) (t : State) : Prop := match r with
  | .inl v => o = .returned (v.map (ab_v ad))
  | .inr E => ∃ (q : Addr) (ce : Cell), o = .threw q ∧ t.heap[q]? = some ce ∧ ce.vm = .none ∧ t.vm.findClass E = some ce.cls
def ab_cw (M : ab_M) : Cond := match M.2.2.2.2.2.2.2 with
  | [] => .code M.2.1 M.2.2.1 M.2.2.2.1 M.2.2.2.2.1
  | q :: hh => .codeWith M.2.1 M.2.2.1 M.2.2.2.1 M.2.2.2.2.1 (q :: hh)
def ab_ex (x : ExceptionTableEntry) : Nat × Nat × Nat × Nat := (x.startPc, x.endPc, x.handlerPc, x.catchType)
theorem ab_cw_spec {M : ab_M} {a : Array Value} {U : State} {mk : MethodId} (h : (ab_cw M).before a U = true) (hn : U.methodNamed? M.2.1 = some mk) :
    ∃ (meth : Method) (c : Code), U.vm.method? mk = some meth ∧ meth.code = some c ∧ c.code = M.2.2.1 ∧ c.maxLocals = M.2.2.2.1 ∧ meth.sig.returnType = M.2.2.2.2.1 ∧ meth.locks = false ∧ c.exceptionTable.toList.map ab_ex = M.2.2.2.2.2.2.2 ∧ parseMethodDescriptor M.2.1.desc = some meth.sig := by
  unfold ab_cw at h
  split at h
  · rename_i he
    obtain ⟨meth, c, h1, h2, h3, h4, h5, h6, h7, h8⟩ := Cond.code_spec hn h
    refine ⟨meth, c, h1, h2, h3, h4, h5, h6, ?_, h8⟩
    rw [he, show c.exceptionTable.toList = [] by simpa using h7]
    rfl
  · rename_i q hh he
    obtain ⟨m9, meth, c, hn9, h1, h2, h3, h4, h7, h5, h6, h8⟩ := Cond.codeWith_spec h
    cases hn.symm.trans hn9
    refine ⟨meth, c, h1, h2, h3, h4, h5, h6, ?_, h8⟩
    rw [he]
    exact h7
def ab_U (D : va_G) (ca : FieldType → ClassId) (B : Nat) (ad : Nat → Nat) (h : List ab_C) (U : State) : Prop :=
  va_K D ab_cl (ab_tys ca) U ∧ va_P D ab_cl (ab_w ad ca h) U.heap ∧ va_D (fun q => B ≤ q) (ab_w ad ca h) ∧ B ≤ U.heap.size ∧ ab_T B U
def ab_D (D : va_G) (ca : FieldType → ClassId) (B : Nat) (ad0 : Nat → Nat) (h : List ab_C) (Qr : ab_Y → Prop) (st : State) (o : Outcome) (t : State) : Prop :=
  (∃ (r : ab_Y) (ad : Nat → Nat), Qr r ∧ ab_o ad r.1 o t ∧ va_P D ab_cl (ab_w ad ca r.2) t.heap ∧ va_D (fun q => B ≤ q) (ab_w ad ca r.2) ∧ (∀ k, k ≤ h.length → ad k = ad0 k) ∧ h.length ≤ r.2.length) ∧ st.heap.size ≤ t.heap.size ∧ ∀ q, q < B → t.heap[q]? = st.heap[q]?
def ab_E (D : va_G) (ca : FieldType → ClassId) (B : Nat) (ad0 : Nat → Nat) (h : List ab_C) (Qr : ab_Y → Prop) (rm : Room) (st : State) (o : Outcome) (t : State) : Prop :=
  ab_D D ca B ad0 h Qr st o t ∧ ∃ L : List Loc, st.WarmedH t.vm ∧ st.sameButNew ({ t with vm := st.vm } : State) L rm.cells rm.slots ∧ ∀ q ∈ L, B ≤ q.base
/-- THE CONTRACT of a method at these arguments and this heap -/
def ab_K (l : Launch) (M : ab_M) (rm : Room) (as : List Value) (h : List ab_C) (Qr : ab_Y → Prop) : Prop :=
  ∀ (D : va_G) (ca : FieldType → ClassId) (B : Nat) (ad0 : Nat → Nat),
    MetFree l M.2.1 (headSpec (ab_cw M :: ab_G) rm) (fun a U => a = (as.map (ab_v ad0)).toArray ∧ ab_U D ca B ad0 h U) (fun _ _ _ _ _ => True) (fun _ st o t => ab_E D ca B ad0 h Qr rm st o t)
def ab_Q (below : List Frame) (D : va_G) (ca : FieldType → ClassId) (B : Nat) (ad0 : Nat → Nat) (h : List ab_C) (Qr : ab_Y → Prop) (rm : Room) (s : State) : State → Prop := fun t =>
  ∃ o, t.status = .running ∧ Ended t below o ∧ ab_E D ca B ad0 h Qr rm s o t
/-- the run is a contract's, from the heap h0, to Qr -/
def ab_con (X : ab_X) (M : ab_M) (h0 : List ab_C) (Qr : ab_Y → Prop) : Prop := match X with
  | (_, l, _, R, s, _, _, below, meth, c, D, ca, B, n0, ad0, sc, Q) => (∀ t, ab_Q below D ca B ad0 h0 Qr R s t → Q t) ∧ n0 = h0.length ∧ ab_T B s ∧ l.stackTraces = false ∧ meth.sig.returnType = M.2.2.2.2.1 ∧ c.exceptionTable.toList.map ab_ex = M.2.2.2.2.2.2.2 ∧ sc = none
theorem ab_args (ad : Nat → Nat) : ∀ (i : Nat) (as : List Value), lv_args i (as.map (ab_v ad)) = ab_l ad (lv_args i as)
  | _, [] => rfl
  | i, v :: vs => by
    show (i, ab_v ad v) :: lv_args (if (ab_v ad v).category = 2 then i + 2 else i + 1) (vs.map (ab_v ad)) = (i, ab_v ad v) :: ab_l ad (lv_args (if v.category = 2 then i + 2 else i + 1) vs)
    rw [ab_v_cat, ab_args ad _ vs]
theorem ab_sl (ad : Nat → Nat) : ∀ as : List Value, (lg_sl (as.map (ab_v ad))).length = (lg_sl as).length
  | [] => rfl
  | v :: vs => by
    have ih := ab_sl ad vs
    unfold lg_sl at ih ⊢
    rw [List.map_cons, List.flatMap_cons, List.flatMap_cons, List.length_append, List.length_append, ih, ab_v_cat]
    by_cases hv : v.category = 2
    · rw [if_pos hv, if_pos hv]; rfl
    · rw [if_neg hv, if_neg hv]; rfl
theorem ab_K_of {l : Launch} {M : ab_M} {rm : Room} {as : List Value} {h : List ab_C} {Qr : ab_Y → Prop} (hl : l.stackTraces = false) (hy : plainName M.2.1.cls = true) (hM1 : M.1 = M.2.1.cls) (hin : M.2.2.2.2.2.1 = true → M.2.1.name = "<init>") (hr : 1 ≤ rm.frames ∧ 21 ≤ rm.locals) (hlen : (lg_sl as).length ≤ M.2.2.2.1)
    (body : ∀ X : ab_X, X.2.1 = l → X.2.2.2.1 = rm → ab_is X M → ab_con X M h Qr → ab_W X M (0, lv_args 0 as, [], h, 0, 0)) : ab_K l M rm as h Qr := by
  intro D ca B ad0
  refine MetFree.of_bodyS (code := M.2.2.1) (maxLocals := M.2.2.2.1) (ret := M.2.2.2.2.1) hy ?_ ?_
  · intro args s m hp hn
    obtain ⟨meth, c, h1, h2, h3, h4, h5, h6, -, -⟩ := ab_cw_spec (atoms_spec (ws := ab_cw M :: ab_G) hp _ List.mem_cons_self) hn
    exact ⟨meth, c, h1, h2, h3, h4, h5, h6⟩
  · intro p e s m args below meth c s₁ B9 hml hP _
    obtain ⟨rfl, hK, hPw, hDw, hBs, hTT⟩ := hP
    have hts : ∀ w ∈ ab_cw M :: ab_G, w.before ((as.map (ab_v ad0)).toArray) s = true := atoms_spec (ws := ab_cw M :: ab_G) B9.pre
    have hown : s.vm.findClass M.1 = some m.cls := by rw [hM1]; exact findClass_of_methodNamed B9.named
    have hh0 : s₁.heap = s.heap := by rw [B9.state]; rfl
    have X9 : Stand p l e rm s m ((as.map (ab_v ad0)).toArray) below meth c s₁ [] 0 0 := Stand.of_body B9
    obtain ⟨meth', c', h1, h2, -, -, -, -, h7, -⟩ := ab_cw_spec (hts _ List.mem_cons_self) B9.named
    cases B9.method.symm.trans h1
    cases X9.code.symm.trans h2
    have hisX : ab_is (p, l, e, rm, s, m, (as.map (ab_v ad0)).toArray, below, meth, c, D, ca, B, h.length, ad0, none, ab_Q below D ca B ad0 h Qr rm s) M :=
      ⟨B9.exec, B9.bytes, hml, hown, fun w hw => hts w (List.mem_cons_of_mem _ hw), B9.notSynchronized, fun hi => ((name_of_methodNamed B9.named B9.method).1).trans (hin hi), hr.1, hr.2⟩
    have hcon : ab_con (p, l, e, rm, s, m, (as.map (ab_v ad0)).toArray, below, meth, c, D, ca, B, h.length, ad0, none, ab_Q below D ca B ad0 h Qr rm s) M h Qr :=
      ⟨fun t ht => ht, rfl, hTT, hl, B9.returns, h7, rfl⟩
    have hw := body _ rfl rfl hisX hcon
    have hls := lv_entry (as.map (ab_v ad0)) (n := M.2.2.2.1) (by rw [ab_sl]; exact hlen)
    rw [ab_args] at hls
    obtain ⟨t, a1, o, b1, b2, b3⟩ := hw ad0 s.heap [] _ ⟨hK, hPw, hDw, va_S.rf, hBs, fun _ _ => rfl, Nat.le_refl _, fun n f z => by cases z⟩ hls s₁ hh0 X9
    refine ⟨t, o, ?_, b1, b2, b3⟩
    rw [lg_entry_eq]
    exact a1
section ABC
variable {p : Program} {l : Launch} {e : Env} {R : Room} {s : State} {m : MethodId} {args : Array Value} {below : List Frame} {meth : Method} {c : Code} {H : Heap} {locs : List Loc} {cells slots : Nat} {Q Q2 : State → Prop}
theorem ab_mono {g : JFrame} (h : ∀ t, Q t → Q2 t) (k : W p l e R s m args below meth c H locs cells slots Q g) : W p l e R s m args below meth c H locs cells slots Q2 g := fun T hT X => by
  obtain ⟨t, a1, b1⟩ := k T hT X
  exact ⟨t, a1, h t b1⟩
theorem ab_call0 {T : State} (X : Stand p l e R s m args below meth c T locs cells slots) {g : JFrame} (hg : g.method = m) (hsize : g.locals.size = c.maxLocals) {ig : Instr} {len : Nat} (hdg : decode c.code g.pc = .ok (ig, len)) {y : MethodName} {mk : MethodId} {a : Array Value} {S : Spec} {P : Array Value → State → Prop} {Q' : Array Value → State → Outcome → State → Prop}
    (hM : MetFree l y S P (fun _ _ _ _ _ => True) Q') (hn : T.methodNamed? y = some mk) {methY : Method} {cY : Code} (hmY : T.vm.method? mk = some methY) (hcY : methY.code = some cY) {kY : Class} (hkY : T.vm.classes[mk.cls]? = some kY) (hiY : kY.init = .initialized) (hpre : S.pre.before a T = true)
    (hfr : S.room.frames + 1 ≤ R.frames) (hlo : 2 * g.monitorRoom + (g.stack.map fun v => v.category).sum + (cY.maxLocals + 11) + S.room.locals ≤ R.locals) (hc : cells + S.room.cells ≤ R.cells) (hs : slots + S.room.slots ≤ R.slots) (hP : P a (T.calling g mk a)) :
    ∃ o t, Steps p.tables e below (doInvoke e (T.setTop g) [] mk a).1 t ∧ Ended t (.java g :: below) o ∧ Q' a (T.calling g mk a) o t := by
  subst hg
  have h : At T g.method c below := X.here
  have happ : S.appliesLoose y e.platform (T.calling g mk a) = true := Spec.appliesLoose_calling (g := g) h hdg hn hkY hiY (X.room_calling (g := g) (R' := S.room) hsize hmY hcY hfr hlo hc hs) hpre
  obtain ⟨mid, hmid⟩ := h.above
  have hfr' : (T.setTop g).frames = (.java g :: mid) ++ below := by rw [State.frames_setTop' g h.top, hmid]; rfl
  obtain ⟨o, s₂, h1, -, h2, h3⟩ := Steps.callFree hM p X.admits X.cas X.clock (acts := []) hfr' happ hP trivial
  rw [State.frames_setTop' g h.top, X.tail] at h2
  exact ⟨o, s₂, h1, h2, h3⟩
/-- in the throwing of q, over the frame g -/
def ab_TW (p : Program) (l : Launch) (e : Env) (R : Room) (s : State) (m : MethodId) (args : Array Value) (below : List Frame) (meth : Method) (c : Code) (H : Heap) (locs : List Loc) (cells slots : Nat) (Q : State → Prop) (g : JFrame) (q : Addr) : Prop :=
  ∀ T : State, T.heap = H → Stand p l e R s m args below meth c T locs cells slots → ∃ t, Steps p.tables e below ((T.setTop g).pushFrame (.throwing q)) t ∧ Q t
theorem ab_ran {M' : ab_M} {rm : Room} {P : Array Value → State → Prop} {G : State → Outcome → State → Prop} {B : Nat} {pc : Nat} {ls : Array Slot} {rest : List Value} {a : Array Value} {g0 : JFrame} {ig : Instr} (hts : ∀ w ∈ ab_G, w.before args s = true) (hcw : ab_cw M' ∈ ab_G) (hini : Cond.initialized M'.2.1.cls ∈ ab_G)
    (hM : MetFree l M'.2.1 (headSpec (ab_cw M' :: ab_G) rm) P (fun _ _ _ _ _ => True) (fun _ st o t => G st o t ∧ ∃ L : List Loc, st.WarmedH t.vm ∧ st.sameButNew ({ t with vm := st.vm } : State) L rm.cells rm.slots ∧ ∀ q ∈ L, B ≤ q.base))
    (hsize : ls.size = c.maxLocals) (hdg : decode c.code pc = .ok (ig, 3)) (hfr : rm.frames + 1 ≤ R.frames) (hlo : (rest.map fun v => v.category).sum + (M'.2.2.2.1 + 11) + rm.locals ≤ R.locals) (hc : cells + rm.cells ≤ R.cells) (hs : slots + rm.slots ≤ R.slots)
    (hbl : FrameBlind P) (hP : ∀ U : State, U.heap = H → s.WarmedH U.vm → P a U)
    (step : ∀ T : State, T.heap = H → Stand p l e R s m args below meth c T locs cells slots → ∃ (vm₁ : Vm) (mk : MethodId), Stand p l e R s m args below meth c (T.setVm vm₁) locs cells slots ∧ s.methodNamed? M'.2.1 = some mk ∧
      ∀ target, (∀ acts, Steps p.tables e below (doInvoke e ((T.setVm vm₁).setTop (F0 m pc ls rest)) acts mk a).1 target) → Steps p.tables e below (T.setTop g0) target)
    (kr : ∀ (v : Option Value) (st t : State) (L : List Loc), st.heap = H → G st (.returned v) t → s.WarmedH t.vm → (∀ q ∈ L, B ≤ q.base) → W p l e R s m args below meth c t.heap (locs ++ L) (cells + rm.cells) (slots + rm.slots) Q (F0 m (pc + 3) ls (v.toList ++ rest)))
    (kt : ∀ (q : Addr) (st t : State) (L : List Loc), st.heap = H → G st (.threw q) t → s.WarmedH t.vm → (∀ q ∈ L, B ≤ q.base) → ab_TW p l e R s m args below meth c t.heap (locs ++ L) (cells + rm.cells) (slots + rm.slots) Q (F0 m pc ls rest) q) :
    W p l e R s m args below meth c H locs cells slots Q g0 := by
  intro T hT X
  obtain ⟨vm₁, mk, X₁, hnamed, hstep⟩ := step T hT X
  have hgood : ∀ w ∈ ab_G, w.before a (T.setVm vm₁) = true := fun w hw => word_at X₁.warmed (good_of_word (List.mem_filter.mp hw).2) (hts w hw)
  obtain ⟨methY, cY, h1, h2, -, h4, -⟩ := ab_cw_spec (hgood _ hcw) (X₁.named hnamed)
  obtain ⟨kP, hkP, -⟩ := className_of_methodNamed (X₁.named hnamed)
  have hinitP : kP.init = .initialized := Cond.initialized_spec (findClass_of_methodNamed (X₁.named hnamed)) hkP (hgood _ hini)
  obtain ⟨o, t, a1, a2, a3, L, a4, a5, a6⟩ := ab_call0 X₁ (g := F0 m pc ls rest) rfl hsize hdg hM (X₁.named hnamed) h1 h2 hkP hinitP
    (atoms_intro fun w hw => by
      rcases List.mem_cons.mp hw with rfl | hw
      · exact hgood _ hcw
      · exact hgood w hw) hfr (by show 2 * 0 + (rest.map fun v => v.category).sum + (cY.maxLocals + 11) + rm.locals ≤ R.locals; rw [h4]; omega) hc hs (hbl _ _ _ _ (hP (T.setVm vm₁) hT X₁.warmed))
  cases o with
  | returned v =>
    obtain ⟨T', X', b1, b2, rfl⟩ := X₁.outOf (g := F0 m pc ls rest) rfl hdg a2 a4 a5
    obtain ⟨t2, c1, c2⟩ := kr v ((T.setVm vm₁).calling (F0 m pc ls rest) mk a) _ L hT a3 X'.warmed a6 T' rfl X'
    exact ⟨t2, (hstep _ fun acts => by rw [doInvoke_state]; exact a1).trans c1, c2⟩
  | threw q =>
    obtain ⟨T', X', b1, b2, rfl⟩ := X₁.outOfThrown (g := F0 m pc ls rest) rfl a2 a4 a5
    have hh : ((T'.setTop (F0 m pc ls rest)).pushFrame (.throwing q)).heap = T'.heap := Stand.throwing_heap T' _ q
    have hv : ((T'.setTop (F0 m pc ls rest)).pushFrame (.throwing q)).vm = T'.vm := Stand.throwing_vm T' _ q
    obtain ⟨t2, c1, c2⟩ := kt q ((T.setVm vm₁).calling (F0 m pc ls rest) mk a) _ L hT a3 (by rw [hv]; exact X'.warmed) a6 T' hh.symm X'
    exact ⟨t2, (hstep _ fun acts => by rw [doInvoke_state]; exact a1).trans c1, c2⟩
end ABC
end
section
/-! RULES: calls, ends, throws, catches, over abstract heaps -/
/-- in the throwing of an E, over this frame -/
def ab_V (X : ab_X) (M : ab_M) (F : ab_F) (E : String) : Prop := match X with
  | (p, l, e, R, s, m, args, below, meth, c, D, ca, B, n0, ad0, sc, Q) => ∀ (ad : Nat → Nat) (H : Heap) (locs : List Loc) (ls : Array Slot) (q : Addr) (ce : Cell), ab_R D ca B n0 ad0 sc s ad F.2.2.2.1 H locs → lv_has ls M.2.2.2.1 (ab_l ad F.2.1) → H[q]? = some ce → ce.vm = .none → s.vm.findClass E = some ce.cls →
      ab_TW p l e R s m args below meth c H locs F.2.2.2.2.1 F.2.2.2.2.2 Q (F0 m F.1 ls (F.2.2.1.map (ab_v ad))) q
abbrev ab_B (X : ab_X) : Nat := X.2.2.2.2.2.2.2.2.2.2.2.2.1
abbrev ab_s (X : ab_X) : State := X.2.2.2.2.1
abbrev ab_rm (X : ab_X) : Room := X.2.2.2.1
theorem ab_blind {D : va_G} {ca : FieldType → ClassId} {B : Nat} {ad : Nat → Nat} {h : List ab_C} {as : List Value} : FrameBlind (fun a U => a = (as.map (ab_v ad)).toArray ∧ ab_U D ca B ad h U) := by
  intro a U g mk hq
  obtain ⟨h0, h1, h2, h3, h4, h5⟩ := hq
  exact ⟨h0, va_K.moved (u := U) (U := U.calling g mk a) (Vm.Alike.refl U.vm) h1, h2, h3, h4, ab_T_same h5 rfl rfl⟩
/-- what a callee leaves, seen from the caller -/
theorem ab_R_back {D : va_G} {ca : FieldType → ClassId} {B n0 : Nat} {ad0 ad ad' : Nat → Nat} {sc : ab_S} {s : State} {h h' : List ab_C} {H H' : Heap} {locs L : List Loc} (hR : ab_R D ca B n0 ad0 sc s ad h H locs)
    (h1 : va_P D ab_cl (ab_w ad' ca h') H') (h2 : va_D (fun q => B ≤ q) (ab_w ad' ca h')) (h3 : ∀ k, k ≤ h.length → ad' k = ad k) (h4 : h.length ≤ h'.length) (h5 : H.size ≤ H'.size) (h6 : ∀ q, q < B → H'[q]? = H[q]?) (h7 : ∀ q ∈ L, B ≤ q.base) : ab_R D ca B n0 ad0 sc s ad' h' H' (locs ++ L) := by
  obtain ⟨r1, r2, r3, r4, r5, r6, r7, r8⟩ := hR
  refine ⟨r1, h1, h2, ⟨Nat.le_trans r4.1 h5, fun q hq hn => ?_, fun z hz => ?_⟩, r5, fun k hk => by rw [h3 k (by omega)]; exact r6 k hk, by omega, fun n f hsc => ?_⟩
  · rw [h6 q (Nat.not_le.mp hn)]
    exact r4.2.1 q hq hn
  · rcases List.mem_append.mp hz with hz | hz
    · exact r4.2.2 z hz
    · exact h7 z hz
  · rw [h3 0 (Nat.zero_le _)]
    exact r8 n f hsc
/-- the call of M' from this place: its link, and how it is called -/
def ab_ci (M M' : ab_M) (ins : Instr) (as : List Value) (h : List ab_C) : Prop := match ins with
  | .invokestatic n => Cond.methodLink M.1 n M'.2.1 ∈ ab_G ∧ Cond.static M'.2.1 ∈ ab_G
  | .invokevirtual n => Cond.methodLink M.1 n M'.2.1 ∈ ab_G ∧ Cond.instanceMethod M'.2.1 ∈ ab_G ∧ Cond.selects M'.2.1.cls M'.2.1 M'.2.1 ∈ ab_G ∧ ∃ (a ci : Nat) (fs as' : List Value) (T : u_T) (N : Nat), as = .ref (a + 1) :: as' ∧ h[a]? = some (.inr (ci, fs)) ∧ ab_cl[ci]? = some (M'.2.1.cls, T, N)
  | .invokespecial n => Cond.methodLink M.1 n M'.2.1 ∈ ab_G ∧ Cond.instanceMethod M'.2.1 ∈ ab_G ∧ M'.2.1.name = "<init>" ∧ M'.2.2.2.2.2.2.2 = [] ∧ M'.2.2.2.2.1 = none ∧ ∃ (a : Nat) (as' : List Value), as = .ref a :: as'
  | _ => False
/-- what is known of a callee: its words, its descriptor -/
def ab_cal (M' : ab_M) (n : Nat) : Prop := ab_cw M' ∈ ab_G ∧ Cond.initialized M'.2.1.cls ∈ ab_G ∧ (M'.2.1.cls ≠ "java/lang/invoke/MethodHandle" ∧ M'.2.1.cls ≠ "java/lang/invoke/VarHandle") ∧ (parseMethodDescriptor M'.2.1.desc).map (fun d => d.parameters.length) = some n
set_option maxHeartbeats 2000000 in
theorem ab_call {X : ab_X} {M M' : ab_M} (hX : ab_is X M) (hM : ab_Mok M) {pc : Nat} {L : ab_L} {st : List Value} {h : List ab_C} {kc ks : Nat} {rm : Room} {as rest : List Value} {Qr : ab_Y → Prop} {i : ab_I} {n : Nat} (hk : ab_K X.2.1 M' rm as h Qr) (hc : ab_cal M' n) (hi : ab_lk M.2.2.2.2.2.2.1 pc = some i) (hci : ab_ci M M' i.1 as h) (hst : st = as.reverse ++ rest)
    (hn : (match i.1 with | .invokestatic _ => as.length | _ => as.length - 1) = n) {n1 : Nat} (hn1 : n1 ≤ h.length) (hwf : (L.all (fun q => ab_wv n1 q.2) && rest.all (ab_wv n1)) = true) (hrm : rm.frames + 1 ≤ (ab_rm X).frames ∧ ab_wt rest + (M'.2.2.2.1 + 11) + rm.locals ≤ (ab_rm X).locals ∧ kc + rm.cells ≤ (ab_rm X).cells ∧ ks + rm.slots ≤ (ab_rm X).slots) (hT : ab_T (ab_B X) (ab_s X))
    (kr : ∀ (v : Option Value) (h' : List ab_C), Qr (.inl v, h') → ab_W X M (pc + 3, L, v.toList ++ rest, h', kc + rm.cells, ks + rm.slots)) (kt : ∀ (E : String) (h' : List ab_C), Qr (.inr E, h') → ab_V X M (pc, L, rest, h', kc + rm.cells, ks + rm.slots) E) : ab_W X M (pc, L, st, h, kc, ks) := by
  obtain ⟨p, l, e, R, s, m, args, below, meth, c, D, ca, B, n0, ad0, sc, Q⟩ := X
  obtain ⟨ins, len, x, y, pos, v9⟩ := i
  obtain ⟨hx, hb, hml, hown, hts, hlk, hini, hfr, hlo⟩ := hX
  have hchk := List.all_eq_true.mp hM _ (ab_lk_mem _ _ _ hi)
  unfold ab_chk at hchk
  have hd := of_decide_eq_true (ab_and hchk).1
  dsimp only [ab_rm, ab_B, ab_s] at hk hci hn hrm hT hd hb hml hown
  unfold ab_W
  dsimp only
  intro ad H locs ls hR hl
  obtain ⟨hK, hP, hD, hS, hBs, had, hn0, hsc⟩ := id hR
  obtain ⟨w1, w2⟩ := ab_and hwf
  obtain ⟨hcw, hcin, hnot, hdesc⟩ := hc
  subst hst
  have hBH : B ≤ H.size := Nat.le_trans hBs hS.1
  have hlow : ∀ q, q < B → H[q]? = s.heap[q]? := fun q hq => hS.2.1 q (Nat.lt_of_lt_of_le hq hBs) (Nat.not_le.mpr hq)
  have hPre : ∀ U : State, U.heap = H → s.WarmedH U.vm → (as.map (ab_v ad)).toArray = (as.map (ab_v ad)).toArray ∧ ab_U D ca B ad h U := fun U hU hW => ⟨rfl, va_K.moved hW.alike hK, by rw [hU]; exact hP, hD, by rw [hU]; exact hBH, ab_T_moved hT hW (fun q hq => by rw [hU]; exact hlow q hq)⟩
  have hrest : (((rest.map (ab_v ad)).map fun v => v.category).sum) + (M'.2.2.2.1 + 11) + rm.locals ≤ R.locals := by
    rw [ab_v_sum]
    exact hrm.2.1
  have hsz : ls.size = c.maxLocals := hl.1.trans hml.symm
  have hlenS : ∀ sig, parseMethodDescriptor M'.2.1.desc = some sig → n = sig.parameters.length := fun sig h9 => by
    rw [h9] at hdesc
    exact (Option.some.inj hdesc).symm
  have hd3 : decode c.code pc = .ok (ins, 3) ∧ ∀ T : State, T.heap = H → Stand p l e R s m args below meth c T locs kc ks → ∃ (vm₁ : Vm) (mk : MethodId), Stand p l e R s m args below meth c (T.setVm vm₁) locs kc ks ∧ s.methodNamed? M'.2.1 = some mk ∧
      ∀ target, (∀ acts, Steps p.tables e below (doInvoke e ((T.setVm vm₁).setTop (F0 m pc ls (rest.map (ab_v ad)))) acts mk (as.map (ab_v ad)).toArray).1 target) → Steps p.tables e below (T.setTop (F0 m pc ls ((as.reverse ++ rest).map (ab_v ad)))) target := by
    have hstk : (as.reverse ++ rest).map (ab_v ad) = (as.map (ab_v ad)).reverse ++ rest.map (ab_v ad) := by rw [List.map_append, List.map_reverse]
    rw [hstk]
    cases ins <;> try (exact absurd hci id)
    case invokestatic k =>
      obtain ⟨c1, c2⟩ := hci
      have hd' : decode c.code pc = .ok (.invokestatic k, 3) := by rw [hb]; exact hd
      refine ⟨hd', fun T hT0 Y => ?_⟩
      obtain ⟨mk, hnamed⟩ : ∃ mk, s.methodNamed? M'.2.1 = some mk := by
        have h9 := hts _ hcw
        unfold ab_cw at h9
        split at h9
        · exact Cond.code_named h9
        · obtain ⟨m9, -, -, hn9, -⟩ := Cond.codeWith_spec h9
          exact ⟨m9, hn9⟩
      obtain ⟨methM, cM, hmethM, -, -, -, -, -, -, hsigM⟩ := ab_cw_spec (hts _ hcw) hnamed
      have hstatic : methM.isStatic = true := Cond.static_spec hnamed hmethM (hts _ c2)
      obtain ⟨kP, hkP, -⟩ := className_of_methodNamed hnamed
      have hinitP : kP.init = .initialized := Cond.initialized_spec (findClass_of_methodNamed hnamed) hkP (hts _ hcin)
      obtain ⟨vm₁, X₁, hstep₁⟩ := Y.invokestatic hx hown (hts _ c1) hnamed hmethM hstatic hkP hinitP hnot (g := F0 m pc ls ((as.map (ab_v ad)).reverse ++ rest.map (ab_v ad))) rfl (argsL := as.map (ab_v ad)) (rest := rest.map (ab_v ad)) (by rw [List.length_map]; exact hn.trans (hlenS _ hsigM)) rfl hd'
      exact ⟨vm₁, mk, X₁, hnamed, hstep₁⟩
    case invokevirtual k =>
      obtain ⟨c1, c2, c3, a, ci, fs, as', T9, N9, e1, e2, e3⟩ := hci
      have hd' : decode c.code pc = .ok (.invokevirtual k, 3) := by rw [hb]; exact hd
      refine ⟨hd', fun T hT0 Y => ?_⟩
      subst e1
      obtain ⟨cellB, hcellB, hobj, hcls⟩ := va_recv (ci := ci) (q0 := a) hK hP e3 (ab_w_at e2)
      obtain ⟨mk, methM, hnamed, hmethM, hstM, habM⟩ := Cond.instanceMethod_spec (hts _ c2)
      obtain ⟨methM', cM, hmethM', -, -, -, -, -, -, hsigM⟩ := ab_cw_spec (hts _ hcw) hnamed
      cases hmethM.symm.trans hmethM'
      obtain ⟨c5, r2, m2, q1, q2, q3, q4, kP, hkP, hkPi⟩ := Cond.selects_spec (hts _ c3)
      cases hcls.symm.trans q1
      cases (State.methodFound?_of_named hnamed hnot).symm.trans q2
      cases hnamed.symm.trans q3
      have hselP : selectMethod e.platform s.vm cellB.cls mk = .method mk := by rw [Launch.admits_selectMethod Y.admits]; exact q4
      obtain ⟨vm₁, X₁, hstep₁⟩ := Y.invokevirtual hx hown (hts _ c1) hnamed hmethM hstM hkP hkPi hnot (a := ad (a + 1)) (cell := cellB) (by rw [hT0]; exact hcellB)
        (fun z h9 => by rw [h9] at hobj; cases hobj) hselP hmethM habM hkP hkPi (g := F0 m pc ls (((Value.ref (a + 1) :: as').map (ab_v ad)).reverse ++ rest.map (ab_v ad))) rfl (argsL := as'.map (ab_v ad)) (rest := rest.map (ab_v ad)) (by rw [List.length_map]; exact hn.trans (hlenS _ hsigM))
        (by show ((Value.ref (a + 1) :: as').map (ab_v ad)).reverse ++ rest.map (ab_v ad) = (as'.map (ab_v ad)).reverse ++ Value.ref (ad (a + 1)) :: rest.map (ab_v ad); rw [List.map_cons, List.reverse_cons, List.append_assoc]; rfl) hd'
      exact ⟨vm₁, mk, X₁, hnamed, hstep₁⟩
    case invokespecial k =>
      obtain ⟨c1, c2, c3, c4, c5, a, as', e1⟩ := hci
      have hd' : decode c.code pc = .ok (.invokespecial k, 3) := by rw [hb]; exact hd
      refine ⟨hd', fun T hT0 Y => ?_⟩
      subst e1
      have hpl : e.platform.magicAccessors = ({} : Platform).magicAccessors := by rw [Y.admits.platform]
      have hcode : (Cond.code M'.2.1 M'.2.2.1 M'.2.2.2.1 none).before args s = true := by
        have h9 := hts _ hcw
        unfold ab_cw at h9
        rw [c4, c5] at h9
        exact h9
      obtain ⟨mk, methM, cM, kP, vm₁, hnamed, hmethM, hcodeM, -, hlocalsM, -, hkP, -, hW₁, hstep₁⟩ := Steps.initColdArgs (e := e) Y.here hx Y.warmed hpl hown c3 hnot (hts _ c1) (hts _ c2) hcode (f := F0 m pc ls (((Value.ref a :: as').map (ab_v ad)).reverse ++ rest.map (ab_v ad))) rfl (argsL := as'.map (ab_v ad)) (rest := rest.map (ab_v ad)) (a := ad a)
        (fun sig h9 => by rw [List.length_map]; exact hn.trans (hlenS _ h9))
        (by show ((Value.ref a :: as').map (ab_v ad)).reverse ++ rest.map (ab_v ad) = (as'.map (ab_v ad)).reverse ++ Value.ref (ad a) :: rest.map (ab_v ad); rw [List.map_cons, List.reverse_cons, List.append_assoc]; rfl) hd'
      exact ⟨vm₁, mk, Y.noted hW₁, hnamed, hstep₁⟩
  refine ab_ran (M' := M') (rm := rm) (B := B) (pc := pc) (ls := ls) (rest := rest.map (ab_v ad)) (a := (as.map (ab_v ad)).toArray) hts hcw hcin (hk D ca B ad) hsz hd3.1 hrm.1 hrest hrm.2.2.1 hrm.2.2.2 ab_blind hPre hd3.2 ?_ ?_
  · intro v st t L9 hst hG hW hL
    obtain ⟨⟨r, ad', g1, g2, g3, g4, g5, g6⟩, g7, g8⟩ := hG
    obtain ⟨o9, h'⟩ := r
    cases o9 with
    | inr E =>
      obtain ⟨q, ce, z, -⟩ := g2
      cases z
    | inl v' =>
      have hv : v = v'.map (ab_v ad') := by injection g2
      have k1 := kr v' h' g1 ad' t.heap (locs ++ L9) ls (ab_R_back hR g3 g4 g5 g6 (by rw [← hst]; exact g7) (fun q hq => by rw [g8 q hq, hst]) hL) (by rw [ab_l_eq w1 (fun k hk => g5 k (Nat.le_trans hk hn1))]; exact hl)
      dsimp only at k1
      rw [List.map_append, ab_s_eq w2 (fun k hk => g5 k (Nat.le_trans hk hn1))] at k1
      rw [hv]
      cases v' with
      | none => exact k1
      | some v1 => exact k1
  · intro q st t L9 hst hG hW hL
    obtain ⟨⟨r, ad', g1, g2, g3, g4, g5, g6⟩, g7, g8⟩ := hG
    obtain ⟨o9, h'⟩ := r
    cases o9 with
    | inl v' => exact absurd g2 (fun z => by injection z)
    | inr E =>
      obtain ⟨q', ce, z, g9, g10, g11⟩ := g2
      cases z
      have k1 := kt E h' g1 ad' t.heap (locs ++ L9) ls q ce (ab_R_back hR g3 g4 g5 g6 (by rw [← hst]; exact g7) (fun q hq => by rw [g8 q hq, hst]) hL) (by rw [ab_l_eq w1 (fun k hk => g5 k (Nat.le_trans hk hn1))]; exact hl) g9 g10 (by rw [← hW.alike.findClass]; exact g11)
      dsimp only at k1
      rw [ab_s_eq w2 (fun k hk => g5 k (Nat.le_trans hk hn1))] at k1
      exact k1
/-- the end of a contract's run -/
theorem ab_end {D : va_G} {ca : FieldType → ClassId} {B n0 : Nat} {ad0 ad : Nat → Nat} {sc : ab_S} {s t : State} {h0 h : List ab_C} {H : Heap} {locs : List Loc} {Qr : ab_Y → Prop} {r : ab_O} {o : Outcome} (hR : ab_R D ca B n0 ad0 sc s ad h H locs) (hn : n0 = h0.length) (hq : Qr (r, h)) (ho : ab_o ad r o t) (ht : t.heap = H) : ab_D D ca B ad0 h0 Qr s o t := by
  obtain ⟨hK, hP, hD, hS, hBs, had, hn0, hsc⟩ := hR
  subst hn
  refine ⟨⟨(r, h), ad, hq, ho, by rw [ht]; exact hP, hD, had, hn0⟩, by rw [ht]; exact hS.1, fun q hq => ?_⟩
  rw [ht]
  exact hS.2.1 q (Nat.lt_of_lt_of_le hq hBs) (Nat.not_le.mpr hq)
theorem ab_iret {X : ab_X} {M : ab_M} {h0 : List ab_C} {Qr : ab_Y → Prop} (hX : ab_is X M) (hM : ab_Mok M) (hC : ab_con X M h0 Qr) {pc : Nat} {L : ab_L} {v : Int32} {h : List ab_C} {kc ks : Nat} {i : ab_I} (hi : ab_lk M.2.2.2.2.2.2.1 pc = some i) (hii : i.1 = .ireturn) (hr : M.2.2.2.2.1 = some .int ∨ (M.2.2.2.2.1 = some .boolean ∧ (v = 0 ∨ v = 1)))
    (hk : kc ≤ (ab_rm X).cells ∧ ks ≤ (ab_rm X).slots) (hq : Qr (.inl (some (.int v)), h)) : ab_W X M (pc, L, [.int v], h, kc, ks) := by
  obtain ⟨p, l, e, R, s, m, args, below, meth, c, D, ca, B, n0, ad0, sc, Q⟩ := X
  obtain ⟨ins, len, x, y, pos, v9⟩ := i
  obtain ⟨hx, hb, hml, hown, hts, hlk, hini, hfr, hlo⟩ := hX
  obtain ⟨c1, c2, c3, c4, c5, c6, c7⟩ := hC
  have hchk := List.all_eq_true.mp hM _ (ab_lk_mem _ _ _ hi)
  unfold ab_chk at hchk
  have hd := of_decide_eq_true (ab_and hchk).1
  dsimp only [ab_rm] at hk hii hd hb c5
  subst hii
  unfold ab_W
  dsimp only
  intro ad H locs ls hR hl
  refine W.widen hk.1 hk.2 (ab_mono (Q := MQ below (fun _ st o t => ab_D D ca B ad0 h0 Qr st o t) args s R.cells R.slots (fun q => B ≤ q)) (fun t ht => c1 t ?_) ?_)
  · obtain ⟨o, t1, t2, t3, L9, t4, t5⟩ := ht
    exact ⟨o, t1, t2, t3, L9, t4.2.1, t4.2.2, t5⟩
  · rcases hr with hr | ⟨hr, hv⟩
    · exact W.iret hx hb (c5.trans hr) (fun t ht hW => ab_end hR c2 hq rfl ht) hR.2.2.2.1.2.2 hd hlk
    · exact W.zret hx hb (c5.trans hr) (by rcases hv with rfl | rfl <;> rfl) (fun t ht hW => ab_end hR c2 hq rfl ht) hR.2.2.2.1.2.2 hd hlk
theorem ab_lret {X : ab_X} {M : ab_M} {h0 : List ab_C} {Qr : ab_Y → Prop} (hX : ab_is X M) (hM : ab_Mok M) (hC : ab_con X M h0 Qr) {pc : Nat} {L : ab_L} {v : Int64} {h : List ab_C} {kc ks : Nat} {i : ab_I} (hi : ab_lk M.2.2.2.2.2.2.1 pc = some i) (hii : i.1 = .lreturn) (hr : M.2.2.2.2.1 = some .long)
    (hk : kc ≤ (ab_rm X).cells ∧ ks ≤ (ab_rm X).slots) (hq : Qr (.inl (some (.long v)), h)) : ab_W X M (pc, L, [.long v], h, kc, ks) := by
  obtain ⟨p, l, e, R, s, m, args, below, meth, c, D, ca, B, n0, ad0, sc, Q⟩ := X
  obtain ⟨ins, len, x, y, pos, v9⟩ := i
  obtain ⟨hx, hb, hml, hown, hts, hlk, hini, hfr, hlo⟩ := hX
  obtain ⟨c1, c2, c3, c4, c5, c6, c7⟩ := hC
  have hchk := List.all_eq_true.mp hM _ (ab_lk_mem _ _ _ hi)
  unfold ab_chk at hchk
  have hd := of_decide_eq_true (ab_and hchk).1
  dsimp only [ab_rm] at hk hii hd hb c5
  subst hii
  unfold ab_W
  dsimp only
  intro ad H locs ls hR hl
  refine W.widen hk.1 hk.2 (ab_mono (Q := MQ below (fun _ st o t => ab_D D ca B ad0 h0 Qr st o t) args s R.cells R.slots (fun q => B ≤ q)) (fun t ht => c1 t ?_) ?_)
  · obtain ⟨o, t1, t2, t3, L9, t4, t5⟩ := ht
    exact ⟨o, t1, t2, t3, L9, t4.2.1, t4.2.2, t5⟩
  · exact W.lret hx hb (c5.trans hr) (fun t ht hW => ab_end hR c2 hq rfl ht) hR.2.2.2.1.2.2 hd hlk
theorem ab_vret {X : ab_X} {M : ab_M} {h0 : List ab_C} {Qr : ab_Y → Prop} (hX : ab_is X M) (hM : ab_Mok M) (hC : ab_con X M h0 Qr) {pc : Nat} {L : ab_L} {h : List ab_C} {kc ks : Nat} {i : ab_I} (hi : ab_lk M.2.2.2.2.2.2.1 pc = some i) (hii : i.1 = .return_) (hr : M.2.2.2.2.1 = none)
    (hk : kc ≤ (ab_rm X).cells ∧ ks ≤ (ab_rm X).slots) (hq : Qr (.inl none, h)) : ab_W X M (pc, L, [], h, kc, ks) := by
  obtain ⟨p, l, e, R, s, m, args, below, meth, c, D, ca, B, n0, ad0, sc, Q⟩ := X
  obtain ⟨ins, len, x, y, pos, v9⟩ := i
  obtain ⟨hx, hb, hml, hown, hts, hlk, hini, hfr, hlo⟩ := hX
  obtain ⟨c1, c2, c3, c4, c5, c6, c7⟩ := hC
  have hchk := List.all_eq_true.mp hM _ (ab_lk_mem _ _ _ hi)
  unfold ab_chk at hchk
  have hd := of_decide_eq_true (ab_and hchk).1
  dsimp only [ab_rm] at hk hii hd hb c5
  subst hii
  unfold ab_W
  dsimp only
  intro ad H locs ls hR hl
  refine W.widen hk.1 hk.2 (ab_mono (Q := MQ below (fun _ st o t => ab_D D ca B ad0 h0 Qr st o t) args s R.cells R.slots (fun q => B ≤ q)) (fun t ht => c1 t ?_) ?_)
  · obtain ⟨o, t1, t2, t3, L9, t4, t5⟩ := ht
    exact ⟨o, t1, t2, t3, L9, t4.2.1, t4.2.2, t5⟩
  · exact W.vret hx hb (c5.trans hr) (fun t ht hW => ab_end hR c2 hq rfl ht) hR.2.2.2.1.2.2 hd hlk
/-- not caught here: it goes out -/
theorem ab_out {X : ab_X} {M : ab_M} {h0 : List ab_C} {Qr : ab_Y → Prop} (hX : ab_is X M) (hC : ab_con X M h0 Qr) {pc : Nat} {L : ab_L} {st : List Value} {h : List ab_C} {kc ks : Nat} {E : String} (hh : M.2.2.2.2.2.2.2 = []) (hk : kc ≤ (ab_rm X).cells ∧ ks ≤ (ab_rm X).slots) (hq : Qr (.inr E, h)) : ab_V X M (pc, L, st, h, kc, ks) E := by
  obtain ⟨p, l, e, R, s, m, args, below, meth, c, D, ca, B, n0, ad0, sc, Q⟩ := X
  obtain ⟨hx, hb, hml, hown, hts, hlk, hini, hfr, hlo⟩ := hX
  obtain ⟨c1, c2, c3, c4, c5, c6, c7⟩ := hC
  unfold ab_V
  dsimp only [ab_rm] at hk ⊢
  intro ad H locs ls q ce hR hl hce hvm hE T hT Y
  have hnone : c.exceptionTable.toList = [] := by
    rw [hh] at c6
    exact List.map_eq_nil_iff.mp c6
  obtain ⟨st1, hrun, hend, hW, hsm⟩ := Y.leaveThrown q (g := F0 m pc ls (st.map (ab_v ad))) rfl rfl rfl (fun z hz => by rw [hnone] at hz; cases hz) hlk
  refine ⟨_, st1, c1 _ ⟨.threw q, hrun, hend, ab_end hR c2 hq ⟨q, ce, rfl, ?_, hvm, ?_⟩ hT, locs, hW, hsm.mono hk.1 hk.2, hR.2.2.2.1.2.2⟩⟩
  · show T.heap[q]? = some ce
    rw [hT]; exact hce
  · rw [hW.alike.findClass]; exact hE
end
section
theorem ab_a0 : ab_all [] := trivial
theorem ab_a1 {P0 : Prop} (h0 : P0) : ab_all [P0] := h0
theorem ab_a2 {P0 : Prop} {P1 : Prop} (h0 : P0) (h1 : P1) : ab_all [P0, P1] := ⟨h0, h1⟩
theorem ab_a3 {P0 : Prop} {P1 : Prop} {P2 : Prop} (h0 : P0) (h1 : P1) (h2 : P2) : ab_all [P0, P1, P2] := ⟨h0, h1, h2⟩
theorem ab_a4 {P0 : Prop} {P1 : Prop} {P2 : Prop} {P3 : Prop} (h0 : P0) (h1 : P1) (h2 : P2) (h3 : P3) : ab_all [P0, P1, P2, P3] := ⟨h0, h1, h2, h3⟩
theorem ab_a5 {P0 : Prop} {P1 : Prop} {P2 : Prop} {P3 : Prop} {P4 : Prop} (h0 : P0) (h1 : P1) (h2 : P2) (h3 : P3) (h4 : P4) : ab_all [P0, P1, P2, P3, P4] := ⟨h0, h1, h2, h3, h4⟩
theorem ab_a6 {P0 : Prop} {P1 : Prop} {P2 : Prop} {P3 : Prop} {P4 : Prop} {P5 : Prop} (h0 : P0) (h1 : P1) (h2 : P2) (h3 : P3) (h4 : P4) (h5 : P5) : ab_all [P0, P1, P2, P3, P4, P5] := ⟨h0, h1, h2, h3, h4, h5⟩
theorem ab_a7 {P0 : Prop} {P1 : Prop} {P2 : Prop} {P3 : Prop} {P4 : Prop} {P5 : Prop} {P6 : Prop} (h0 : P0) (h1 : P1) (h2 : P2) (h3 : P3) (h4 : P4) (h5 : P5) (h6 : P6) : ab_all [P0, P1, P2, P3, P4, P5, P6] := ⟨h0, h1, h2, h3, h4, h5, h6⟩
theorem ab_a8 {P0 : Prop} {P1 : Prop} {P2 : Prop} {P3 : Prop} {P4 : Prop} {P5 : Prop} {P6 : Prop} {P7 : Prop} (h0 : P0) (h1 : P1) (h2 : P2) (h3 : P3) (h4 : P4) (h5 : P5) (h6 : P6) (h7 : P7) : ab_all [P0, P1, P2, P3, P4, P5, P6, P7] := ⟨h0, h1, h2, h3, h4, h5, h6, h7⟩
theorem ab_a9 {P0 : Prop} {P1 : Prop} {P2 : Prop} {P3 : Prop} {P4 : Prop} {P5 : Prop} {P6 : Prop} {P7 : Prop} {P8 : Prop} (h0 : P0) (h1 : P1) (h2 : P2) (h3 : P3) (h4 : P4) (h5 : P5) (h6 : P6) (h7 : P7) (h8 : P8) : ab_all [P0, P1, P2, P3, P4, P5, P6, P7, P8] := ⟨h0, h1, h2, h3, h4, h5, h6, h7, h8⟩
theorem ab_a10 {P0 : Prop} {P1 : Prop} {P2 : Prop} {P3 : Prop} {P4 : Prop} {P5 : Prop} {P6 : Prop} {P7 : Prop} {P8 : Prop} {P9 : Prop} (h0 : P0) (h1 : P1) (h2 : P2) (h3 : P3) (h4 : P4) (h5 : P5) (h6 : P6) (h7 : P7) (h8 : P8) (h9 : P9) : ab_all [P0, P1, P2, P3, P4, P5, P6, P7, P8, P9] := ⟨h0, h1, h2, h3, h4, h5, h6, h7, h8, h9⟩
theorem ab_wk {X : ab_X} {M : ab_M} {pc : Nat} {L L2 : ab_L} {st : List Value} {h : List ab_C} {kc ks : Nat} (is : List Nat) (hL : lv_pick L is = L2) (k : ab_W X M (pc, L2, st, h, kc, ks)) : ab_W X M (pc, L, st, h, kc, ks) := by
  obtain ⟨p, l, e, R, s, m, args, below, meth, c, D, ca, B, n0, ad0, sc, Q⟩ := X
  unfold ab_W at k ⊢
  dsimp only at k ⊢
  intro ad H locs ls hR hl
  refine k ad H locs ls hR ⟨hl.1, hl.2.1, fun q hq => hl.2.2 q ?_⟩
  obtain ⟨q0, h0, rfl⟩ := List.mem_map.mp hq
  rw [← hL] at h0
  obtain ⟨j, -, hj⟩ := List.mem_filterMap.mp h0
  exact List.mem_map.mpr ⟨q0, List.mem_of_getElem? hj, rfl⟩
/-- cells at the end are forgotten -/
theorem ab_drop {X : ab_X} {M : ab_M} {pc : Nat} {L : ab_L} {st : List Value} {h h2 : List ab_C} {kc ks : Nat} (hn : X.2.2.2.2.2.2.2.2.2.2.2.2.2.1 ≤ h.length) (k : ab_W X M (pc, L, st, h, kc, ks)) : ab_W X M (pc, L, st, h ++ h2, kc, ks) := by
  obtain ⟨p, l, e, R, s, m, args, below, meth, c, D, ca, B, n0, ad0, sc, Q⟩ := X
  unfold ab_W at k ⊢
  dsimp only at k hn ⊢
  intro ad H locs ls hR hl
  obtain ⟨hK, hP, hD, hS, hBs, had, hn0, hsc⟩ := hR
  have hw : ∀ (j : Nat) (q : Nat × va_E), (ab_w ad ca h)[j]? = some q → (ab_w ad ca (h ++ h2))[j]? = some q := by
    intro j q hj
    unfold ab_w at hj ⊢
    rw [List.getElem?_mapIdx] at hj ⊢
    cases hx : h[j]? with
    | none => rw [hx] at hj; cases hj
    | some x =>
      rw [hx] at hj
      rw [List.getElem?_append_left (List.getElem?_eq_some_iff.mp hx).1, hx]
      exact hj
  exact k ad H locs ls ⟨hK, fun j q hj => hP j q (hw j q hj), ⟨fun i j a b hi hj => hD.1 i j a b (hw i a hi) (hw j b hj), fun j q hj => hD.2 j q (hw j q hj)⟩, hS, hBs, had, hn, hsc⟩ hl
end
section
/-! 'throw new E("text")' in a method without handlers; a catch -/
def ab_up : List String := ["java/lang/RuntimeException", "java/lang/Exception"]
def ab_thr (own : String) (ic : Nat) (cls : String) : Prop := cls ∈ ab_exn ∧ Bundle.fit cls = true ∧ (∀ w ∈ vx_atS own ic cls ab_up, w ∈ ab_G ∨ w = .castable cls cls) ∧ ∀ w ∈ vx_atS own ic cls ab_up, vx_ot w = true
theorem ab_dec {M : ab_M} (hM : ab_Mok M) {pc : Nat} {i : ab_I} (hi : ab_lk M.2.2.2.2.2.2.1 pc = some i) : decode M.2.2.1 pc = .ok (i.1, ab_len i.2.1 i.1) := by
  have h := List.all_eq_true.mp hM _ (ab_lk_mem _ _ _ hi)
  obtain ⟨ins, len, x, y, pos, v⟩ := i
  unfold ab_chk at h
  exact of_decide_eq_true (ab_and h).1
set_option maxHeartbeats 2000000 in
theorem ab_throw {X : ab_X} {M : ab_M} {h0 : List ab_C} {Qr : ab_Y → Prop} (hX : ab_is X M) (hM : ab_Mok M) (hC : ab_con X M h0 Qr) {pc : Nat} {L : ab_L} {st : List Value} {h : List ab_C} {kc ks : Nat} {cls text : String} {ik is ic : Nat} {i0 i3 i4 i6 i9 : ab_I}
    (e0 : ab_lk M.2.2.2.2.2.2.1 pc = some i0) (e3 : ab_lk M.2.2.2.2.2.2.1 (pc + 3) = some i3) (e4 : ab_lk M.2.2.2.2.2.2.1 (pc + 4) = some i4) (e6 : ab_lk M.2.2.2.2.2.2.1 (pc + 6) = some i6) (e9 : ab_lk M.2.2.2.2.2.2.1 (pc + 9) = some i9)
    (f0 : i0.1 = .new ik) (f3 : i3.1 = .dup) (f4 : i4.1 = .ldc is) (f6 : i6.1 = .invokespecial ic) (f9 : i9.1 = .athrow) (hth : ab_thr M.1 ic cls) (hck : Cond.classLink M.1 ik cls ∈ ab_G) (hcin : Cond.initialized cls ∈ ab_G) (hstr : (M.1, is, text) ∈ ab_str) (hh : M.2.2.2.2.2.2.2 = [])
    (hr : 5 < (ab_rm X).frames ∧ ab_wt st + 82 ≤ (ab_rm X).locals ∧ kc + 1 ≤ (ab_rm X).cells ∧ ks + 6 ≤ (ab_rm X).slots) (hq : Qr (.inr cls, h)) : ab_W X M (pc, L, st, h, kc, ks) := by
  have d0 := ab_dec hM e0
  have d3 := ab_dec hM e3
  have d4 := ab_dec hM e4
  have d6 := ab_dec hM e6
  have d9 := ab_dec hM e9
  rw [f0] at d0
  rw [f3] at d3
  rw [f4] at d4
  rw [f6] at d6
  rw [f9] at d9
  obtain ⟨p, l, e, R, s, m, args, below, meth, c, D, ca, B, n0, ad0, sc, Q⟩ := X
  obtain ⟨hx, hb, hml, hown, hts, hlk, hini, hfr, hlo⟩ := hX
  obtain ⟨c1, c2, c3, c4, c5, c6, c7⟩ := hC
  obtain ⟨t1, t2, t3, t4⟩ := hth
  unfold ab_W
  dsimp only [ab_rm] at hr ⊢
  intro ad H locs ls hR hl
  obtain ⟨hK, hP, hD, hS, hBs, had, hn0, hsc⟩ := hR
  have hnone : c.exceptionTable.toList = [] := by
    rw [hh] at c6
    exact List.map_eq_nil_iff.mp c6
  obtain ⟨sa, hsa⟩ := c3.2.2.2.2 _ hstr
  have hcast : (Cond.castable cls cls).before args s = true := va_tabs rfl rfl (c3.2.2.1 cls t1)
  have hat : ∀ w ∈ vx_atS M.1 ic cls ab_up, w.before args s = true := fun w hw => by
    rcases t3 w hw with h9 | h9
    · exact hts w h9
    · rw [h9]; exact hcast
  have hgood : ∀ w ∈ Cond.classLink M.1 ik cls :: Cond.initialized cls :: vx_atS M.1 ic cls ab_up, vx_ot w = true := fun w hw => by
    rcases List.mem_cons.mp hw with rfl | hw
    · rfl
    · rcases List.mem_cons.mp hw with rfl | hw
      · rfl
      · exact t4 w hw
  subst c2
  refine ab_mono (Q := vx_MQ below (fun _ _ _ _ => False) (fun E _ t => E = cls ∧ H.size ≤ t.heap.size ∧ ∀ q : Nat, q < H.size → t.heap[q]? = H[q]?) args s R.cells R.slots (fun q => B ≤ q)) (fun t ht => c1 t ?_)
    (vx_throwS (names := ab_up) (A := fun q => B ≤ q) hx hb c4 hown t2 (by decide +kernel) (hts _ hck) (hts _ hcin) hsa hat hgood c3.1 c3.2.1 hS (hl.1.trans hml.symm) d0 d3 d4 d6 d9 (fun z hz => by rw [hnone] at hz; cases hz) hr.1 (by rw [ab_v_sum]; exact hr.2.1) hr.2.2.1 hr.2.2.2 hlk
      (fun t h1 h2 h3 => ⟨rfl, h2, h3⟩) hS.2.2 hr.2.2.1 hr.2.2.2)
  obtain ⟨o, hrun, hend, hor⟩ := ht
  rcases hor with ⟨hF, -⟩ | ⟨q, rfl, E, ce, L9, ⟨rfl, g1, g2⟩, g3, g4, g5, g6, g7, g8⟩
  · exact hF.elim
  · refine ⟨.threw q, hrun, hend, ⟨⟨(.inr E, h), ad, hq, ⟨q, ce, rfl, g3, g4, by rw [g6.alike.findClass]; exact g5⟩, hP.kept (fun k z hk => g2 z.1 (hP k z hk).lt), hD, had, hn0⟩, Nat.le_trans hS.1 g1, fun z hz => ?_⟩, L9, g6, g7, g8⟩
    rw [g2 z (Nat.lt_of_lt_of_le (Nat.lt_of_lt_of_le hz hBs) hS.1)]
    exact hS.2.1 z (Nat.lt_of_lt_of_le hz hBs) (Nat.not_le.mpr hz)
/-- the first row of the table that covers the place and takes an E: rows ahead of it name classes that E is none of -/
theorem ab_catch {X : ab_X} {M : ab_M} (hX : ab_is X M) {pc : Nat} {L : ab_L} {st : List Value} {h : List ab_C} {kc ks : Nat} {E : String} (hT : ab_T (ab_B X) (ab_s X)) (hE : E ∈ ab_exn) (pre suf : List (Nat × Nat × Nat × Nat)) (a b t ct : Nat) (hex : match X with | (_, _, _, _, _, _, _, _, _, c, _) => c.exceptionTable.toList.map ab_ex = M.2.2.2.2.2.2.2) (hh : M.2.2.2.2.2.2.2 = pre ++ (a, b, t, ct) :: suf) (hin : a ≤ pc ∧ pc < b)
    (hpre : ∀ z ∈ pre, z.2.2.2 ≠ 0 ∧ ∃ nm : String, Cond.classLink M.1 z.2.2.2 nm ∈ ab_G ∧ (E, nm) ∈ ab_nc) (hct : ct ≠ 0) (hlink : Cond.classLink M.1 ct E ∈ ab_G) (k : ab_W X M (t, L, [.ref (h.length + 1)], h, kc, ks)) (hwf : L.all (fun q => ab_wv h.length q.2) = true) (hwh : h.all (ab_wc h.length) = true) : ab_V X M (pc, L, st, h, kc, ks) E := by
  obtain ⟨p, l, e, R, s, m, args, below, meth, c, D, ca, B, n0, ad0, sc, Q⟩ := X
  obtain ⟨hx, hb, hml, hown, hts, hlk, hini, hfr, hlo⟩ := hX
  unfold ab_V ab_W at *
  dsimp only [ab_B, ab_s] at k hex hT ⊢
  intro ad H locs ls q ce hR hl hce hvm hcE
  rw [hh] at hex
  obtain ⟨p1, p2, e1, e2, e3⟩ := List.map_eq_append_iff.mp hex
  obtain ⟨x, p3, e4, e5, e6⟩ := List.map_eq_cons_iff.mp e3
  have hlow : ∀ k, k ≤ h.length → va_up ad (h.length + 1) q k = ad k := fun k hk => if_neg (by omega)
  obtain ⟨r1, r2, r3, r4, r5, r6, r7, r8⟩ := id hR
  have hR2 : ab_R D ca B n0 ad0 sc s (va_up ad (h.length + 1) q) h H locs := by
    refine ⟨r1, by rw [ab_w_eq hwh hlow]; exact r2, by rw [ab_w_eq hwh hlow]; exact r3, r4, r5, fun k hk => by rw [hlow k (by omega)]; exact r6 k hk, r7, fun n f hsc => ?_⟩
    rw [hlow 0 (Nat.zero_le _)]
    exact r8 n f hsc
  have k1 := k (va_up ad (h.length + 1) q) H locs ls hR2 (by rw [ab_l_eq hwf hlow]; exact hl)
  rw [List.map_cons, List.map_nil, show ab_v (va_up ad (h.length + 1) q) (.ref (h.length + 1)) = .ref q from congrArg Value.ref (if_pos rfl)] at k1
  have hx4 : x.startPc = a ∧ x.endPc = b ∧ x.handlerPc = t ∧ x.catchType = ct := by
    unfold ab_ex at e5
    injection e5 with j1 j2
    injection j2 with j2 j3
    injection j3 with j3 j4
    exact ⟨j1, j2, j3, j4⟩
  refine vx_catch (own := M.1) (name := E) (E := E) (ce := ce) hown p1 x p3 (by rw [e1, e4]) (fun z hz => Or.inr ?_) ?_ (by rw [hx4.2.2.2]; exact hct) (by rw [hx4.2.2.2]; exact hts _ hlink) (va_tabs rfl rfl (hT.2.2.1 E hE)) hce hvm hcE (by rw [hx4.2.2.1]; exact k1)
  · have hz2 : ab_ex z ∈ pre := by rw [← e2]; exact List.mem_map.mpr ⟨z, hz, rfl⟩
    obtain ⟨g1, nm, g2, g3⟩ := hpre _ hz2
    exact ⟨g1, nm, hts _ g2, hT.2.2.2.1 (E, nm) g3⟩
  · show covers x pc = true
    simp [covers, hx4.1, hx4.2.1, hin.1, hin.2]
end
section
/-! the heaps: the class's cells (0 .. 29), the reference's (30 .. 51), the law's (52) -/
abbrev gt_pd : Type := (Nat → Int32) × Int32
abbrev gt_sh : Type := (Nat → Int64) × (Nat → Int32) × (Nat → Int32) × (Nat → Int32) × (Nat → Int32) × (Nat → Int32) × Int32 × Int32 × Int32
abbrev gt_tr : Type := (Nat → Int32)
abbrev gt_ru : Type := (Nat → Int32) × (Nat → Int32) × (Nat → Int32)
abbrev gt_qu : Type := (Nat → Int32) × (Nat → Int64) × (Nat → Int32) × (Nat → Int32) × Int32 × Int32
abbrev gt_to : Type := (Nat → Int32) × (Nat → Int32) × Int32 × (Nat → Int32) × (Nat → Int32) × Int32
abbrev gt_al : Type := (Nat → Int32) × (Nat → Int32) × Int32
abbrev gt_mt : Type := Int32
abbrev gt_mp : Type := (Nat → Int32) × Int32
abbrev gt_mr : Type := Int32 × (Nat → Int32) × (Nat → Int32) × (Nat → Int32) × (Nat → Int32) × (Nat → Int32) × (Nat → Int32) × (Nat → Int32) × (Nat → Int32)
abbrev gt_mq : Type := Int32 × (Nat → Int32) × (Nat → Int32) × (Nat → Int32) × (Nat → Int32) × Int32
abbrev gt_mo : Type := Int32 × Int32 × (Nat → Int32) × (Nat → Int32) × (Nat → Int32) × (Nat → Int32) × (Nat → Int32) × (Nat → Int32)
abbrev gt_mx : Type := (Nat → Int32) × (Nat → Int32)
abbrev gt_ou : Type := (Nat → Int64)
def hf (pd : gt_pd) (sh : gt_sh) (tr : gt_tr) (ru : gt_ru) (qu : gt_qu) (to : gt_to) (al : gt_al) (z : List ab_C) : List ab_C := .inr (0, [.ref 2, .ref 4, .ref 11, .ref 13, .ref 17, .ref 22, .ref 28]) :: .inr (1, [.ref 3, .int pd.2]) :: .inl (.int, 60, .inl pd.1) :: .inr (5, [.ref 5, .ref 6, .ref 7, .ref 8, .ref 9, .ref 10, .int sh.2.2.2.2.2.2.1, .int sh.2.2.2.2.2.2.2.1, .int sh.2.2.2.2.2.2.2.2]) :: .inl (.long, 384, .inr (.inl sh.1)) :: .inl (.int, 32, .inl sh.2.1) :: .inl (.int, 128, .inl sh.2.2.1) :: .inl (.int, 32, .inl sh.2.2.2.1) :: .inl (.int, 32, .inl sh.2.2.2.2.1) :: .inl (.int, 32, .inl sh.2.2.2.2.2.1) :: .inr (7, [.ref 12]) :: .inl (.int, 64, .inl tr) :: .inr (4, [.ref 14, .ref 15, .ref 16]) :: .inl (.int, 10, .inl ru.1) :: .inl (.int, 10, .inl ru.2.1) :: .inl (.int, 11, .inl ru.2.2) :: .inr (2, [.ref 18, .ref 19, .ref 20, .ref 21, .int qu.2.2.2.2.1, .ref 2, .int qu.2.2.2.2.2]) :: .inl (.int, 8, .inl qu.1) :: .inl (.long, 8, .inr (.inl qu.2.1)) :: .inl (.int, 8, .inl qu.2.2.1) :: .inl (.int, 8, .inl qu.2.2.2.1) :: .inr (6, [.ref 23, .ref 26, .ref 27, .int to.2.2.2.2.2]) :: .inr (3, [.ref 24, .ref 25, .int to.2.2.1]) :: .inl (.int, 32, .inl to.1) :: .inl (.int, 32, .inl to.2.1) :: .inl (.int, 256, .inl to.2.2.2.1) :: .inl (.int, 64, .inl to.2.2.2.2.1) :: .inr (3, [.ref 29, .ref 30, .int al.2.2]) :: .inl (.int, 32, .inl al.1) :: .inl (.int, 32, .inl al.2.1) :: z
def hm (mt : gt_mt) (mp : gt_mp) (mr : gt_mr) (mq : gt_mq) (mo : gt_mo) (mx : gt_mx) (z : List ab_C) : List ab_C := .inr (8, [.int mt, .int mp.2, .ref 32, .int mr.1, .ref 33, .ref 34, .ref 35, .ref 36, .ref 37, .ref 38, .ref 39, .ref 40, .int mq.1, .ref 41, .ref 42, .ref 43, .ref 44, .int mq.2.2.2.2.2, .int mo.1, .int mo.2.1, .ref 45, .ref 46, .ref 47, .ref 48, .ref 49, .ref 50, .ref 51, .ref 52]) :: .inl (.int, 60, .inl mp.1) :: .inl (.int, 32, .inl mr.2.1) :: .inl (.int, 384, .inl mr.2.2.1) :: .inl (.int, 3840, .inl mr.2.2.2.1) :: .inl (.int, 128, .inl mr.2.2.2.2.1) :: .inl (.int, 64, .inl mr.2.2.2.2.2.1) :: .inl (.int, 32, .inl mr.2.2.2.2.2.2.1) :: .inl (.int, 32, .inl mr.2.2.2.2.2.2.2.1) :: .inl (.boolean, 256, .inl mr.2.2.2.2.2.2.2.2) :: .inl (.int, 9, .inl mq.2.1) :: .inl (.int, 9, .inl mq.2.2.1) :: .inl (.int, 9, .inl mq.2.2.2.1) :: .inl (.int, 90, .inl mq.2.2.2.2.1) :: .inl (.int, 32, .inl mo.2.2.1) :: .inl (.int, 32, .inl mo.2.2.2.1) :: .inl (.int, 256, .inl mo.2.2.2.2.1) :: .inl (.int, 256, .inl mo.2.2.2.2.2.1) :: .inl (.int, 32, .inl mo.2.2.2.2.2.2.1) :: .inl (.int, 64, .inl mo.2.2.2.2.2.2.2) :: .inl (.int, 121, .inl mx.1) :: .inl (.int, 12, .inl mx.2) :: z
def ho (ou : gt_ou) : List ab_C := .inl (.long, 1, .inr (.inl ou)) :: []
theorem hf_len {pd : gt_pd} {sh : gt_sh} {tr : gt_tr} {ru : gt_ru} {qu : gt_qu} {to : gt_to} {al : gt_al} {z : List ab_C} : (hf pd sh tr ru qu to al z).length = z.length + 30 := rfl
theorem hm_len {mt : gt_mt} {mp : gt_mp} {mr : gt_mr} {mq : gt_mq} {mo : gt_mo} {mx : gt_mx} {z : List ab_C} : (hm mt mp mr mq mo mx z).length = z.length + 22 := rfl
end
section
/-! tables of methods, by program (gen/mk.py): FacetSearch$Words -/
def cd_Wo_withLetter : List (Nat × ab_I) := [(0, .lload_n 0, 0, 0, 0, 0, 0), (1, .iload_n 3, 0, 3, 0, 0, 0), (2, .bipush 96, 0, 0, 0, 0, 96), (4, .isub, 0, 0, 0, 0, 0), (5, .i2l, 0, 0, 0, 0, 0), (6, .iconst 5, 0, 0, 0, 0, 5), (7, .bipush 9, 0, 0, 0, 0, 9), (9, .iload_n 2, 0, 2, 0, 0, 0), (10, .isub, 0, 0, 0, 0, 0), (11, .imul, 0, 0, 0, 0, 0), (12, .lshl, 0, 0, 0, 0, 0), (13, .lor, 0, 0, 0, 0, 0), (14, .lreturn, 0, 0, 0, 0, 0)]
def M_Wo_withLetter : ab_M := ("FacetSearch$Words", ⟨"FacetSearch$Words", "withLetter", "(JII)J"⟩, prog_9_method_4_code, 4, some .long, false, cd_Wo_withLetter, [])
theorem ok_Wo_withLetter : ab_Mok M_Wo_withLetter := by unfold ab_Mok; decide +kernel
theorem ca_Wo_withLetter : ab_cal M_Wo_withLetter 3 := ⟨ab_Gp 407 (by decide +kernel) rfl, ab_Gp 53 (by decide +kernel) rfl, ⟨by decide +kernel, by decide +kernel⟩, by decide +kernel⟩
def cd_Wo_lengthOf : List (Nat × ab_I) := [(0, .iconst 0, 0, 0, 0, 0, 0), (1, .istore_n 2, 0, 2, 0, 0, 0), (2, .iload_n 2, 0, 2, 0, 0, 0), (3, .bipush 10, 0, 0, 0, 0, 10), (5, .if_icmp .ge 17, 0, 22, 0, 0, 0), (8, .lload_n 0, 0, 0, 0, 0, 0), (9, .iload_n 2, 0, 2, 0, 0, 0), (10, .invokestatic 9, 0, 0, 0, 411, 0), (13, .ifCond .eq 9, 0, 22, 0, 0, 0), (16, .iinc 2 1, 0, 2, 0, 0, 1), (19, .goto (-17), 0, 2, 0, 0, 0), (22, .iload_n 2, 0, 2, 0, 0, 0), (23, .ireturn, 0, 0, 0, 0, 0)]
def M_Wo_lengthOf : ab_M := ("FacetSearch$Words", ⟨"FacetSearch$Words", "lengthOf", "(J)I"⟩, prog_9_method_2_code, 3, some .int, false, cd_Wo_lengthOf, [])
theorem ok_Wo_lengthOf : ab_Mok M_Wo_lengthOf := by unfold ab_Mok; decide +kernel
theorem ca_Wo_lengthOf : ab_cal M_Wo_lengthOf 1 := ⟨ab_Gp 410 (by decide +kernel) rfl, ab_Gp 53 (by decide +kernel) rfl, ⟨by decide +kernel, by decide +kernel⟩, by decide +kernel⟩
def cd_Wo_codeAt : List (Nat × ab_I) := [(0, .lload_n 0, 0, 0, 0, 0, 0), (1, .iconst 5, 0, 0, 0, 0, 5), (2, .bipush 9, 0, 0, 0, 0, 9), (4, .iload_n 2, 0, 2, 0, 0, 0), (5, .isub, 0, 0, 0, 0, 0), (6, .imul, 0, 0, 0, 0, 0), (7, .lshr, 0, 0, 0, 0, 0), (8, .l2i, 0, 0, 0, 0, 0), (9, .bipush 31, 0, 0, 0, 0, 31), (11, .iand, 0, 0, 0, 0, 0), (12, .ireturn, 0, 0, 0, 0, 0)]
def M_Wo_codeAt : ab_M := ("FacetSearch$Words", ⟨"FacetSearch$Words", "codeAt", "(JI)I"⟩, prog_9_method_5_code, 3, some .int, false, cd_Wo_codeAt, [])
theorem ok_Wo_codeAt : ab_Mok M_Wo_codeAt := by unfold ab_Mok; decide +kernel
theorem ca_Wo_codeAt : ab_cal M_Wo_codeAt 2 := ⟨ab_Gp 413 (by decide +kernel) rfl, ab_Gp 53 (by decide +kernel) rfl, ⟨by decide +kernel, by decide +kernel⟩, by decide +kernel⟩
def cd_Wo_letterOf : List (Nat × ab_I) := [(0, .lload_n 0, 0, 0, 0, 0, 0), (1, .iload_n 2, 0, 2, 0, 0, 0), (2, .invokestatic 9, 0, 0, 0, 411, 0), (5, .bipush 96, 0, 0, 0, 0, 96), (7, .iadd, 0, 0, 0, 0, 0), (8, .ireturn, 0, 0, 0, 0, 0)]
def M_Wo_letterOf : ab_M := ("FacetSearch$Words", ⟨"FacetSearch$Words", "letterOf", "(JI)I"⟩, prog_9_method_3_code, 3, some .int, false, cd_Wo_letterOf, [])
theorem ok_Wo_letterOf : ab_Mok M_Wo_letterOf := by unfold ab_Mok; decide +kernel
theorem ca_Wo_letterOf : ab_cal M_Wo_letterOf 2 := ⟨ab_Gp 654 (by decide +kernel) rfl, ab_Gp 53 (by decide +kernel) rfl, ⟨by decide +kernel, by decide +kernel⟩, by decide +kernel⟩
end
section
/-! tables of methods, by program (gen/mk.py): FacetSearch$Pad -/
def cd_Pa_init : List (Nat × ab_I) := [(0, .aload_n 0, 0, 0, 0, 0, 0), (1, .invokespecial 3, 0, 9, 0, 68, 0), (4, .aload_n 0, 0, 0, 0, 0, 0), (5, .bipush 60, 0, 0, 0, 0, 60), (7, .newarray .int, 0, 0, 0, 78, 0), (9, .putfield 9, 0, 1, 0, 69, 0), (12, .aload_n 0, 0, 0, 0, 0, 0), (13, .iconst 0, 0, 0, 0, 0, 0), (14, .putfield 15, 0, 1, 1, 70, 0), (17, .return_, 0, 0, 0, 0, 0)]
def M_Pa_init : ab_M := ("FacetSearch$Pad", ⟨"FacetSearch$Pad", "<init>", "()V"⟩, prog_2_method_1_code, 1, none, true, cd_Pa_init, [])
theorem ok_Pa_init : ab_Mok M_Pa_init := by unfold ab_Mok; decide +kernel
theorem ca_Pa_init : ab_cal M_Pa_init 0 := ⟨ab_Gp 67 (by decide +kernel) rfl, ab_Gp 38 (by decide +kernel) rfl, ⟨by decide +kernel, by decide +kernel⟩, by decide +kernel⟩
def cd_Pa_hasHighSign : List (Nat × ab_I) := [(0, .iload_n 0, 0, 0, 0, 0, 0), (1, .ldc 19, 0, 0, 0, 269, (-2139062144)), (3, .iand, 0, 0, 0, 0, 0), (4, .ifCond .eq 7, 0, 11, 0, 0, 0), (7, .iconst 1, 0, 0, 0, 0, 1), (8, .goto 4, 0, 12, 0, 0, 0), (11, .iconst 0, 0, 0, 0, 0, 0), (12, .ireturn, 0, 0, 0, 0, 0)]
def M_Pa_hasHighSign : ab_M := ("FacetSearch$Pad", ⟨"FacetSearch$Pad", "hasHighSign", "(I)Z"⟩, prog_2_method_2_code, 1, some .boolean, false, cd_Pa_hasHighSign, [])
theorem ok_Pa_hasHighSign : ab_Mok M_Pa_hasHighSign := by unfold ab_Mok; decide +kernel
theorem ca_Pa_hasHighSign : ab_cal M_Pa_hasHighSign 1 := ⟨ab_Gp 268 (by decide +kernel) rfl, ab_Gp 38 (by decide +kernel) rfl, ⟨by decide +kernel, by decide +kernel⟩, by decide +kernel⟩
def cd_Pa_signsIn : List (Nat × ab_I) := [(0, .iconst 0, 0, 0, 0, 0, 0), (1, .istore_n 1, 0, 1, 0, 0, 0), (2, .iconst 0, 0, 0, 0, 0, 0), (3, .istore_n 2, 0, 2, 0, 0, 0), (4, .iload_n 2, 0, 2, 0, 0, 0), (5, .bipush 32, 0, 0, 0, 0, 32), (7, .if_icmp .ge 22, 0, 29, 0, 0, 0), (10, .iload_n 0, 0, 0, 0, 0, 0), (11, .iload_n 2, 0, 2, 0, 0, 0), (12, .ishr, 0, 0, 0, 0, 0), (13, .sipush 255, 0, 0, 0, 0, 255), (16, .iand, 0, 0, 0, 0, 0), (17, .ifCond .eq 6, 0, 23, 0, 0, 0), (20, .iinc 1 1, 0, 1, 0, 0, 1), (23, .iinc 2 8, 0, 2, 0, 0, 8), (26, .goto (-22), 0, 4, 0, 0, 0), (29, .iload_n 1, 0, 1, 0, 0, 0), (30, .ireturn, 0, 0, 0, 0, 0)]
def M_Pa_signsIn : ab_M := ("FacetSearch$Pad", ⟨"FacetSearch$Pad", "signsIn", "(I)I"⟩, prog_2_method_3_code, 3, some .int, false, cd_Pa_signsIn, [])
theorem ok_Pa_signsIn : ab_Mok M_Pa_signsIn := by unfold ab_Mok; decide +kernel
theorem ca_Pa_signsIn : ab_cal M_Pa_signsIn 1 := ⟨ab_Gp 340 (by decide +kernel) rfl, ab_Gp 38 (by decide +kernel) rfl, ⟨by decide +kernel, by decide +kernel⟩, by decide +kernel⟩
def cd_Pa_append : List (Nat × ab_I) := [(0, .iconst 0, 0, 0, 0, 0, 0), (1, .istore_n 2, 0, 2, 0, 0, 0), (2, .iload_n 2, 0, 2, 0, 0, 0), (3, .bipush 32, 0, 0, 0, 0, 32), (5, .if_icmp .ge 72, 0, 77, 0, 0, 0), (8, .iload_n 1, 0, 1, 0, 0, 0), (9, .iload_n 2, 0, 2, 0, 0, 0), (10, .ishr, 0, 0, 0, 0, 0), (11, .sipush 255, 0, 0, 0, 0, 255), (14, .iand, 0, 0, 0, 0, 0), (15, .istore_n 3, 0, 3, 0, 0, 0), (16, .iload_n 3, 0, 3, 0, 0, 0), (17, .ifCond .eq 54, 0, 71, 0, 0, 0), (20, .aload_n 0, 0, 0, 0, 0, 0), (21, .getfield 15, 0, 1, 1, 70, 0), (24, .bipush 60, 0, 0, 0, 0, 60), (26, .if_icmp .ge 45, 0, 71, 0, 0, 0), (29, .aload_n 0, 0, 0, 0, 0, 0), (30, .getfield 9, 0, 1, 0, 69, 0), (33, .aload_n 0, 0, 0, 0, 0, 0), (34, .getfield 15, 0, 1, 1, 70, 0), (37, .iload_n 3, 0, 3, 0, 0, 0), (38, .bipush 65, 0, 0, 0, 0, 65), (40, .if_icmp .lt 19, 0, 59, 0, 0, 0), (43, .iload_n 3, 0, 3, 0, 0, 0), (44, .bipush 90, 0, 0, 0, 0, 90), (46, .if_icmp .gt 13, 0, 59, 0, 0, 0), (49, .iload_n 3, 0, 3, 0, 0, 0), (50, .bipush 65, 0, 0, 0, 0, 65), (52, .isub, 0, 0, 0, 0, 0), (53, .bipush 97, 0, 0, 0, 0, 97), (55, .iadd, 0, 0, 0, 0, 0), (56, .goto 4, 0, 60, 0, 0, 0), (59, .iload_n 3, 0, 3, 0, 0, 0), (60, .iastore, 0, 0, 0, 0, 0), (61, .aload_n 0, 0, 0, 0, 0, 0), (62, .dup, 0, 0, 0, 0, 0), (63, .getfield 15, 0, 1, 1, 70, 0), (66, .iconst 1, 0, 0, 0, 0, 1), (67, .iadd, 0, 0, 0, 0, 0), (68, .putfield 15, 0, 1, 1, 70, 0), (71, .iinc 2 8, 0, 2, 0, 0, 8), (74, .goto (-72), 0, 2, 0, 0, 0), (77, .return_, 0, 0, 0, 0, 0)]
def M_Pa_append : ab_M := ("FacetSearch$Pad", ⟨"FacetSearch$Pad", "append", "(I)V"⟩, prog_2_method_4_code, 4, none, false, cd_Pa_append, [])
theorem ok_Pa_append : ab_Mok M_Pa_append := by unfold ab_Mok; decide +kernel
theorem ca_Pa_append : ab_cal M_Pa_append 1 := ⟨ab_Gp 360 (by decide +kernel) rfl, ab_Gp 38 (by decide +kernel) rfl, ⟨by decide +kernel, by decide +kernel⟩, by decide +kernel⟩
def cd_Pa_lettersFrom : List (Nat × ab_I) := [(0, .lconst 0, 0, 0, 0, 0, 0), (1, .lstore_n 2, 0, 2, 0, 0, 0), (2, .iconst 0, 0, 0, 0, 0, 0), (3, .istore 4, 0, 4, 0, 0, 0), (5, .iload 4, 0, 4, 0, 0, 0), (7, .bipush 10, 0, 0, 0, 0, 10), (9, .if_icmp .ge 44, 0, 53, 0, 0, 0), (12, .aload_n 0, 0, 0, 0, 0, 0), (13, .iload_n 1, 0, 1, 0, 0, 0), (14, .iload 4, 0, 4, 0, 0, 0), (16, .iadd, 0, 0, 0, 0, 0), (17, .invokevirtual 22, 0, 0, 0, 401, 0), (20, .istore 5, 0, 5, 0, 0, 0), (22, .iload 5, 0, 5, 0, 0, 0), (24, .bipush 97, 0, 0, 0, 0, 97), (26, .if_icmp .lt 10, 0, 36, 0, 0, 0), (29, .iload 5, 0, 5, 0, 0, 0), (31, .bipush 122, 0, 0, 0, 0, 122), (33, .if_icmp .le 5, 0, 38, 0, 0, 0), (36, .lload_n 2, 0, 2, 0, 0, 0), (37, .lreturn, 0, 0, 0, 0, 0), (38, .lload_n 2, 0, 2, 0, 0, 0), (39, .iload 4, 0, 4, 0, 0, 0), (41, .iload 5, 0, 5, 0, 0, 0), (43, .invokestatic 26, 0, 0, 0, 405, 0), (46, .lstore_n 2, 0, 2, 0, 0, 0), (47, .iinc 4 1, 0, 4, 0, 0, 1), (50, .goto (-45), 0, 5, 0, 0, 0), (53, .lload_n 2, 0, 2, 0, 0, 0), (54, .lreturn, 0, 0, 0, 0, 0)]
def M_Pa_lettersFrom : ab_M := ("FacetSearch$Pad", ⟨"FacetSearch$Pad", "lettersFrom", "(I)J"⟩, prog_2_method_6_code, 6, some .long, false, cd_Pa_lettersFrom, [])
theorem ok_Pa_lettersFrom : ab_Mok M_Pa_lettersFrom := by unfold ab_Mok; decide +kernel
theorem ca_Pa_lettersFrom : ab_cal M_Pa_lettersFrom 1 := ⟨ab_Gp 400 (by decide +kernel) rfl, ab_Gp 38 (by decide +kernel) rfl, ⟨by decide +kernel, by decide +kernel⟩, by decide +kernel⟩
def cd_Pa_signAt : List (Nat × ab_I) := [(0, .iload_n 1, 0, 1, 0, 0, 0), (1, .ifCond .lt 20, 0, 21, 0, 0, 0), (4, .iload_n 1, 0, 1, 0, 0, 0), (5, .aload_n 0, 0, 0, 0, 0, 0), (6, .getfield 15, 0, 1, 1, 70, 0), (9, .if_icmp .ge 12, 0, 21, 0, 0, 0), (12, .aload_n 0, 0, 0, 0, 0, 0), (13, .getfield 9, 0, 1, 0, 69, 0), (16, .iload_n 1, 0, 1, 0, 0, 0), (17, .iaload, 0, 0, 0, 0, 0), (18, .goto 4, 0, 22, 0, 0, 0), (21, .iconst 0, 0, 0, 0, 0, 0), (22, .ireturn, 0, 0, 0, 0, 0)]
def M_Pa_signAt : ab_M := ("FacetSearch$Pad", ⟨"FacetSearch$Pad", "signAt", "(I)I"⟩, prog_2_method_5_code, 2, some .int, false, cd_Pa_signAt, [])
theorem ok_Pa_signAt : ab_Mok M_Pa_signAt := by unfold ab_Mok; decide +kernel
theorem ca_Pa_signAt : ab_cal M_Pa_signAt 1 := ⟨ab_Gp 404 (by decide +kernel) rfl, ab_Gp 38 (by decide +kernel) rfl, ⟨by decide +kernel, by decide +kernel⟩, by decide +kernel⟩
end
section
/-! tables of methods, by program (gen/mk.py): FacetSearch$Shelf -/
def cd_Sh_init : List (Nat × ab_I) := [(0, .aload_n 0, 0, 0, 0, 0, 0), (1, .invokespecial 3, 0, 9, 0, 84, 0), (4, .aload_n 0, 0, 0, 0, 0, 0), (5, .sipush 384, 0, 0, 0, 0, 384), (8, .newarray .long, 0, 0, 0, 124, 0), (10, .putfield 9, 0, 5, 0, 88, 0), (13, .aload_n 0, 0, 0, 0, 0, 0), (14, .bipush 32, 0, 0, 0, 0, 32), (16, .newarray .int, 0, 0, 0, 78, 0), (18, .putfield 15, 0, 5, 1, 89, 0), (21, .aload_n 0, 0, 0, 0, 0, 0), (22, .sipush 128, 0, 0, 0, 0, 128), (25, .newarray .int, 0, 0, 0, 78, 0), (27, .putfield 19, 0, 5, 2, 91, 0), (30, .aload_n 0, 0, 0, 0, 0, 0), (31, .bipush 32, 0, 0, 0, 0, 32), (33, .newarray .int, 0, 0, 0, 78, 0), (35, .putfield 22, 0, 5, 3, 93, 0), (38, .aload_n 0, 0, 0, 0, 0, 0), (39, .bipush 32, 0, 0, 0, 0, 32), (41, .newarray .int, 0, 0, 0, 78, 0), (43, .putfield 25, 0, 5, 4, 95, 0), (46, .aload_n 0, 0, 0, 0, 0, 0), (47, .bipush 32, 0, 0, 0, 0, 32), (49, .newarray .int, 0, 0, 0, 78, 0), (51, .putfield 28, 0, 5, 5, 97, 0), (54, .aload_n 0, 0, 0, 0, 0, 0), (55, .iconst 0, 0, 0, 0, 0, 0), (56, .putfield 31, 0, 5, 6, 99, 0), (59, .aload_n 0, 0, 0, 0, 0, 0), (60, .iconst 0, 0, 0, 0, 0, 0), (61, .putfield 35, 0, 5, 7, 101, 0), (64, .aload_n 0, 0, 0, 0, 0, 0), (65, .iconst 0, 0, 0, 0, 0, 0), (66, .putfield 38, 0, 5, 8, 103, 0), (69, .aload_n 0, 0, 0, 0, 0, 0), (70, .getfield 19, 0, 5, 2, 91, 0), (73, .iconst (-1), 0, 0, 0, 0, (-1)), (74, .invokestatic 41, 0, 0, 0, 85, 0), (77, .aload_n 0, 0, 0, 0, 0, 0), (78, .getfield 22, 0, 5, 3, 93, 0), (81, .iconst (-1), 0, 0, 0, 0, (-1)), (82, .invokestatic 41, 0, 0, 0, 85, 0), (85, .aload_n 0, 0, 0, 0, 0, 0), (86, .getfield 28, 0, 5, 5, 97, 0), (89, .sipush 255, 0, 0, 0, 0, 255), (92, .invokestatic 41, 0, 0, 0, 85, 0), (95, .return_, 0, 0, 0, 0, 0)]
def M_Sh_init : ab_M := ("FacetSearch$Shelf", ⟨"FacetSearch$Shelf", "<init>", "()V"⟩, prog_6_method_1_code, 1, none, true, cd_Sh_init, [])
theorem ok_Sh_init : ab_Mok M_Sh_init := by unfold ab_Mok; decide +kernel
theorem ca_Sh_init : ab_cal M_Sh_init 0 := ⟨ab_Gp 83 (by decide +kernel) rfl, ab_Gp 39 (by decide +kernel) rfl, ⟨by decide +kernel, by decide +kernel⟩, by decide +kernel⟩
def cd_Sh_hasWord : List (Nat × ab_I) := [(0, .iconst 0, 0, 0, 0, 0, 0), (1, .istore 4, 0, 4, 0, 0, 0), (3, .iload 4, 0, 4, 0, 0, 0), (5, .aload_n 0, 0, 0, 0, 0, 0), (6, .getfield 15, 0, 5, 1, 89, 0), (9, .iload_n 1, 0, 1, 0, 0, 0), (10, .iaload, 0, 0, 0, 0, 0), (11, .if_icmp .ge 23, 0, 34, 0, 0, 0), (14, .aload_n 0, 0, 0, 0, 0, 0), (15, .iload_n 1, 0, 1, 0, 0, 0), (16, .iload 4, 0, 4, 0, 0, 0), (18, .invokevirtual 47, 0, 0, 0, 419, 0), (21, .lload_n 2, 0, 2, 0, 0, 0), (22, .lcmp, 0, 0, 0, 0, 0), (23, .ifCond .ne 5, 0, 28, 0, 0, 0), (26, .iconst 1, 0, 0, 0, 0, 1), (27, .ireturn, 0, 0, 0, 0, 0), (28, .iinc 4 1, 0, 4, 0, 0, 1), (31, .goto (-28), 0, 3, 0, 0, 0), (34, .iconst 0, 0, 0, 0, 0, 0), (35, .ireturn, 0, 0, 0, 0, 0)]
def M_Sh_hasWord : ab_M := ("FacetSearch$Shelf", ⟨"FacetSearch$Shelf", "hasWord", "(IJ)Z"⟩, prog_6_method_5_code, 5, some .boolean, false, cd_Sh_hasWord, [])
theorem ok_Sh_hasWord : ab_Mok M_Sh_hasWord := by unfold ab_Mok; decide +kernel
theorem ca_Sh_hasWord : ab_cal M_Sh_hasWord 2 := ⟨ab_Gp 418 (by decide +kernel) rfl, ab_Gp 39 (by decide +kernel) rfl, ⟨by decide +kernel, by decide +kernel⟩, by decide +kernel⟩
def cd_Sh_wordOf : List (Nat × ab_I) := [(0, .aload_n 0, 0, 0, 0, 0, 0), (1, .getfield 9, 0, 5, 0, 88, 0), (4, .iload_n 1, 0, 1, 0, 0, 0), (5, .bipush 12, 0, 0, 0, 0, 12), (7, .imul, 0, 0, 0, 0, 0), (8, .iload_n 2, 0, 2, 0, 0, 0), (9, .iadd, 0, 0, 0, 0, 0), (10, .laload, 0, 0, 0, 0, 0), (11, .lreturn, 0, 0, 0, 0, 0)]
def M_Sh_wordOf : ab_M := ("FacetSearch$Shelf", ⟨"FacetSearch$Shelf", "wordOf", "(II)J"⟩, prog_6_method_2_code, 3, some .long, false, cd_Sh_wordOf, [])
theorem ok_Sh_wordOf : ab_Mok M_Sh_wordOf := by unfold ab_Mok; decide +kernel
theorem ca_Sh_wordOf : ab_cal M_Sh_wordOf 2 := ⟨ab_Gp 422 (by decide +kernel) rfl, ab_Gp 39 (by decide +kernel) rfl, ⟨by decide +kernel, by decide +kernel⟩, by decide +kernel⟩
def cd_Sh_addWord : List (Nat × ab_I) := [(0, .aload_n 0, 0, 0, 0, 0, 0), (1, .getfield 15, 0, 5, 1, 89, 0), (4, .iload_n 1, 0, 1, 0, 0, 0), (5, .iaload, 0, 0, 0, 0, 0), (6, .bipush 12, 0, 0, 0, 0, 12), (8, .if_icmp .lt 4, 0, 12, 0, 0, 0), (11, .return_, 0, 0, 0, 0, 0), (12, .aload_n 0, 0, 0, 0, 0, 0), (13, .lload_n 2, 0, 2, 0, 0, 0), (14, .invokevirtual 51, 0, 0, 0, 428, 0), (17, .ifCond .ne 13, 0, 30, 0, 0, 0), (20, .aload_n 0, 0, 0, 0, 0, 0), (21, .dup, 0, 0, 0, 0, 0), (22, .getfield 38, 0, 5, 8, 103, 0), (25, .iconst 1, 0, 0, 0, 0, 1), (26, .iadd, 0, 0, 0, 0, 0), (27, .putfield 38, 0, 5, 8, 103, 0), (30, .iload_n 1, 0, 1, 0, 0, 0), (31, .bipush 12, 0, 0, 0, 0, 12), (33, .imul, 0, 0, 0, 0, 0), (34, .istore 4, 0, 4, 0, 0, 0), (36, .iload 4, 0, 4, 0, 0, 0), (38, .aload_n 0, 0, 0, 0, 0, 0), (39, .getfield 15, 0, 5, 1, 89, 0), (42, .iload_n 1, 0, 1, 0, 0, 0), (43, .iaload, 0, 0, 0, 0, 0), (44, .iadd, 0, 0, 0, 0, 0), (45, .istore 5, 0, 5, 0, 0, 0), (47, .iload 5, 0, 5, 0, 0, 0), (49, .iload 4, 0, 4, 0, 0, 0), (51, .if_icmp .le 39, 0, 90, 0, 0, 0), (54, .aload_n 0, 0, 0, 0, 0, 0), (55, .getfield 9, 0, 5, 0, 88, 0), (58, .iload 5, 0, 5, 0, 0, 0), (60, .iconst 1, 0, 0, 0, 0, 1), (61, .isub, 0, 0, 0, 0, 0), (62, .laload, 0, 0, 0, 0, 0), (63, .lload_n 2, 0, 2, 0, 0, 0), (64, .lcmp, 0, 0, 0, 0, 0), (65, .ifCond .le 25, 0, 90, 0, 0, 0), (68, .aload_n 0, 0, 0, 0, 0, 0), (69, .getfield 9, 0, 5, 0, 88, 0), (72, .iload 5, 0, 5, 0, 0, 0), (74, .aload_n 0, 0, 0, 0, 0, 0), (75, .getfield 9, 0, 5, 0, 88, 0), (78, .iload 5, 0, 5, 0, 0, 0), (80, .iconst 1, 0, 0, 0, 0, 1), (81, .isub, 0, 0, 0, 0, 0), (82, .laload, 0, 0, 0, 0, 0), (83, .lastore, 0, 0, 0, 0, 0), (84, .iinc 5 (-1), 0, 5, 0, 0, (-1)), (87, .goto (-40), 0, 47, 0, 0, 0), (90, .aload_n 0, 0, 0, 0, 0, 0), (91, .getfield 9, 0, 5, 0, 88, 0), (94, .iload 5, 0, 5, 0, 0, 0), (96, .lload_n 2, 0, 2, 0, 0, 0), (97, .lastore, 0, 0, 0, 0, 0), (98, .aload_n 0, 0, 0, 0, 0, 0), (99, .getfield 15, 0, 5, 1, 89, 0), (102, .iload_n 1, 0, 1, 0, 0, 0), (103, .dup2, 0, 0, 0, 0, 0), (104, .iaload, 0, 0, 0, 0, 0), (105, .iconst 1, 0, 0, 0, 0, 1), (106, .iadd, 0, 0, 0, 0, 0), (107, .iastore, 0, 0, 0, 0, 0), (108, .aload_n 0, 0, 0, 0, 0, 0), (109, .dup, 0, 0, 0, 0, 0), (110, .getfield 35, 0, 5, 7, 101, 0), (113, .iconst 1, 0, 0, 0, 0, 1), (114, .iadd, 0, 0, 0, 0, 0), (115, .putfield 35, 0, 5, 7, 101, 0), (118, .return_, 0, 0, 0, 0, 0)]
def M_Sh_addWord : ab_M := ("FacetSearch$Shelf", ⟨"FacetSearch$Shelf", "addWord", "(IJ)V"⟩, prog_6_method_6_code, 6, none, false, cd_Sh_addWord, [])
theorem ok_Sh_addWord : ab_Mok M_Sh_addWord := by unfold ab_Mok; decide +kernel
theorem ca_Sh_addWord : ab_cal M_Sh_addWord 2 := ⟨ab_Gp 427 (by decide +kernel) rfl, ab_Gp 39 (by decide +kernel) rfl, ⟨by decide +kernel, by decide +kernel⟩, by decide +kernel⟩
def cd_Sh_isKnown : List (Nat × ab_I) := [(0, .iconst 0, 0, 0, 0, 0, 0), (1, .istore_n 3, 0, 3, 0, 0, 0), (2, .iload_n 3, 0, 3, 0, 0, 0), (3, .aload_n 0, 0, 0, 0, 0, 0), (4, .getfield 31, 0, 5, 6, 99, 0), (7, .if_icmp .ge 20, 0, 27, 0, 0, 0), (10, .aload_n 0, 0, 0, 0, 0, 0), (11, .iload_n 3, 0, 3, 0, 0, 0), (12, .lload_n 1, 0, 1, 0, 0, 0), (13, .invokevirtual 55, 0, 0, 0, 432, 0), (16, .ifCond .eq 5, 0, 21, 0, 0, 0), (19, .iconst 1, 0, 0, 0, 0, 1), (20, .ireturn, 0, 0, 0, 0, 0), (21, .iinc 3 1, 0, 3, 0, 0, 1), (24, .goto (-22), 0, 2, 0, 0, 0), (27, .iconst 0, 0, 0, 0, 0, 0), (28, .ireturn, 0, 0, 0, 0, 0)]
def M_Sh_isKnown : ab_M := ("FacetSearch$Shelf", ⟨"FacetSearch$Shelf", "isKnown", "(J)Z"⟩, prog_6_method_7_code, 4, some .boolean, false, cd_Sh_isKnown, [])
theorem ok_Sh_isKnown : ab_Mok M_Sh_isKnown := by unfold ab_Mok; decide +kernel
theorem ca_Sh_isKnown : ab_cal M_Sh_isKnown 1 := ⟨ab_Gp 431 (by decide +kernel) rfl, ab_Gp 39 (by decide +kernel) rfl, ⟨by decide +kernel, by decide +kernel⟩, by decide +kernel⟩
def cd_Sh_valueOf : List (Nat × ab_I) := [(0, .aload_n 0, 0, 0, 0, 0, 0), (1, .getfield 19, 0, 5, 2, 91, 0), (4, .iload_n 1, 0, 1, 0, 0, 0), (5, .iconst 4, 0, 0, 0, 0, 4), (6, .imul, 0, 0, 0, 0, 0), (7, .iload_n 2, 0, 2, 0, 0, 0), (8, .iadd, 0, 0, 0, 0, 0), (9, .iaload, 0, 0, 0, 0, 0), (10, .ireturn, 0, 0, 0, 0, 0)]
def M_Sh_valueOf : ab_M := ("FacetSearch$Shelf", ⟨"FacetSearch$Shelf", "valueOf", "(II)I"⟩, prog_6_method_3_code, 3, some .int, false, cd_Sh_valueOf, [])
theorem ok_Sh_valueOf : ab_Mok M_Sh_valueOf := by unfold ab_Mok; decide +kernel
theorem ca_Sh_valueOf : ab_cal M_Sh_valueOf 2 := ⟨ab_Gp 454 (by decide +kernel) rfl, ab_Gp 39 (by decide +kernel) rfl, ⟨by decide +kernel, by decide +kernel⟩, by decide +kernel⟩
def cd_Sh_isSeenBy : List (Nat × ab_I) := [(0, .aload_n 0, 0, 0, 0, 0, 0), (1, .getfield 28, 0, 5, 5, 97, 0), (4, .iload_n 1, 0, 1, 0, 0, 0), (5, .iaload, 0, 0, 0, 0, 0), (6, .iload_n 2, 0, 2, 0, 0, 0), (7, .ishr, 0, 0, 0, 0, 0), (8, .iconst 1, 0, 0, 0, 0, 1), (9, .iand, 0, 0, 0, 0, 0), (10, .ifCond .eq 7, 0, 17, 0, 0, 0), (13, .iconst 1, 0, 0, 0, 0, 1), (14, .goto 4, 0, 18, 0, 0, 0), (17, .iconst 0, 0, 0, 0, 0, 0), (18, .ireturn, 0, 0, 0, 0, 0)]
def M_Sh_isSeenBy : ab_M := ("FacetSearch$Shelf", ⟨"FacetSearch$Shelf", "isSeenBy", "(II)Z"⟩, prog_6_method_4_code, 3, some .boolean, false, cd_Sh_isSeenBy, [])
theorem ok_Sh_isSeenBy : ab_Mok M_Sh_isSeenBy := by unfold ab_Mok; decide +kernel
theorem ca_Sh_isSeenBy : ab_cal M_Sh_isSeenBy 2 := ⟨ab_Gp 492 (by decide +kernel) rfl, ab_Gp 39 (by decide +kernel) rfl, ⟨by decide +kernel, by decide +kernel⟩, by decide +kernel⟩
def cd_Sh_hasYearWithin : List (Nat × ab_I) := [(0, .aload_n 0, 0, 0, 0, 0, 0), (1, .getfield 22, 0, 5, 3, 93, 0), (4, .iload_n 1, 0, 1, 0, 0, 0), (5, .iaload, 0, 0, 0, 0, 0), (6, .iconst (-1), 0, 0, 0, 0, (-1)), (7, .if_icmp .eq 30, 0, 37, 0, 0, 0), (10, .aload_n 0, 0, 0, 0, 0, 0), (11, .getfield 22, 0, 5, 3, 93, 0), (14, .iload_n 1, 0, 1, 0, 0, 0), (15, .iaload, 0, 0, 0, 0, 0), (16, .iload_n 2, 0, 2, 0, 0, 0), (17, .invokestatic 59, 0, 1, 0, 583, 0), (20, .aload_n 0, 0, 0, 0, 0, 0), (21, .getfield 25, 0, 5, 4, 95, 0), (24, .iload_n 1, 0, 1, 0, 0, 0), (25, .iaload, 0, 0, 0, 0, 0), (26, .iload_n 3, 0, 3, 0, 0, 0), (27, .invokestatic 65, 0, 2, 0, 586, 0), (30, .if_icmp .gt 7, 0, 37, 0, 0, 0), (33, .iconst 1, 0, 0, 0, 0, 1), (34, .goto 4, 0, 38, 0, 0, 0), (37, .iconst 0, 0, 0, 0, 0, 0), (38, .ireturn, 0, 0, 0, 0, 0)]
def M_Sh_hasYearWithin : ab_M := ("FacetSearch$Shelf", ⟨"FacetSearch$Shelf", "hasYearWithin", "(III)Z"⟩, prog_6_method_8_code, 4, some .boolean, false, cd_Sh_hasYearWithin, [])
theorem ok_Sh_hasYearWithin : ab_Mok M_Sh_hasYearWithin := by unfold ab_Mok; decide +kernel
theorem ca_Sh_hasYearWithin : ab_cal M_Sh_hasYearWithin 3 := ⟨ab_Gp 582 (by decide +kernel) rfl, ab_Gp 39 (by decide +kernel) rfl, ⟨by decide +kernel, by decide +kernel⟩, by decide +kernel⟩
def cd_Sh_factsShared : List (Nat × ab_I) := [(0, .iconst 0, 0, 0, 0, 0, 0), (1, .istore_n 3, 0, 3, 0, 0, 0), (2, .iconst 0, 0, 0, 0, 0, 0), (3, .istore 4, 0, 4, 0, 0, 0), (5, .iload 4, 0, 4, 0, 0, 0), (7, .aload_n 0, 0, 0, 0, 0, 0), (8, .getfield 15, 0, 5, 1, 89, 0), (11, .iload_n 1, 0, 1, 0, 0, 0), (12, .iaload, 0, 0, 0, 0, 0), (13, .if_icmp .ge 27, 0, 40, 0, 0, 0), (16, .aload_n 0, 0, 0, 0, 0, 0), (17, .iload_n 2, 0, 2, 0, 0, 0), (18, .aload_n 0, 0, 0, 0, 0, 0), (19, .iload_n 1, 0, 1, 0, 0, 0), (20, .iload 4, 0, 4, 0, 0, 0), (22, .invokevirtual 47, 0, 0, 0, 419, 0), (25, .invokevirtual 55, 0, 0, 0, 432, 0), (28, .ifCond .eq 6, 0, 34, 0, 0, 0), (31, .iinc 3 1, 0, 3, 0, 0, 1), (34, .iinc 4 1, 0, 4, 0, 0, 1), (37, .goto (-32), 0, 5, 0, 0, 0), (40, .iconst 0, 0, 0, 0, 0, 0), (41, .istore 4, 0, 4, 0, 0, 0), (43, .iload 4, 0, 4, 0, 0, 0), (45, .iconst 4, 0, 0, 0, 0, 4), (46, .if_icmp .ge 39, 0, 85, 0, 0, 0), (49, .aload_n 0, 0, 0, 0, 0, 0), (50, .iload_n 1, 0, 1, 0, 0, 0), (51, .iload 4, 0, 4, 0, 0, 0), (53, .invokevirtual 68, 0, 0, 0, 642, 0), (56, .istore 5, 0, 5, 0, 0, 0), (58, .iload 5, 0, 5, 0, 0, 0), (60, .iconst (-1), 0, 0, 0, 0, (-1)), (61, .if_icmp .eq 18, 0, 79, 0, 0, 0), (64, .iload 5, 0, 5, 0, 0, 0), (66, .aload_n 0, 0, 0, 0, 0, 0), (67, .iload_n 2, 0, 2, 0, 0, 0), (68, .iload 4, 0, 4, 0, 0, 0), (70, .invokevirtual 68, 0, 0, 0, 642, 0), (73, .if_icmp .ne 6, 0, 79, 0, 0, 0), (76, .iinc 3 1, 0, 3, 0, 0, 1), (79, .iinc 4 1, 0, 4, 0, 0, 1), (82, .goto (-39), 0, 43, 0, 0, 0), (85, .iload_n 3, 0, 3, 0, 0, 0), (86, .ireturn, 0, 0, 0, 0, 0)]
def M_Sh_factsShared : ab_M := ("FacetSearch$Shelf", ⟨"FacetSearch$Shelf", "factsShared", "(II)I"⟩, prog_6_method_9_code, 6, some .int, false, cd_Sh_factsShared, [])
theorem ok_Sh_factsShared : ab_Mok M_Sh_factsShared := by unfold ab_Mok; decide +kernel
theorem ca_Sh_factsShared : ab_cal M_Sh_factsShared 2 := ⟨ab_Gp 641 (by decide +kernel) rfl, ab_Gp 39 (by decide +kernel) rfl, ⟨by decide +kernel, by decide +kernel⟩, by decide +kernel⟩
end
section
/-! transitions, by program (gen/mk.py): FacetSearch$Words -/
theorem t_Wo_withLetter_0_1 {X : ab_X} (hX : ab_is X M_Wo_withLetter) {x0 : Int64} {x2 : Int32} {x3 : Int32} {pd : gt_pd} {sh : gt_sh} {tr : gt_tr} {ru : gt_ru} {qu : gt_qu} {to : gt_to} {al : gt_al} {z : List ab_C} {kc ks : Nat} (k : ab_W X M_Wo_withLetter (14, [], [.long (x0 ||| ((Int32.toInt64 (x3 - 96)) <<< (Int32.toInt64 (5 * (9 - x2)) &&& 63)))], (hf pd sh tr ru qu to al z), kc, ks)) : ab_W X M_Wo_withLetter (0, [(0, .long x0), (2, .int x2), (3, .int x3)], [], (hf pd sh tr ru qu to al z), kc, ks) := ab_go hX ok_Wo_withLetter 12 [] _ _ rfl (ab_a0) (ab_wk [] rfl k)
theorem t_Wo_lengthOf_0_1 {X : ab_X} (hX : ab_is X M_Wo_lengthOf) {x0 : Int64} {pd : gt_pd} {sh : gt_sh} {tr : gt_tr} {ru : gt_ru} {qu : gt_qu} {to : gt_to} {al : gt_al} {z : List ab_C} {kc ks : Nat} (k : ab_W X M_Wo_lengthOf (2, [(0, .long x0), (2, .int 0)], [], (hf pd sh tr ru qu to al z), kc, ks)) : ab_W X M_Wo_lengthOf (0, [(0, .long x0)], [], (hf pd sh tr ru qu to al z), kc, ks) := ab_go hX ok_Wo_lengthOf 2 [] _ _ rfl (ab_a0) k
theorem t_Wo_lengthOf_2_1 {X : ab_X} (hX : ab_is X M_Wo_lengthOf) {x0 : Int64} {x2 : Int32} {pd : gt_pd} {sh : gt_sh} {tr : gt_tr} {ru : gt_ru} {qu : gt_qu} {to : gt_to} {al : gt_al} {z : List ab_C} {kc ks : Nat} (h1 : ¬ 10 ≤ x2) (k : ab_W X M_Wo_lengthOf (10, [(0, .long x0), (2, .int x2)], [.int x2, .long x0], (hf pd sh tr ru qu to al z), kc, ks)) : ab_W X M_Wo_lengthOf (2, [(0, .long x0), (2, .int x2)], [], (hf pd sh tr ru qu to al z), kc, ks) := ab_go hX ok_Wo_lengthOf 5 [0] _ _ rfl (ab_a1 h1) k
theorem t_Wo_lengthOf_2_2 {X : ab_X} (hX : ab_is X M_Wo_lengthOf) {x0 : Int64} {x2 : Int32} {pd : gt_pd} {sh : gt_sh} {tr : gt_tr} {ru : gt_ru} {qu : gt_qu} {to : gt_to} {al : gt_al} {z : List ab_C} {kc ks : Nat} (h1 : 10 ≤ x2) (k : ab_W X M_Wo_lengthOf (22, [(2, .int x2)], [], (hf pd sh tr ru qu to al z), kc, ks)) : ab_W X M_Wo_lengthOf (2, [(0, .long x0), (2, .int x2)], [], (hf pd sh tr ru qu to al z), kc, ks) := ab_go hX ok_Wo_lengthOf 3 [1] _ _ rfl (ab_a1 h1) (ab_wk [1] rfl k)
theorem t_Wo_lengthOf_13_1 {X : ab_X} (hX : ab_is X M_Wo_lengthOf) {x0 : Int64} {x2 : Int32} {s0 : Int32} {pd : gt_pd} {sh : gt_sh} {tr : gt_tr} {ru : gt_ru} {qu : gt_qu} {to : gt_to} {al : gt_al} {z : List ab_C} {kc ks : Nat} (h1 : ¬ s0 = 0) (k : ab_W X M_Wo_lengthOf (2, [(0, .long x0), (2, .int (x2 + 1))], [], (hf pd sh tr ru qu to al z), kc, ks)) : ab_W X M_Wo_lengthOf (13, [(0, .long x0), (2, .int x2)], [.int s0], (hf pd sh tr ru qu to al z), kc, ks) := ab_go hX ok_Wo_lengthOf 3 [0] _ _ rfl (ab_a1 h1) k
theorem t_Wo_lengthOf_13_2 {X : ab_X} (hX : ab_is X M_Wo_lengthOf) {x0 : Int64} {x2 : Int32} {s0 : Int32} {pd : gt_pd} {sh : gt_sh} {tr : gt_tr} {ru : gt_ru} {qu : gt_qu} {to : gt_to} {al : gt_al} {z : List ab_C} {kc ks : Nat} (h1 : s0 = 0) (k : ab_W X M_Wo_lengthOf (22, [(2, .int x2)], [], (hf pd sh tr ru qu to al z), kc, ks)) : ab_W X M_Wo_lengthOf (13, [(0, .long x0), (2, .int x2)], [.int s0], (hf pd sh tr ru qu to al z), kc, ks) := ab_go hX ok_Wo_lengthOf 1 [1] _ _ rfl (ab_a1 h1) (ab_wk [1] rfl k)
theorem t_Wo_lengthOf_22_1 {X : ab_X} (hX : ab_is X M_Wo_lengthOf) {x2 : Int32} {pd : gt_pd} {sh : gt_sh} {tr : gt_tr} {ru : gt_ru} {qu : gt_qu} {to : gt_to} {al : gt_al} {z : List ab_C} {kc ks : Nat} (k : ab_W X M_Wo_lengthOf (23, [], [.int x2], (hf pd sh tr ru qu to al z), kc, ks)) : ab_W X M_Wo_lengthOf (22, [(2, .int x2)], [], (hf pd sh tr ru qu to al z), kc, ks) := ab_go hX ok_Wo_lengthOf 1 [] _ _ rfl (ab_a0) (ab_wk [] rfl k)
theorem t_Wo_codeAt_0_1 {X : ab_X} (hX : ab_is X M_Wo_codeAt) {x0 : Int64} {x2 : Int32} {pd : gt_pd} {sh : gt_sh} {tr : gt_tr} {ru : gt_ru} {qu : gt_qu} {to : gt_to} {al : gt_al} {z : List ab_C} {kc ks : Nat} (k : ab_W X M_Wo_codeAt (12, [], [.int ((Int64.toInt32 (x0 >>> (Int32.toInt64 (5 * (9 - x2)) &&& 63))) &&& 31)], (hf pd sh tr ru qu to al z), kc, ks)) : ab_W X M_Wo_codeAt (0, [(0, .long x0), (2, .int x2)], [], (hf pd sh tr ru qu to al z), kc, ks) := ab_go hX ok_Wo_codeAt 10 [] _ _ rfl (ab_a0) (ab_wk [] rfl k)
theorem t_Wo_letterOf_0_1 {X : ab_X} (hX : ab_is X M_Wo_letterOf) {x0 : Int64} {x2 : Int32} {pd : gt_pd} {sh : gt_sh} {tr : gt_tr} {ru : gt_ru} {qu : gt_qu} {to : gt_to} {al : gt_al} {z : List ab_C} {kc ks : Nat} (k : ab_W X M_Wo_letterOf (2, [], [.int x2, .long x0], (hf pd sh tr ru qu to al z), kc, ks)) : ab_W X M_Wo_letterOf (0, [(0, .long x0), (2, .int x2)], [], (hf pd sh tr ru qu to al z), kc, ks) := ab_go hX ok_Wo_letterOf 2 [] _ _ rfl (ab_a0) (ab_wk [] rfl k)
theorem t_Wo_letterOf_5_1 {X : ab_X} (hX : ab_is X M_Wo_letterOf) {s0 : Int32} {pd : gt_pd} {sh : gt_sh} {tr : gt_tr} {ru : gt_ru} {qu : gt_qu} {to : gt_to} {al : gt_al} {z : List ab_C} {kc ks : Nat} (k : ab_W X M_Wo_letterOf (8, [], [.int (s0 + 96)], (hf pd sh tr ru qu to al z), kc, ks)) : ab_W X M_Wo_letterOf (5, [], [.int s0], (hf pd sh tr ru qu to al z), kc, ks) := ab_go hX ok_Wo_letterOf 2 [] _ _ rfl (ab_a0) k
end
section
/-! transitions, by program (gen/mk.py): FacetSearch$Pad -/
theorem t_Pa_hasHighSign_0_1 {X : ab_X} (hX : ab_is X M_Pa_hasHighSign) {x0 : Int32} {pd : gt_pd} {sh : gt_sh} {tr : gt_tr} {ru : gt_ru} {qu : gt_qu} {to : gt_to} {al : gt_al} {z : List ab_C} {kc ks : Nat} (h1 : ¬ x0 &&& (-2139062144) = 0) (k : ab_W X M_Pa_hasHighSign (12, [], [.int 1], (hf pd sh tr ru qu to al z), kc, ks)) : ab_W X M_Pa_hasHighSign (0, [(0, .int x0)], [], (hf pd sh tr ru qu to al z), kc, ks) := ab_go hX ok_Pa_hasHighSign 6 [0] _ _ rfl (ab_a1 h1) (ab_wk [] rfl k)
theorem t_Pa_hasHighSign_0_2 {X : ab_X} (hX : ab_is X M_Pa_hasHighSign) {x0 : Int32} {pd : gt_pd} {sh : gt_sh} {tr : gt_tr} {ru : gt_ru} {qu : gt_qu} {to : gt_to} {al : gt_al} {z : List ab_C} {kc ks : Nat} (h1 : x0 &&& (-2139062144) = 0) (k : ab_W X M_Pa_hasHighSign (12, [], [.int 0], (hf pd sh tr ru qu to al z), kc, ks)) : ab_W X M_Pa_hasHighSign (0, [(0, .int x0)], [], (hf pd sh tr ru qu to al z), kc, ks) := ab_go hX ok_Pa_hasHighSign 5 [1] _ _ rfl (ab_a1 h1) (ab_wk [] rfl k)
theorem t_Pa_signsIn_0_1 {X : ab_X} (hX : ab_is X M_Pa_signsIn) {x0 : Int32} {pd : gt_pd} {sh : gt_sh} {tr : gt_tr} {ru : gt_ru} {qu : gt_qu} {to : gt_to} {al : gt_al} {z : List ab_C} {kc ks : Nat} (k : ab_W X M_Pa_signsIn (4, [(0, .int x0), (1, .int 0), (2, .int 0)], [], (hf pd sh tr ru qu to al z), kc, ks)) : ab_W X M_Pa_signsIn (0, [(0, .int x0)], [], (hf pd sh tr ru qu to al z), kc, ks) := ab_go hX ok_Pa_signsIn 4 [] _ _ rfl (ab_a0) k
theorem t_Pa_signsIn_4_1 {X : ab_X} (hX : ab_is X M_Pa_signsIn) {x0 : Int32} {x1 : Int32} {x2 : Int32} {pd : gt_pd} {sh : gt_sh} {tr : gt_tr} {ru : gt_ru} {qu : gt_qu} {to : gt_to} {al : gt_al} {z : List ab_C} {kc ks : Nat} (h1 : ¬ 32 ≤ x2) (h2 : ¬ (x0 >>> (x2 &&& 31)) &&& 255 = 0) (k : ab_W X M_Pa_signsIn (23, [(0, .int x0), (1, .int (x1 + 1)), (2, .int x2)], [], (hf pd sh tr ru qu to al z), kc, ks)) : ab_W X M_Pa_signsIn (4, [(0, .int x0), (1, .int x1), (2, .int x2)], [], (hf pd sh tr ru qu to al z), kc, ks) := ab_go hX ok_Pa_signsIn 10 [0, 0] _ _ rfl (ab_a2 h2 h1) k
theorem t_Pa_signsIn_4_2 {X : ab_X} (hX : ab_is X M_Pa_signsIn) {x0 : Int32} {x1 : Int32} {x2 : Int32} {pd : gt_pd} {sh : gt_sh} {tr : gt_tr} {ru : gt_ru} {qu : gt_qu} {to : gt_to} {al : gt_al} {z : List ab_C} {kc ks : Nat} (h1 : ¬ 32 ≤ x2) (h2 : (x0 >>> (x2 &&& 31)) &&& 255 = 0) (k : ab_W X M_Pa_signsIn (23, [(0, .int x0), (1, .int x1), (2, .int x2)], [], (hf pd sh tr ru qu to al z), kc, ks)) : ab_W X M_Pa_signsIn (4, [(0, .int x0), (1, .int x1), (2, .int x2)], [], (hf pd sh tr ru qu to al z), kc, ks) := ab_go hX ok_Pa_signsIn 9 [0, 1] _ _ rfl (ab_a2 h2 h1) k
theorem t_Pa_signsIn_4_3 {X : ab_X} (hX : ab_is X M_Pa_signsIn) {x0 : Int32} {x1 : Int32} {x2 : Int32} {pd : gt_pd} {sh : gt_sh} {tr : gt_tr} {ru : gt_ru} {qu : gt_qu} {to : gt_to} {al : gt_al} {z : List ab_C} {kc ks : Nat} (h1 : 32 ≤ x2) (k : ab_W X M_Pa_signsIn (30, [], [.int x1], (hf pd sh tr ru qu to al z), kc, ks)) : ab_W X M_Pa_signsIn (4, [(0, .int x0), (1, .int x1), (2, .int x2)], [], (hf pd sh tr ru qu to al z), kc, ks) := ab_go hX ok_Pa_signsIn 4 [1] _ _ rfl (ab_a1 h1) (ab_wk [] rfl k)
theorem t_Pa_signsIn_23_1 {X : ab_X} (hX : ab_is X M_Pa_signsIn) {x0 : Int32} {x1 : Int32} {x2 : Int32} {pd : gt_pd} {sh : gt_sh} {tr : gt_tr} {ru : gt_ru} {qu : gt_qu} {to : gt_to} {al : gt_al} {z : List ab_C} {kc ks : Nat} (k : ab_W X M_Pa_signsIn (4, [(0, .int x0), (1, .int x1), (2, .int (x2 + 8))], [], (hf pd sh tr ru qu to al z), kc, ks)) : ab_W X M_Pa_signsIn (23, [(0, .int x0), (1, .int x1), (2, .int x2)], [], (hf pd sh tr ru qu to al z), kc, ks) := ab_go hX ok_Pa_signsIn 2 [] _ _ rfl (ab_a0) k
theorem t_Pa_append_0_1 {X : ab_X} (hX : ab_is X M_Pa_append) {x1 : Int32} {pd : gt_pd} {sh : gt_sh} {tr : gt_tr} {ru : gt_ru} {qu : gt_qu} {to : gt_to} {al : gt_al} {z : List ab_C} {kc ks : Nat} (k : ab_W X M_Pa_append (2, [(0, .ref 2), (1, .int x1), (2, .int 0)], [], (hf pd sh tr ru qu to al z), kc, ks)) : ab_W X M_Pa_append (0, [(0, .ref 2), (1, .int x1)], [], (hf pd sh tr ru qu to al z), kc, ks) := ab_go hX ok_Pa_append 2 [] _ _ rfl (ab_a0) k
theorem t_Pa_append_2_1 {X : ab_X} (hX : ab_is X M_Pa_append) {x1 : Int32} {x2 : Int32} {pf : Nat → Int32} {pn : Int32} {sh : gt_sh} {tr : gt_tr} {ru : gt_ru} {qu : gt_qu} {to : gt_to} {al : gt_al} {z : List ab_C} {kc ks : Nat} (h1 : ¬ 32 ≤ x2) (h2 : ¬ (x1 >>> (x2 &&& 31)) &&& 255 = 0) (h3 : ¬ 60 ≤ pn) (h4 : ¬ (x1 >>> (x2 &&& 31)) &&& 255 < 65) (h5 : ¬ 90 < (x1 >>> (x2 &&& 31)) &&& 255) (k : ab_W X M_Pa_append (60, [(0, .ref 2), (1, .int x1), (2, .int x2)], [.int ((((x1 >>> (x2 &&& 31)) &&& 255) - 65) + 97), .int pn, .ref 3], (hf (pf, pn) sh tr ru qu to al z), kc, ks)) : ab_W X M_Pa_append (2, [(0, .ref 2), (1, .int x1), (2, .int x2)], [], (hf (pf, pn) sh tr ru qu to al z), kc, ks) := ab_go hX ok_Pa_append 31 [0, 0, 0, 0, 0] _ _ rfl (ab_a5 h5 h4 h3 h2 h1) (ab_wk [0, 1, 2] rfl k)
theorem t_Pa_append_2_2 {X : ab_X} (hX : ab_is X M_Pa_append) {x1 : Int32} {x2 : Int32} {pf : Nat → Int32} {pn : Int32} {sh : gt_sh} {tr : gt_tr} {ru : gt_ru} {qu : gt_qu} {to : gt_to} {al : gt_al} {z : List ab_C} {kc ks : Nat} (h1 : ¬ 32 ≤ x2) (h2 : ¬ (x1 >>> (x2 &&& 31)) &&& 255 = 0) (h3 : ¬ 60 ≤ pn) (h4 : ¬ (x1 >>> (x2 &&& 31)) &&& 255 < 65) (h5 : 90 < (x1 >>> (x2 &&& 31)) &&& 255) (k : ab_W X M_Pa_append (59, [(0, .ref 2), (1, .int x1), (2, .int x2), (3, .int ((x1 >>> (x2 &&& 31)) &&& 255))], [.int pn, .ref 3], (hf (pf, pn) sh tr ru qu to al z), kc, ks)) : ab_W X M_Pa_append (2, [(0, .ref 2), (1, .int x1), (2, .int x2)], [], (hf (pf, pn) sh tr ru qu to al z), kc, ks) := ab_go hX ok_Pa_append 25 [0, 0, 0, 0, 1] _ _ rfl (ab_a5 h5 h4 h3 h2 h1) k
theorem t_Pa_append_2_3 {X : ab_X} (hX : ab_is X M_Pa_append) {x1 : Int32} {x2 : Int32} {pf : Nat → Int32} {pn : Int32} {sh : gt_sh} {tr : gt_tr} {ru : gt_ru} {qu : gt_qu} {to : gt_to} {al : gt_al} {z : List ab_C} {kc ks : Nat} (h1 : ¬ 32 ≤ x2) (h2 : ¬ (x1 >>> (x2 &&& 31)) &&& 255 = 0) (h3 : ¬ 60 ≤ pn) (h4 : (x1 >>> (x2 &&& 31)) &&& 255 < 65) (k : ab_W X M_Pa_append (59, [(0, .ref 2), (1, .int x1), (2, .int x2), (3, .int ((x1 >>> (x2 &&& 31)) &&& 255))], [.int pn, .ref 3], (hf (pf, pn) sh tr ru qu to al z), kc, ks)) : ab_W X M_Pa_append (2, [(0, .ref 2), (1, .int x1), (2, .int x2)], [], (hf (pf, pn) sh tr ru qu to al z), kc, ks) := ab_go hX ok_Pa_append 22 [0, 0, 0, 1] _ _ rfl (ab_a4 h4 h3 h2 h1) k
theorem t_Pa_append_2_4 {X : ab_X} (hX : ab_is X M_Pa_append) {x1 : Int32} {x2 : Int32} {pf : Nat → Int32} {pn : Int32} {sh : gt_sh} {tr : gt_tr} {ru : gt_ru} {qu : gt_qu} {to : gt_to} {al : gt_al} {z : List ab_C} {kc ks : Nat} (h1 : ¬ 32 ≤ x2) (h2 : ¬ (x1 >>> (x2 &&& 31)) &&& 255 = 0) (h3 : 60 ≤ pn) (k : ab_W X M_Pa_append (71, [(0, .ref 2), (1, .int x1), (2, .int x2)], [], (hf (pf, pn) sh tr ru qu to al z), kc, ks)) : ab_W X M_Pa_append (2, [(0, .ref 2), (1, .int x1), (2, .int x2)], [], (hf (pf, pn) sh tr ru qu to al z), kc, ks) := ab_go hX ok_Pa_append 15 [0, 0, 1] _ _ rfl (ab_a3 h3 h2 h1) (ab_wk [0, 1, 2] rfl k)
theorem t_Pa_append_2_5 {X : ab_X} (hX : ab_is X M_Pa_append) {x1 : Int32} {x2 : Int32} {pf : Nat → Int32} {pn : Int32} {sh : gt_sh} {tr : gt_tr} {ru : gt_ru} {qu : gt_qu} {to : gt_to} {al : gt_al} {z : List ab_C} {kc ks : Nat} (h1 : ¬ 32 ≤ x2) (h2 : (x1 >>> (x2 &&& 31)) &&& 255 = 0) (k : ab_W X M_Pa_append (71, [(0, .ref 2), (1, .int x1), (2, .int x2)], [], (hf (pf, pn) sh tr ru qu to al z), kc, ks)) : ab_W X M_Pa_append (2, [(0, .ref 2), (1, .int x1), (2, .int x2)], [], (hf (pf, pn) sh tr ru qu to al z), kc, ks) := ab_go hX ok_Pa_append 11 [0, 1] _ _ rfl (ab_a2 h2 h1) (ab_wk [0, 1, 2] rfl k)
theorem t_Pa_append_2_6 {X : ab_X} (hX : ab_is X M_Pa_append) {x1 : Int32} {x2 : Int32} {pf : Nat → Int32} {pn : Int32} {sh : gt_sh} {tr : gt_tr} {ru : gt_ru} {qu : gt_qu} {to : gt_to} {al : gt_al} {z : List ab_C} {kc ks : Nat} (h1 : 32 ≤ x2) (k : ab_W X M_Pa_append (77, [], [], (hf (pf, pn) sh tr ru qu to al z), kc, ks)) : ab_W X M_Pa_append (2, [(0, .ref 2), (1, .int x1), (2, .int x2)], [], (hf (pf, pn) sh tr ru qu to al z), kc, ks) := ab_go hX ok_Pa_append 3 [1] _ _ rfl (ab_a1 h1) (ab_wk [] rfl k)
theorem t_Pa_append_60_1 {X : ab_X} (hX : ab_is X M_Pa_append) {x1 : Int32} {x2 : Int32} {s1 : Int32} {s2 : Int32} {pf : Nat → Int32} {pn : Int32} {sh : gt_sh} {tr : gt_tr} {ru : gt_ru} {qu : gt_qu} {to : gt_to} {al : gt_al} {z : List ab_C} {kc ks : Nat} (h1 : vp_in s1 60) (k : ab_W X M_Pa_append (71, [(0, .ref 2), (1, .int x1), (2, .int x2)], [], (hf (upd pf (Int32.toNatClampNeg s1) s2, pn + 1) sh tr ru qu to al z), kc, ks)) : ab_W X M_Pa_append (60, [(0, .ref 2), (1, .int x1), (2, .int x2)], [.int s2, .int s1, .ref 3], (hf (pf, pn) sh tr ru qu to al z), kc, ks) := ab_go hX ok_Pa_append 7 [] _ _ rfl (ab_a1 h1) k
theorem t_Pa_append_59_1 {X : ab_X} (hX : ab_is X M_Pa_append) {x1 : Int32} {x2 : Int32} {x3 : Int32} {s1 : Int32} {pd : gt_pd} {sh : gt_sh} {tr : gt_tr} {ru : gt_ru} {qu : gt_qu} {to : gt_to} {al : gt_al} {z : List ab_C} {kc ks : Nat} (k : ab_W X M_Pa_append (60, [(0, .ref 2), (1, .int x1), (2, .int x2)], [.int x3, .int s1, .ref 3], (hf pd sh tr ru qu to al z), kc, ks)) : ab_W X M_Pa_append (59, [(0, .ref 2), (1, .int x1), (2, .int x2), (3, .int x3)], [.int s1, .ref 3], (hf pd sh tr ru qu to al z), kc, ks) := ab_go hX ok_Pa_append 1 [] _ _ rfl (ab_a0) (ab_wk [0, 1, 2] rfl k)
theorem t_Pa_append_71_1 {X : ab_X} (hX : ab_is X M_Pa_append) {x1 : Int32} {x2 : Int32} {pd : gt_pd} {sh : gt_sh} {tr : gt_tr} {ru : gt_ru} {qu : gt_qu} {to : gt_to} {al : gt_al} {z : List ab_C} {kc ks : Nat} (k : ab_W X M_Pa_append (2, [(0, .ref 2), (1, .int x1), (2, .int (x2 + 8))], [], (hf pd sh tr ru qu to al z), kc, ks)) : ab_W X M_Pa_append (71, [(0, .ref 2), (1, .int x1), (2, .int x2)], [], (hf pd sh tr ru qu to al z), kc, ks) := ab_go hX ok_Pa_append 2 [] _ _ rfl (ab_a0) k
theorem t_Pa_lettersFrom_0_1 {X : ab_X} (hX : ab_is X M_Pa_lettersFrom) {x1 : Int32} {pd : gt_pd} {sh : gt_sh} {tr : gt_tr} {ru : gt_ru} {qu : gt_qu} {to : gt_to} {al : gt_al} {z : List ab_C} {kc ks : Nat} (k : ab_W X M_Pa_lettersFrom (5, [(0, .ref 2), (1, .int x1), (2, .long 0), (4, .int 0)], [], (hf pd sh tr ru qu to al z), kc, ks)) : ab_W X M_Pa_lettersFrom (0, [(0, .ref 2), (1, .int x1)], [], (hf pd sh tr ru qu to al z), kc, ks) := ab_go hX ok_Pa_lettersFrom 4 [] _ _ rfl (ab_a0) k
theorem t_Pa_lettersFrom_5_1 {X : ab_X} (hX : ab_is X M_Pa_lettersFrom) {x1 : Int32} {x2 : Int64} {x4 : Int32} {pd : gt_pd} {sh : gt_sh} {tr : gt_tr} {ru : gt_ru} {qu : gt_qu} {to : gt_to} {al : gt_al} {z : List ab_C} {kc ks : Nat} (h1 : ¬ 10 ≤ x4) (k : ab_W X M_Pa_lettersFrom (17, [(0, .ref 2), (1, .int x1), (2, .long x2), (4, .int x4)], [.int (x1 + x4), .ref 2], (hf pd sh tr ru qu to al z), kc, ks)) : ab_W X M_Pa_lettersFrom (5, [(0, .ref 2), (1, .int x1), (2, .long x2), (4, .int x4)], [], (hf pd sh tr ru qu to al z), kc, ks) := ab_go hX ok_Pa_lettersFrom 7 [0] _ _ rfl (ab_a1 h1) k
theorem t_Pa_lettersFrom_5_2 {X : ab_X} (hX : ab_is X M_Pa_lettersFrom) {x1 : Int32} {x2 : Int64} {x4 : Int32} {pd : gt_pd} {sh : gt_sh} {tr : gt_tr} {ru : gt_ru} {qu : gt_qu} {to : gt_to} {al : gt_al} {z : List ab_C} {kc ks : Nat} (h1 : 10 ≤ x4) (k : ab_W X M_Pa_lettersFrom (54, [], [.long x2], (hf pd sh tr ru qu to al z), kc, ks)) : ab_W X M_Pa_lettersFrom (5, [(0, .ref 2), (1, .int x1), (2, .long x2), (4, .int x4)], [], (hf pd sh tr ru qu to al z), kc, ks) := ab_go hX ok_Pa_lettersFrom 4 [1] _ _ rfl (ab_a1 h1) (ab_wk [] rfl k)
theorem t_Pa_lettersFrom_20_1 {X : ab_X} (hX : ab_is X M_Pa_lettersFrom) {x1 : Int32} {x2 : Int64} {x4 : Int32} {s0 : Int32} {pd : gt_pd} {sh : gt_sh} {tr : gt_tr} {ru : gt_ru} {qu : gt_qu} {to : gt_to} {al : gt_al} {z : List ab_C} {kc ks : Nat} (h1 : ¬ s0 < 97) (h2 : ¬ s0 ≤ 122) (k : ab_W X M_Pa_lettersFrom (36, [(2, .long x2)], [], (hf pd sh tr ru qu to al z), kc, ks)) : ab_W X M_Pa_lettersFrom (20, [(0, .ref 2), (1, .int x1), (2, .long x2), (4, .int x4)], [.int s0], (hf pd sh tr ru qu to al z), kc, ks) := ab_go hX ok_Pa_lettersFrom 7 [0, 0] _ _ rfl (ab_a2 h2 h1) (ab_wk [2] rfl k)
theorem t_Pa_lettersFrom_20_2 {X : ab_X} (hX : ab_is X M_Pa_lettersFrom) {x1 : Int32} {x2 : Int64} {x4 : Int32} {s0 : Int32} {pd : gt_pd} {sh : gt_sh} {tr : gt_tr} {ru : gt_ru} {qu : gt_qu} {to : gt_to} {al : gt_al} {z : List ab_C} {kc ks : Nat} (h1 : ¬ s0 < 97) (h2 : s0 ≤ 122) (k : ab_W X M_Pa_lettersFrom (43, [(0, .ref 2), (1, .int x1), (4, .int x4)], [.int s0, .int x4, .long x2], (hf pd sh tr ru qu to al z), kc, ks)) : ab_W X M_Pa_lettersFrom (20, [(0, .ref 2), (1, .int x1), (2, .long x2), (4, .int x4)], [.int s0], (hf pd sh tr ru qu to al z), kc, ks) := ab_go hX ok_Pa_lettersFrom 10 [0, 1] _ _ rfl (ab_a2 h2 h1) (ab_wk [0, 1, 3] rfl k)
theorem t_Pa_lettersFrom_20_3 {X : ab_X} (hX : ab_is X M_Pa_lettersFrom) {x1 : Int32} {x2 : Int64} {x4 : Int32} {s0 : Int32} {pd : gt_pd} {sh : gt_sh} {tr : gt_tr} {ru : gt_ru} {qu : gt_qu} {to : gt_to} {al : gt_al} {z : List ab_C} {kc ks : Nat} (h1 : s0 < 97) (k : ab_W X M_Pa_lettersFrom (36, [(2, .long x2)], [], (hf pd sh tr ru qu to al z), kc, ks)) : ab_W X M_Pa_lettersFrom (20, [(0, .ref 2), (1, .int x1), (2, .long x2), (4, .int x4)], [.int s0], (hf pd sh tr ru qu to al z), kc, ks) := ab_go hX ok_Pa_lettersFrom 4 [1] _ _ rfl (ab_a1 h1) (ab_wk [2] rfl k)
theorem t_Pa_lettersFrom_36_1 {X : ab_X} (hX : ab_is X M_Pa_lettersFrom) {x2 : Int64} {pd : gt_pd} {sh : gt_sh} {tr : gt_tr} {ru : gt_ru} {qu : gt_qu} {to : gt_to} {al : gt_al} {z : List ab_C} {kc ks : Nat} (k : ab_W X M_Pa_lettersFrom (37, [], [.long x2], (hf pd sh tr ru qu to al z), kc, ks)) : ab_W X M_Pa_lettersFrom (36, [(2, .long x2)], [], (hf pd sh tr ru qu to al z), kc, ks) := ab_go hX ok_Pa_lettersFrom 1 [] _ _ rfl (ab_a0) (ab_wk [] rfl k)
theorem t_Pa_lettersFrom_46_1 {X : ab_X} (hX : ab_is X M_Pa_lettersFrom) {x1 : Int32} {x4 : Int32} {s0 : Int64} {pd : gt_pd} {sh : gt_sh} {tr : gt_tr} {ru : gt_ru} {qu : gt_qu} {to : gt_to} {al : gt_al} {z : List ab_C} {kc ks : Nat} (k : ab_W X M_Pa_lettersFrom (5, [(0, .ref 2), (1, .int x1), (2, .long s0), (4, .int (x4 + 1))], [], (hf pd sh tr ru qu to al z), kc, ks)) : ab_W X M_Pa_lettersFrom (46, [(0, .ref 2), (1, .int x1), (4, .int x4)], [.long s0], (hf pd sh tr ru qu to al z), kc, ks) := ab_go hX ok_Pa_lettersFrom 3 [] _ _ rfl (ab_a0) k
theorem t_Pa_signAt_0_1 {X : ab_X} (hX : ab_is X M_Pa_signAt) {x1 : Int32} {pf : Nat → Int32} {pn : Int32} {sh : gt_sh} {tr : gt_tr} {ru : gt_ru} {qu : gt_qu} {to : gt_to} {al : gt_al} {z : List ab_C} {kc ks : Nat} (h1 : ¬ x1 < 0) (h2 : ¬ pn ≤ x1) (h3 : vp_in x1 60) (k : ab_W X M_Pa_signAt (22, [], [.int (pf (Int32.toNatClampNeg x1))], (hf (pf, pn) sh tr ru qu to al z), kc, ks)) : ab_W X M_Pa_signAt (0, [(0, .ref 2), (1, .int x1)], [], (hf (pf, pn) sh tr ru qu to al z), kc, ks) := ab_go hX ok_Pa_signAt 11 [0, 0] _ _ rfl (ab_a3 h3 h2 h1) (ab_wk [] rfl k)
theorem t_Pa_signAt_0_2 {X : ab_X} (hX : ab_is X M_Pa_signAt) {x1 : Int32} {pf : Nat → Int32} {pn : Int32} {sh : gt_sh} {tr : gt_tr} {ru : gt_ru} {qu : gt_qu} {to : gt_to} {al : gt_al} {z : List ab_C} {kc ks : Nat} (h1 : ¬ x1 < 0) (h2 : pn ≤ x1) (k : ab_W X M_Pa_signAt (21, [], [], (hf (pf, pn) sh tr ru qu to al z), kc, ks)) : ab_W X M_Pa_signAt (0, [(0, .ref 2), (1, .int x1)], [], (hf (pf, pn) sh tr ru qu to al z), kc, ks) := ab_go hX ok_Pa_signAt 6 [0, 1] _ _ rfl (ab_a2 h2 h1) (ab_wk [] rfl k)
theorem t_Pa_signAt_0_3 {X : ab_X} (hX : ab_is X M_Pa_signAt) {x1 : Int32} {pf : Nat → Int32} {pn : Int32} {sh : gt_sh} {tr : gt_tr} {ru : gt_ru} {qu : gt_qu} {to : gt_to} {al : gt_al} {z : List ab_C} {kc ks : Nat} (h1 : x1 < 0) (k : ab_W X M_Pa_signAt (21, [], [], (hf (pf, pn) sh tr ru qu to al z), kc, ks)) : ab_W X M_Pa_signAt (0, [(0, .ref 2), (1, .int x1)], [], (hf (pf, pn) sh tr ru qu to al z), kc, ks) := ab_go hX ok_Pa_signAt 2 [1] _ _ rfl (ab_a1 h1) (ab_wk [] rfl k)
theorem t_Pa_signAt_21_1 {X : ab_X} (hX : ab_is X M_Pa_signAt) {pd : gt_pd} {sh : gt_sh} {tr : gt_tr} {ru : gt_ru} {qu : gt_qu} {to : gt_to} {al : gt_al} {z : List ab_C} {kc ks : Nat} (k : ab_W X M_Pa_signAt (22, [], [.int 0], (hf pd sh tr ru qu to al z), kc, ks)) : ab_W X M_Pa_signAt (21, [], [], (hf pd sh tr ru qu to al z), kc, ks) := ab_go hX ok_Pa_signAt 1 [] _ _ rfl (ab_a0) k
end
