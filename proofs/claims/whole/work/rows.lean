section
-- ===== PART A: goes FIRST, ahead of the names: the tables' words, and 'selects' of the private methods out of them =====
/-- a private method of a class that the tables say can be made, by its rows of tables_1 -/
def lw_okq (q : MethodName × Nat) : Prop := (q.1.cls ≠ "java/lang/invoke/MethodHandle" ∧ q.1.cls ≠ "java/lang/invoke/VarHandle") ∧ Cond.instantiable q.1.cls q.2 ∈ tables_1 ∧ Cond.privateMethod q.1 ∈ tables_1 ∧ Cond.instanceMethod q.1 ∈ tables_1
theorem lw_p0 : lw_okq (⟨"java/lang/Throwable", "fillInStackTrace", "(I)Ljava/lang/Throwable;"⟩, 6) := ⟨⟨by decide +kernel, by decide +kernel⟩, List.mem_of_getElem? (i := 273) (by decide +kernel), List.mem_of_getElem? (i := 271) (by decide +kernel), List.mem_of_getElem? (i := 272) (by decide +kernel)⟩
theorem lw_p1 : lw_okq (⟨"FacetSearch", "requireRecord", "(I)V"⟩, 7) := ⟨⟨by decide +kernel, by decide +kernel⟩, List.mem_of_getElem? (i := 20) (by decide +kernel), List.mem_of_getElem? (i := 342) (by decide +kernel), List.mem_of_getElem? (i := 343) (by decide +kernel)⟩
theorem lw_p2 : lw_okq (⟨"FacetSearch$Shelf", "isKnown", "(J)Z"⟩, 9) := ⟨⟨by decide +kernel, by decide +kernel⟩, List.mem_of_getElem? (i := 44) (by decide +kernel), List.mem_of_getElem? (i := 393) (by decide +kernel), List.mem_of_getElem? (i := 394) (by decide +kernel)⟩
theorem lw_p3 : lw_okq (⟨"FacetSearch$Trees", "parentOf", "(II)I"⟩, 1) := ⟨⟨by decide +kernel, by decide +kernel⟩, List.mem_of_getElem? (i := 90) (by decide +kernel), List.mem_of_getElem? (i := 431) (by decide +kernel), List.mem_of_getElem? (i := 432) (by decide +kernel)⟩
theorem lw_p4 : lw_okq (⟨"FacetSearch$Question", "skipSpaces", "()V"⟩, 7) := ⟨⟨by decide +kernel, by decide +kernel⟩, List.mem_of_getElem? (i := 118) (by decide +kernel), List.mem_of_getElem? (i := 469) (by decide +kernel), List.mem_of_getElem? (i := 470) (by decide +kernel)⟩
theorem lw_p5 : lw_okq (⟨"FacetSearch$Question", "readTerm", "(I)Z"⟩, 7) := ⟨⟨by decide +kernel, by decide +kernel⟩, List.mem_of_getElem? (i := 118) (by decide +kernel), List.mem_of_getElem? (i := 474) (by decide +kernel), List.mem_of_getElem? (i := 475) (by decide +kernel)⟩
theorem lw_p6 : lw_okq (⟨"FacetSearch$Question", "readYears", "(I)Z"⟩, 7) := ⟨⟨by decide +kernel, by decide +kernel⟩, List.mem_of_getElem? (i := 118) (by decide +kernel), List.mem_of_getElem? (i := 478) (by decide +kernel), List.mem_of_getElem? (i := 479) (by decide +kernel)⟩
theorem lw_p7 : lw_okq (⟨"FacetSearch$Question", "readNumber", "(II)I"⟩, 7) := ⟨⟨by decide +kernel, by decide +kernel⟩, List.mem_of_getElem? (i := 118) (by decide +kernel), List.mem_of_getElem? (i := 482) (by decide +kernel), List.mem_of_getElem? (i := 483) (by decide +kernel)⟩
theorem lw_p8 : lw_okq (⟨"FacetSearch$Question", "take", "(I)Z"⟩, 7) := ⟨⟨by decide +kernel, by decide +kernel⟩, List.mem_of_getElem? (i := 118) (by decide +kernel), List.mem_of_getElem? (i := 486) (by decide +kernel), List.mem_of_getElem? (i := 487) (by decide +kernel)⟩
theorem lw_p9 : lw_okq (⟨"FacetSearch$Question", "readValue", "(I)Z"⟩, 7) := ⟨⟨by decide +kernel, by decide +kernel⟩, List.mem_of_getElem? (i := 118) (by decide +kernel), List.mem_of_getElem? (i := 490) (by decide +kernel), List.mem_of_getElem? (i := 491) (by decide +kernel)⟩
theorem lw_p10 : lw_okq (⟨"FacetSearch$Question", "readWord", "(I)Z"⟩, 7) := ⟨⟨by decide +kernel, by decide +kernel⟩, List.mem_of_getElem? (i := 118) (by decide +kernel), List.mem_of_getElem? (i := 494) (by decide +kernel), List.mem_of_getElem? (i := 495) (by decide +kernel)⟩
theorem lw_p11 : lw_okq (⟨"FacetSearch$Question", "isBehindTerm", "()Z"⟩, 7) := ⟨⟨by decide +kernel, by decide +kernel⟩, List.mem_of_getElem? (i := 118) (by decide +kernel), List.mem_of_getElem? (i := 500) (by decide +kernel), List.mem_of_getElem? (i := 501) (by decide +kernel)⟩
theorem lw_p12 : lw_okq (⟨"FacetSearch", "tellIfHit", "(I)V"⟩, 7) := ⟨⟨by decide +kernel, by decide +kernel⟩, List.mem_of_getElem? (i := 20) (by decide +kernel), List.mem_of_getElem? (i := 509) (by decide +kernel), List.mem_of_getElem? (i := 510) (by decide +kernel)⟩
theorem lw_p13 : lw_okq (⟨"FacetSearch", "termScore", "(II)I"⟩, 7) := ⟨⟨by decide +kernel, by decide +kernel⟩, List.mem_of_getElem? (i := 20) (by decide +kernel), List.mem_of_getElem? (i := 513) (by decide +kernel), List.mem_of_getElem? (i := 514) (by decide +kernel)⟩
theorem lw_p14 : lw_okq (⟨"FacetSearch", "nearestBelow", "(JII)I"⟩, 7) := ⟨⟨by decide +kernel, by decide +kernel⟩, List.mem_of_getElem? (i := 20) (by decide +kernel), List.mem_of_getElem? (i := 517) (by decide +kernel), List.mem_of_getElem? (i := 518) (by decide +kernel)⟩
theorem lw_p15 : lw_okq (⟨"FacetSearch$Ruler", "nextRow", "(II)I"⟩, 3) := ⟨⟨by decide +kernel, by decide +kernel⟩, List.mem_of_getElem? (i := 102) (by decide +kernel), List.mem_of_getElem? (i := 533) (by decide +kernel), List.mem_of_getElem? (i := 534) (by decide +kernel)⟩
def lw_privs_1 : List (MethodName × Nat) := [(⟨"java/lang/Throwable", "fillInStackTrace", "(I)Ljava/lang/Throwable;"⟩, 6), (⟨"FacetSearch", "requireRecord", "(I)V"⟩, 7), (⟨"FacetSearch$Shelf", "isKnown", "(J)Z"⟩, 9), (⟨"FacetSearch$Trees", "parentOf", "(II)I"⟩, 1), (⟨"FacetSearch$Question", "skipSpaces", "()V"⟩, 7), (⟨"FacetSearch$Question", "readTerm", "(I)Z"⟩, 7), (⟨"FacetSearch$Question", "readYears", "(I)Z"⟩, 7), (⟨"FacetSearch$Question", "readNumber", "(II)I"⟩, 7), (⟨"FacetSearch$Question", "take", "(I)Z"⟩, 7), (⟨"FacetSearch$Question", "readValue", "(I)Z"⟩, 7), (⟨"FacetSearch$Question", "readWord", "(I)Z"⟩, 7), (⟨"FacetSearch$Question", "isBehindTerm", "()Z"⟩, 7), (⟨"FacetSearch", "tellIfHit", "(I)V"⟩, 7), (⟨"FacetSearch", "termScore", "(II)I"⟩, 7), (⟨"FacetSearch", "nearestBelow", "(JII)I"⟩, 7), (⟨"FacetSearch$Ruler", "nextRow", "(II)I"⟩, 3)]
theorem lw_r1 : ∀ q ∈ lw_privs_1, lw_okq q := List.forall_mem_cons.mpr ⟨lw_p0, List.forall_mem_cons.mpr ⟨lw_p1, List.forall_mem_cons.mpr ⟨lw_p2, List.forall_mem_cons.mpr ⟨lw_p3, List.forall_mem_cons.mpr ⟨lw_p4, List.forall_mem_cons.mpr ⟨lw_p5, List.forall_mem_cons.mpr ⟨lw_p6, List.forall_mem_cons.mpr ⟨lw_p7, List.forall_mem_cons.mpr ⟨lw_p8, List.forall_mem_cons.mpr ⟨lw_p9, List.forall_mem_cons.mpr ⟨lw_p10, List.forall_mem_cons.mpr ⟨lw_p11, List.forall_mem_cons.mpr ⟨lw_p12, List.forall_mem_cons.mpr ⟨lw_p13, List.forall_mem_cons.mpr ⟨lw_p14, List.forall_mem_cons.mpr ⟨lw_p15, fun _ h => absurd h List.not_mem_nil⟩⟩⟩⟩⟩⟩⟩⟩⟩⟩⟩⟩⟩⟩⟩⟩
theorem lw_p16 : lw_okq (⟨"FacetSearch", "valueScore", "(III)I"⟩, 7) := ⟨⟨by decide +kernel, by decide +kernel⟩, List.mem_of_getElem? (i := 20) (by decide +kernel), List.mem_of_getElem? (i := 540) (by decide +kernel), List.mem_of_getElem? (i := 541) (by decide +kernel)⟩
theorem lw_p17 : lw_okq (⟨"FacetSearch", "requireHit", "(I)V"⟩, 7) := ⟨⟨by decide +kernel, by decide +kernel⟩, List.mem_of_getElem? (i := 20) (by decide +kernel), List.mem_of_getElem? (i := 567) (by decide +kernel), List.mem_of_getElem? (i := 568) (by decide +kernel)⟩
theorem lw_p18 : lw_okq (⟨"FacetSearchModel", "goes", "(ZZZ)Z"⟩, 28) := ⟨⟨by decide +kernel, by decide +kernel⟩, List.mem_of_getElem? (i := 628) (by decide +kernel), List.mem_of_getElem? (i := 735) (by decide +kernel), List.mem_of_getElem? (i := 736) (by decide +kernel)⟩
theorem lw_p19 : lw_okq (⟨"FacetSearchModel", "take", "(I)V"⟩, 28) := ⟨⟨by decide +kernel, by decide +kernel⟩, List.mem_of_getElem? (i := 628) (by decide +kernel), List.mem_of_getElem? (i := 739) (by decide +kernel), List.mem_of_getElem? (i := 740) (by decide +kernel)⟩
theorem lw_p20 : lw_okq (⟨"FacetSearchModel", "isRecord", "(I)Z"⟩, 28) := ⟨⟨by decide +kernel, by decide +kernel⟩, List.mem_of_getElem? (i := 628) (by decide +kernel), List.mem_of_getElem? (i := 758) (by decide +kernel), List.mem_of_getElem? (i := 759) (by decide +kernel)⟩
theorem lw_p21 : lw_okq (⟨"FacetSearchModel", "isWord", "()Z"⟩, 28) := ⟨⟨by decide +kernel, by decide +kernel⟩, List.mem_of_getElem? (i := 628) (by decide +kernel), List.mem_of_getElem? (i := 762) (by decide +kernel), List.mem_of_getElem? (i := 763) (by decide +kernel)⟩
theorem lw_p22 : lw_okq (⟨"FacetSearchModel", "isIn", "(III)Z"⟩, 28) := ⟨⟨by decide +kernel, by decide +kernel⟩, List.mem_of_getElem? (i := 628) (by decide +kernel), List.mem_of_getElem? (i := 777) (by decide +kernel), List.mem_of_getElem? (i := 778) (by decide +kernel)⟩
theorem lw_p23 : lw_okq (⟨"FacetSearchModel", "reads", "()Z"⟩, 28) := ⟨⟨by decide +kernel, by decide +kernel⟩, List.mem_of_getElem? (i := 628) (by decide +kernel), List.mem_of_getElem? (i := 793) (by decide +kernel), List.mem_of_getElem? (i := 794) (by decide +kernel)⟩
theorem lw_p24 : lw_okq (⟨"FacetSearchModel", "takes", "(I)Z"⟩, 28) := ⟨⟨by decide +kernel, by decide +kernel⟩, List.mem_of_getElem? (i := 628) (by decide +kernel), List.mem_of_getElem? (i := 797) (by decide +kernel), List.mem_of_getElem? (i := 798) (by decide +kernel)⟩
theorem lw_p25 : lw_okq (⟨"FacetSearchModel", "sign", "()I"⟩, 28) := ⟨⟨by decide +kernel, by decide +kernel⟩, List.mem_of_getElem? (i := 628) (by decide +kernel), List.mem_of_getElem? (i := 801) (by decide +kernel), List.mem_of_getElem? (i := 802) (by decide +kernel)⟩
theorem lw_p26 : lw_okq (⟨"FacetSearchModel", "term", "()Z"⟩, 28) := ⟨⟨by decide +kernel, by decide +kernel⟩, List.mem_of_getElem? (i := 628) (by decide +kernel), List.mem_of_getElem? (i := 805) (by decide +kernel), List.mem_of_getElem? (i := 806) (by decide +kernel)⟩
theorem lw_p27 : lw_okq (⟨"FacetSearchModel", "digits", "(II)I"⟩, 28) := ⟨⟨by decide +kernel, by decide +kernel⟩, List.mem_of_getElem? (i := 628) (by decide +kernel), List.mem_of_getElem? (i := 809) (by decide +kernel), List.mem_of_getElem? (i := 810) (by decide +kernel)⟩
theorem lw_p28 : lw_okq (⟨"FacetSearchModel", "note", "(I)V"⟩, 28) := ⟨⟨by decide +kernel, by decide +kernel⟩, List.mem_of_getElem? (i := 628) (by decide +kernel), List.mem_of_getElem? (i := 813) (by decide +kernel), List.mem_of_getElem? (i := 814) (by decide +kernel)⟩
theorem lw_p29 : lw_okq (⟨"FacetSearchModel", "scored", "(II)I"⟩, 28) := ⟨⟨by decide +kernel, by decide +kernel⟩, List.mem_of_getElem? (i := 628) (by decide +kernel), List.mem_of_getElem? (i := 817) (by decide +kernel), List.mem_of_getElem? (i := 818) (by decide +kernel)⟩
theorem lw_p30 : lw_okq (⟨"FacetSearchModel", "distance", "(III)I"⟩, 28) := ⟨⟨by decide +kernel, by decide +kernel⟩, List.mem_of_getElem? (i := 628) (by decide +kernel), List.mem_of_getElem? (i := 821) (by decide +kernel), List.mem_of_getElem? (i := 822) (by decide +kernel)⟩
theorem lw_p31 : lw_okq (⟨"FacetSearchModel", "asks", "(IIII)I"⟩, 28) := ⟨⟨by decide +kernel, by decide +kernel⟩, List.mem_of_getElem? (i := 628) (by decide +kernel), List.mem_of_getElem? (i := 825) (by decide +kernel), List.mem_of_getElem? (i := 826) (by decide +kernel)⟩
def lw_privs_2 : List (MethodName × Nat) := [(⟨"FacetSearch", "valueScore", "(III)I"⟩, 7), (⟨"FacetSearch", "requireHit", "(I)V"⟩, 7), (⟨"FacetSearchModel", "goes", "(ZZZ)Z"⟩, 28), (⟨"FacetSearchModel", "take", "(I)V"⟩, 28), (⟨"FacetSearchModel", "isRecord", "(I)Z"⟩, 28), (⟨"FacetSearchModel", "isWord", "()Z"⟩, 28), (⟨"FacetSearchModel", "isIn", "(III)Z"⟩, 28), (⟨"FacetSearchModel", "reads", "()Z"⟩, 28), (⟨"FacetSearchModel", "takes", "(I)Z"⟩, 28), (⟨"FacetSearchModel", "sign", "()I"⟩, 28), (⟨"FacetSearchModel", "term", "()Z"⟩, 28), (⟨"FacetSearchModel", "digits", "(II)I"⟩, 28), (⟨"FacetSearchModel", "note", "(I)V"⟩, 28), (⟨"FacetSearchModel", "scored", "(II)I"⟩, 28), (⟨"FacetSearchModel", "distance", "(III)I"⟩, 28), (⟨"FacetSearchModel", "asks", "(IIII)I"⟩, 28)]
theorem lw_r2 : ∀ q ∈ lw_privs_2, lw_okq q := List.forall_mem_cons.mpr ⟨lw_p16, List.forall_mem_cons.mpr ⟨lw_p17, List.forall_mem_cons.mpr ⟨lw_p18, List.forall_mem_cons.mpr ⟨lw_p19, List.forall_mem_cons.mpr ⟨lw_p20, List.forall_mem_cons.mpr ⟨lw_p21, List.forall_mem_cons.mpr ⟨lw_p22, List.forall_mem_cons.mpr ⟨lw_p23, List.forall_mem_cons.mpr ⟨lw_p24, List.forall_mem_cons.mpr ⟨lw_p25, List.forall_mem_cons.mpr ⟨lw_p26, List.forall_mem_cons.mpr ⟨lw_p27, List.forall_mem_cons.mpr ⟨lw_p28, List.forall_mem_cons.mpr ⟨lw_p29, List.forall_mem_cons.mpr ⟨lw_p30, List.forall_mem_cons.mpr ⟨lw_p31, fun _ h => absurd h List.not_mem_nil⟩⟩⟩⟩⟩⟩⟩⟩⟩⟩⟩⟩⟩⟩⟩⟩
theorem lw_p32 : lw_okq (⟨"FacetSearchModel", "shared", "(II)I"⟩, 28) := ⟨⟨by decide +kernel, by decide +kernel⟩, List.mem_of_getElem? (i := 628) (by decide +kernel), List.mem_of_getElem? (i := 852) (by decide +kernel), List.mem_of_getElem? (i := 853) (by decide +kernel)⟩
theorem lw_p33 : lw_okq (⟨"FacetSearchModel", "isSame", "(II)Z"⟩, 28) := ⟨⟨by decide +kernel, by decide +kernel⟩, List.mem_of_getElem? (i := 628) (by decide +kernel), List.mem_of_getElem? (i := 856) (by decide +kernel), List.mem_of_getElem? (i := 857) (by decide +kernel)⟩
theorem lw_p34 : lw_okq (⟨"FacetSearchModel", "isAhead", "(II)Z"⟩, 28) := ⟨⟨by decide +kernel, by decide +kernel⟩, List.mem_of_getElem? (i := 628) (by decide +kernel), List.mem_of_getElem? (i := 864) (by decide +kernel), List.mem_of_getElem? (i := 865) (by decide +kernel)⟩
theorem lw_p35 : lw_okq (⟨"FacetSearchModel", "different", "()I"⟩, 28) := ⟨⟨by decide +kernel, by decide +kernel⟩, List.mem_of_getElem? (i := 628) (by decide +kernel), List.mem_of_getElem? (i := 872) (by decide +kernel), List.mem_of_getElem? (i := 873) (by decide +kernel)⟩
def lw_privs_3 : List (MethodName × Nat) := [(⟨"FacetSearchModel", "shared", "(II)I"⟩, 28), (⟨"FacetSearchModel", "isSame", "(II)Z"⟩, 28), (⟨"FacetSearchModel", "isAhead", "(II)Z"⟩, 28), (⟨"FacetSearchModel", "different", "()I"⟩, 28)]
theorem lw_r3 : ∀ q ∈ lw_privs_3, lw_okq q := List.forall_mem_cons.mpr ⟨lw_p32, List.forall_mem_cons.mpr ⟨lw_p33, List.forall_mem_cons.mpr ⟨lw_p34, List.forall_mem_cons.mpr ⟨lw_p35, fun _ h => absurd h List.not_mem_nil⟩⟩⟩⟩
def lw_privs : List (MethodName × Nat) := lw_privs_1 ++ (lw_privs_2 ++ (lw_privs_3))
def lw_tbl : List Cond := k2_sels lw_privs ++ tables_1
theorem lw_privs_ok : ∀ q ∈ lw_privs, lw_okq q := by
  show ∀ q ∈ lw_privs_1 ++ (lw_privs_2 ++ (lw_privs_3)), lw_okq q
  exact List.forall_mem_append.mpr ⟨lw_r1, List.forall_mem_append.mpr ⟨lw_r2, lw_r3⟩⟩
end
section
/-! names, by program (gen/names.py): classes, their words; the words that a call keeps -/
def R_Fs : String := "FacetSearch"
def F_Fs : u_T := fun k => match k with
  | 0 => ("FacetSearch", "pad", "LFacetSearch$Pad;", true)
  | 1 => ("FacetSearch", "shelf", "LFacetSearch$Shelf;", true)
  | 2 => ("FacetSearch", "trees", "LFacetSearch$Trees;", true)
  | 3 => ("FacetSearch", "ruler", "LFacetSearch$Ruler;", true)
  | 4 => ("FacetSearch", "question", "LFacetSearch$Question;", true)
  | 5 => ("FacetSearch", "told", "LFacetSearch$Told;", true)
  | _ => ("FacetSearch", "alike", "LFacetSearch$Ranking;", true)
def y_Fs : Nat → FieldType := fun k => match k with
  | 0 => .object "FacetSearch$Pad"
  | 1 => .object "FacetSearch$Shelf"
  | 2 => .object "FacetSearch$Trees"
  | 3 => .object "FacetSearch$Ruler"
  | 4 => .object "FacetSearch$Question"
  | 5 => .object "FacetSearch$Told"
  | _ => .object "FacetSearch$Ranking"
def R_Pa : String := "FacetSearch$Pad"
def F_Pa : u_T := fun k => match k with
  | 0 => ("FacetSearch$Pad", "signs", "[I", true)
  | _ => ("FacetSearch$Pad", "length", "I", false)
def y_Pa : Nat → FieldType := fun k => match k with
  | 0 => .array .int
  | _ => .int
def R_Qu : String := "FacetSearch$Question"
def F_Qu : u_T := fun k => match k with
  | 0 => ("FacetSearch$Question", "kinds", "[I", true)
  | 1 => ("FacetSearch$Question", "words", "[J", true)
  | 2 => ("FacetSearch$Question", "first", "[I", true)
  | 3 => ("FacetSearch$Question", "second", "[I", true)
  | 4 => ("FacetSearch$Question", "size", "I", false)
  | 5 => ("FacetSearch$Question", "pad", "LFacetSearch$Pad;", true)
  | _ => ("FacetSearch$Question", "at", "I", false)
def y_Qu : Nat → FieldType := fun k => match k with
  | 0 => .array .int
  | 1 => .array .long
  | 2 => .array .int
  | 3 => .array .int
  | 4 => .int
  | 5 => .object "FacetSearch$Pad"
  | _ => .int
def R_Ra : String := "FacetSearch$Ranking"
def F_Ra : u_T := fun k => match k with
  | 0 => ("FacetSearch$Ranking", "records", "[I", true)
  | 1 => ("FacetSearch$Ranking", "points", "[I", true)
  | _ => ("FacetSearch$Ranking", "size", "I", false)
def y_Ra : Nat → FieldType := fun k => match k with
  | 0 => .array .int
  | 1 => .array .int
  | _ => .int
def R_Ru : String := "FacetSearch$Ruler"
def F_Ru : u_T := fun k => match k with
  | 0 => ("FacetSearch$Ruler", "one", "[I", true)
  | 1 => ("FacetSearch$Ruler", "two", "[I", true)
  | _ => ("FacetSearch$Ruler", "row", "[I", true)
def y_Ru : Nat → FieldType := fun k => match k with
  | 0 => .array .int
  | 1 => .array .int
  | _ => .array .int
def R_Sh : String := "FacetSearch$Shelf"
def F_Sh : u_T := fun k => match k with
  | 0 => ("FacetSearch$Shelf", "words", "[J", true)
  | 1 => ("FacetSearch$Shelf", "wordCounts", "[I", true)
  | 2 => ("FacetSearch$Shelf", "values", "[I", true)
  | 3 => ("FacetSearch$Shelf", "firstYears", "[I", true)
  | 4 => ("FacetSearch$Shelf", "lastYears", "[I", true)
  | 5 => ("FacetSearch$Shelf", "roles", "[I", true)
  | 6 => ("FacetSearch$Shelf", "size", "I", false)
  | 7 => ("FacetSearch$Shelf", "allWords", "I", false)
  | _ => ("FacetSearch$Shelf", "differentWords", "I", false)
def y_Sh : Nat → FieldType := fun k => match k with
  | 0 => .array .long
  | 1 => .array .int
  | 2 => .array .int
  | 3 => .array .int
  | 4 => .array .int
  | 5 => .array .int
  | 6 => .int
  | 7 => .int
  | _ => .int
def R_To : String := "FacetSearch$Told"
def F_To : u_T := fun k => match k with
  | 0 => ("FacetSearch$Told", "hits", "LFacetSearch$Ranking;", true)
  | 1 => ("FacetSearch$Told", "termScores", "[I", true)
  | 2 => ("FacetSearch$Told", "valueCounts", "[I", true)
  | _ => ("FacetSearch$Told", "terms", "I", false)
def y_To : Nat → FieldType := fun k => match k with
  | 0 => .object "FacetSearch$Ranking"
  | 1 => .array .int
  | 2 => .array .int
  | _ => .int
def R_Tr : String := "FacetSearch$Trees"
def F_Tr : u_T := fun k => match k with
  | _ => ("FacetSearch$Trees", "parents", "[I", true)
def y_Tr : Nat → FieldType := fun k => match k with
  | _ => .array .int
def R_Mo : String := "FacetSearchModel"
def F_Mo : u_T := fun k => match k with
  | 0 => ("FacetSearchModel", "thrown", "I", false)
  | 1 => ("FacetSearchModel", "padded", "I", false)
  | 2 => ("FacetSearchModel", "pad", "[I", true)
  | 3 => ("FacetSearchModel", "records", "I", false)
  | 4 => ("FacetSearchModel", "many", "[I", true)
  | 5 => ("FacetSearchModel", "lengths", "[I", true)
  | 6 => ("FacetSearchModel", "letters", "[I", true)
  | 7 => ("FacetSearchModel", "values", "[I", true)
  | 8 => ("FacetSearchModel", "parents", "[I", true)
  | 9 => ("FacetSearchModel", "froms", "[I", true)
  | 10 => ("FacetSearchModel", "tos", "[I", true)
  | 11 => ("FacetSearchModel", "hidden", "[Z", true)
  | 12 => ("FacetSearchModel", "read", "I", false)
  | 13 => ("FacetSearchModel", "kinds", "[I", true)
  | 14 => ("FacetSearchModel", "firsts", "[I", true)
  | 15 => ("FacetSearchModel", "seconds", "[I", true)
  | 16 => ("FacetSearchModel", "asked", "[I", true)
  | 17 => ("FacetSearchModel", "at", "I", false)
  | 18 => ("FacetSearchModel", "terms", "I", false)
  | 19 => ("FacetSearchModel", "hits", "I", false)
  | 20 => ("FacetSearchModel", "hitRecords", "[I", true)
  | 21 => ("FacetSearchModel", "hitScores", "[I", true)
  | 22 => ("FacetSearchModel", "parts", "[I", true)
  | 23 => ("FacetSearchModel", "partsOf", "[I", true)
  | 24 => ("FacetSearchModel", "totals", "[I", true)
  | 25 => ("FacetSearchModel", "counts", "[I", true)
  | 26 => ("FacetSearchModel", "table", "[I", true)
  | _ => ("FacetSearchModel", "order", "[I", true)
def y_Mo : Nat → FieldType := fun k => match k with
  | 0 => .int
  | 1 => .int
  | 2 => .array .int
  | 3 => .int
  | 4 => .array .int
  | 5 => .array .int
  | 6 => .array .int
  | 7 => .array .int
  | 8 => .array .int
  | 9 => .array .int
  | 10 => .array .int
  | 11 => .array .boolean
  | 12 => .int
  | 13 => .array .int
  | 14 => .array .int
  | 15 => .array .int
  | 16 => .array .int
  | 17 => .int
  | 18 => .int
  | 19 => .int
  | 20 => .array .int
  | 21 => .array .int
  | 22 => .array .int
  | 23 => .array .int
  | 24 => .array .int
  | 25 => .array .int
  | 26 => .array .int
  | _ => .array .int
def ab_cl : List vw_C := [(R_Fs, F_Fs, 7), (R_Pa, F_Pa, 2), (R_Qu, F_Qu, 7), (R_Ra, F_Ra, 3), (R_Ru, F_Ru, 3), (R_Sh, F_Sh, 9), (R_To, F_To, 4), (R_Tr, F_Tr, 1), (R_Mo, F_Mo, 28)]
def ab_ft (c : Nat) : Nat → FieldType := match c with
  | 0 => y_Fs
  | 1 => y_Pa
  | 2 => y_Qu
  | 3 => y_Ra
  | 4 => y_Ru
  | 5 => y_Sh
  | 6 => y_To
  | 7 => y_Tr
  | _ => y_Mo
def ab_df (c : Nat) : List Value := match c with
  | 0 => [.null, .null, .null, .null, .null, .null, .null]
  | 1 => [.null, .int 0]
  | 2 => [.null, .null, .null, .null, .int 0, .null, .int 0]
  | 3 => [.null, .null, .int 0]
  | 4 => [.null, .null, .null]
  | 5 => [.null, .null, .null, .null, .null, .null, .int 0, .int 0, .int 0]
  | 6 => [.null, .null, .null, .int 0]
  | 7 => [.null]
  | _ => [.int 0, .int 0, .null, .int 0, .null, .null, .null, .null, .null, .null, .null, .null, .int 0, .null, .null, .null, .null, .int 0, .int 0, .int 0, .null, .null, .null, .null, .null, .null, .null, .null]
def ab_G : List Cond := lw_tbl.filter goodWord
theorem ab_Gp {w : Cond} (i : Nat) (h : lw_tbl[i]? = some w) (hg : goodWord w = true) : w ∈ ab_G := List.mem_filter.mpr ⟨List.mem_of_getElem? h, hg⟩
theorem l_Fs : ∀ w ∈ u_ws R_Fs F_Fs 7, w ∈ ab_G := by
  have h : u_ws R_Fs F_Fs 7 = [238, 240, 242, 244, 246, 248, 250].filterMap (fun i => lw_tbl[i]?) ∧ (u_ws R_Fs F_Fs 7).all goodWord = true := by decide +kernel
  intro w hw
  have hg := List.all_eq_true.mp h.2 w hw
  rw [h.1] at hw
  obtain ⟨i, -, hi⟩ := List.mem_filterMap.mp hw
  exact ab_Gp i hi hg
theorem n_Fs : (∀ k, k < 7 → parseFieldDescriptor (F_Fs k).2.2.1 = some (y_Fs k)) ∧ (∀ a, a < 7 → ∀ b, b < 7 → a ≠ b → (F_Fs a).2.1 ≠ (F_Fs b).2.1) ∧ (∀ k, k < 7 → defaultValue (y_Fs k) = vp_V (ab_df 0) k) := by decide +kernel
theorem l_Pa : ∀ w ∈ u_ws R_Pa F_Pa 2, w ∈ ab_G := by
  have h : u_ws R_Pa F_Pa 2 = [73, 75].filterMap (fun i => lw_tbl[i]?) ∧ (u_ws R_Pa F_Pa 2).all goodWord = true := by decide +kernel
  intro w hw
  have hg := List.all_eq_true.mp h.2 w hw
  rw [h.1] at hw
  obtain ⟨i, -, hi⟩ := List.mem_filterMap.mp hw
  exact ab_Gp i hi hg
theorem n_Pa : (∀ k, k < 2 → parseFieldDescriptor (F_Pa k).2.2.1 = some (y_Pa k)) ∧ (∀ a, a < 2 → ∀ b, b < 2 → a ≠ b → (F_Pa a).2.1 ≠ (F_Pa b).2.1) ∧ (∀ k, k < 2 → defaultValue (y_Pa k) = vp_V (ab_df 1) k) := by decide +kernel
theorem l_Qu : ∀ w ∈ u_ws R_Qu F_Qu 7, w ∈ ab_G := by
  have h : u_ws R_Qu F_Qu 7 = [171, 173, 175, 177, 179, 181, 183].filterMap (fun i => lw_tbl[i]?) ∧ (u_ws R_Qu F_Qu 7).all goodWord = true := by decide +kernel
  intro w hw
  have hg := List.all_eq_true.mp h.2 w hw
  rw [h.1] at hw
  obtain ⟨i, -, hi⟩ := List.mem_filterMap.mp hw
  exact ab_Gp i hi hg
theorem n_Qu : (∀ k, k < 7 → parseFieldDescriptor (F_Qu k).2.2.1 = some (y_Qu k)) ∧ (∀ a, a < 7 → ∀ b, b < 7 → a ≠ b → (F_Qu a).2.1 ≠ (F_Qu b).2.1) ∧ (∀ k, k < 7 → defaultValue (y_Qu k) = vp_V (ab_df 2) k) := by decide +kernel
theorem l_Ra : ∀ w ∈ u_ws R_Ra F_Ra 3, w ∈ ab_G := by
  have h : u_ws R_Ra F_Ra 3 = [205, 207, 209].filterMap (fun i => lw_tbl[i]?) ∧ (u_ws R_Ra F_Ra 3).all goodWord = true := by decide +kernel
  intro w hw
  have hg := List.all_eq_true.mp h.2 w hw
  rw [h.1] at hw
  obtain ⟨i, -, hi⟩ := List.mem_filterMap.mp hw
  exact ab_Gp i hi hg
theorem n_Ra : (∀ k, k < 3 → parseFieldDescriptor (F_Ra k).2.2.1 = some (y_Ra k)) ∧ (∀ a, a < 3 → ∀ b, b < 3 → a ≠ b → (F_Ra a).2.1 ≠ (F_Ra b).2.1) ∧ (∀ k, k < 3 → defaultValue (y_Ra k) = vp_V (ab_df 3) k) := by decide +kernel
theorem l_Ru : ∀ w ∈ u_ws R_Ru F_Ru 3, w ∈ ab_G := by
  have h : u_ws R_Ru F_Ru 3 = [146, 148, 150].filterMap (fun i => lw_tbl[i]?) ∧ (u_ws R_Ru F_Ru 3).all goodWord = true := by decide +kernel
  intro w hw
  have hg := List.all_eq_true.mp h.2 w hw
  rw [h.1] at hw
  obtain ⟨i, -, hi⟩ := List.mem_filterMap.mp hw
  exact ab_Gp i hi hg
theorem n_Ru : (∀ k, k < 3 → parseFieldDescriptor (F_Ru k).2.2.1 = some (y_Ru k)) ∧ (∀ a, a < 3 → ∀ b, b < 3 → a ≠ b → (F_Ru a).2.1 ≠ (F_Ru b).2.1) ∧ (∀ k, k < 3 → defaultValue (y_Ru k) = vp_V (ab_df 4) k) := by decide +kernel
theorem l_Sh : ∀ w ∈ u_ws R_Sh F_Sh 9, w ∈ ab_G := by
  have h : u_ws R_Sh F_Sh 9 = [105, 107, 109, 111, 113, 115, 117, 119, 121].filterMap (fun i => lw_tbl[i]?) ∧ (u_ws R_Sh F_Sh 9).all goodWord = true := by decide +kernel
  intro w hw
  have hg := List.all_eq_true.mp h.2 w hw
  rw [h.1] at hw
  obtain ⟨i, -, hi⟩ := List.mem_filterMap.mp hw
  exact ab_Gp i hi hg
theorem n_Sh : (∀ k, k < 9 → parseFieldDescriptor (F_Sh k).2.2.1 = some (y_Sh k)) ∧ (∀ a, a < 9 → ∀ b, b < 9 → a ≠ b → (F_Sh a).2.1 ≠ (F_Sh b).2.1) ∧ (∀ k, k < 9 → defaultValue (y_Sh k) = vp_V (ab_df 5) k) := by decide +kernel
theorem l_To : ∀ w ∈ u_ws R_To F_To 4, w ∈ ab_G := by
  have h : u_ws R_To F_To 4 = [220, 222, 224, 226].filterMap (fun i => lw_tbl[i]?) ∧ (u_ws R_To F_To 4).all goodWord = true := by decide +kernel
  intro w hw
  have hg := List.all_eq_true.mp h.2 w hw
  rw [h.1] at hw
  obtain ⟨i, -, hi⟩ := List.mem_filterMap.mp hw
  exact ab_Gp i hi hg
theorem n_To : (∀ k, k < 4 → parseFieldDescriptor (F_To k).2.2.1 = some (y_To k)) ∧ (∀ a, a < 4 → ∀ b, b < 4 → a ≠ b → (F_To a).2.1 ≠ (F_To b).2.1) ∧ (∀ k, k < 4 → defaultValue (y_To k) = vp_V (ab_df 6) k) := by decide +kernel
theorem l_Tr : ∀ w ∈ u_ws R_Tr F_Tr 1, w ∈ ab_G := by
  have h : u_ws R_Tr F_Tr 1 = [134].filterMap (fun i => lw_tbl[i]?) ∧ (u_ws R_Tr F_Tr 1).all goodWord = true := by decide +kernel
  intro w hw
  have hg := List.all_eq_true.mp h.2 w hw
  rw [h.1] at hw
  obtain ⟨i, -, hi⟩ := List.mem_filterMap.mp hw
  exact ab_Gp i hi hg
theorem n_Tr : (∀ k, k < 1 → parseFieldDescriptor (F_Tr k).2.2.1 = some (y_Tr k)) ∧ (∀ a, a < 1 → ∀ b, b < 1 → a ≠ b → (F_Tr a).2.1 ≠ (F_Tr b).2.1) ∧ (∀ k, k < 1 → defaultValue (y_Tr k) = vp_V (ab_df 7) k) := by decide +kernel
theorem l_Mo : ∀ w ∈ u_ws R_Mo F_Mo 28, w ∈ ab_G := by
  have h : u_ws R_Mo F_Mo 28 = [697, 699, 701, 703, 705, 707, 709, 711, 713, 715, 717, 719, 721, 723, 725, 727, 729, 731, 733, 735, 737, 739, 741, 743, 745, 747, 749, 751].filterMap (fun i => lw_tbl[i]?) ∧ (u_ws R_Mo F_Mo 28).all goodWord = true := by decide +kernel
  intro w hw
  have hg := List.all_eq_true.mp h.2 w hw
  rw [h.1] at hw
  obtain ⟨i, -, hi⟩ := List.mem_filterMap.mp hw
  exact ab_Gp i hi hg
theorem n_Mo : (∀ k, k < 28 → parseFieldDescriptor (F_Mo k).2.2.1 = some (y_Mo k)) ∧ (∀ a, a < 28 → ∀ b, b < 28 → a ≠ b → (F_Mo a).2.1 ≠ (F_Mo b).2.1) ∧ (∀ k, k < 28 → defaultValue (y_Mo k) = vp_V (ab_df 8) k) := by decide +kernel
theorem ab_cl_ok (ci : Nat) (C : String) (T : u_T) (N : Nat) (h : ab_cl[ci]? = some (C, T, N)) : (∀ w ∈ u_ws C T N, w ∈ ab_G) ∧ (∀ k, k < N → parseFieldDescriptor (T k).2.2.1 = some (ab_ft ci k)) ∧ (∀ a, a < N → ∀ b, b < N → a ≠ b → (T a).2.1 ≠ (T b).2.1) ∧ (∀ j, j < N → defaultValue (ab_ft ci j) = vp_V (ab_df ci) j) ∧ ∀ v ∈ ab_df ci, ∀ k, v ≠ .ref k := by
  match ci, h with
  | 0, h =>
    have h9 : (R_Fs, F_Fs, 7) = (C, T, N) := Option.some.inj h
    cases h9
    exact ⟨l_Fs, n_Fs.1, n_Fs.2.1, n_Fs.2.2, by simp [ab_df]⟩
  | 1, h =>
    have h9 : (R_Pa, F_Pa, 2) = (C, T, N) := Option.some.inj h
    cases h9
    exact ⟨l_Pa, n_Pa.1, n_Pa.2.1, n_Pa.2.2, by simp [ab_df]⟩
  | 2, h =>
    have h9 : (R_Qu, F_Qu, 7) = (C, T, N) := Option.some.inj h
    cases h9
    exact ⟨l_Qu, n_Qu.1, n_Qu.2.1, n_Qu.2.2, by simp [ab_df]⟩
  | 3, h =>
    have h9 : (R_Ra, F_Ra, 3) = (C, T, N) := Option.some.inj h
    cases h9
    exact ⟨l_Ra, n_Ra.1, n_Ra.2.1, n_Ra.2.2, by simp [ab_df]⟩
  | 4, h =>
    have h9 : (R_Ru, F_Ru, 3) = (C, T, N) := Option.some.inj h
    cases h9
    exact ⟨l_Ru, n_Ru.1, n_Ru.2.1, n_Ru.2.2, by simp [ab_df]⟩
  | 5, h =>
    have h9 : (R_Sh, F_Sh, 9) = (C, T, N) := Option.some.inj h
    cases h9
    exact ⟨l_Sh, n_Sh.1, n_Sh.2.1, n_Sh.2.2, by simp [ab_df]⟩
  | 6, h =>
    have h9 : (R_To, F_To, 4) = (C, T, N) := Option.some.inj h
    cases h9
    exact ⟨l_To, n_To.1, n_To.2.1, n_To.2.2, by simp [ab_df]⟩
  | 7, h =>
    have h9 : (R_Tr, F_Tr, 1) = (C, T, N) := Option.some.inj h
    cases h9
    exact ⟨l_Tr, n_Tr.1, n_Tr.2.1, n_Tr.2.2, by simp [ab_df]⟩
  | 8, h =>
    have h9 : (R_Mo, F_Mo, 28) = (C, T, N) := Option.some.inj h
    cases h9
    exact ⟨l_Mo, n_Mo.1, n_Mo.2.1, n_Mo.2.2, by simp [ab_df]⟩
  | k + 9, h => exact absurd h (by simp [ab_cl])
theorem ab_mx : Cond.static Lib.Math.max.name ∈ ab_G ∧ Cond.initialized "java/lang/Math" ∈ ab_G ∧ Cond.code Lib.Math.max.name Lib.Math.max.code 2 (some .int) ∈ ab_G := ⟨ab_Gp 584 (by decide +kernel) rfl, ab_Gp 54 (by decide +kernel) rfl, ab_Gp 585 (by decide +kernel) rfl⟩
theorem ab_mn : Cond.static Lib.Math.min.name ∈ ab_G ∧ Cond.initialized "java/lang/Math" ∈ ab_G ∧ Cond.code Lib.Math.min.name Lib.Math.min.code 2 (some .int) ∈ ab_G := ⟨ab_Gp 573 (by decide +kernel) rfl, ab_Gp 54 (by decide +kernel) rfl, ab_Gp 574 (by decide +kernel) rfl⟩
theorem ab_ma : Cond.static Lib.Math.abs.name ∈ ab_G ∧ Cond.initialized "java/lang/Math" ∈ ab_G ∧ Cond.code Lib.Math.abs.name Lib.Math.abs.code 1 (some .int) ∈ ab_G := ⟨ab_Gp 566 (by decide +kernel) rfl, ab_Gp 54 (by decide +kernel) rfl, ab_Gp 567 (by decide +kernel) rfl⟩
theorem ab_oi : Cond.instanceMethod objectInit ∈ ab_G ∧ Cond.code objectInit ⟨#[0xb1]⟩ 1 none ∈ ab_G := ⟨ab_Gp 61 (by decide +kernel) rfl, ab_Gp 62 (by decide +kernel) rfl⟩
end
section
/-! ABSTRACT RUNS. A heap of numbered cells (cell k is told by the reference k + 1; reference 0 is the law's script), a method's code as a table; a path of it is one equation by rfl ('ab_path'), and 'ab_go' takes it down to the machine. Needs of the names' part: ab_cl (classes), ab_G (words), ab_df (a class's first values), ab_cl_ok. -/
abbrev ab_C : Type := (FieldType × vp_A) ⊕ (Nat × List Value)
abbrev ab_L : Type := List (Nat × Value)
/-- an instruction as the paths read it: itself, its length, two numbers, the place of its word, a constant -/
abbrev ab_I : Type := Instr × Nat × Nat × Nat × Nat × Int32
/-- pc, locals, operands, heap, cells and slots made -/
abbrev ab_F : Type := Nat × ab_L × List Value × List ab_C × Nat × Nat
abbrev ab_S : Type := Option (Nat × (Nat → Int32))
def ab_v (ad : Nat → Nat) (v : Value) : Value := match v with
  | .ref k => .ref (ad k)
  | w => w
def ab_l (ad : Nat → Nat) (L : ab_L) : List (Nat × Value) := L.map fun q => (q.1, ab_v ad q.2)
def ab_e (ad : Nat → Nat) (ca : FieldType → ClassId) (x : ab_C) : va_E := match x with
  | .inl a => .inl (ca a.1, a.2)
  | .inr o => .inr (o.1, o.2.map (ab_v ad))
def ab_w (ad : Nat → Nat) (ca : FieldType → ClassId) (h : List ab_C) : va_W := h.mapIdx fun k x => (ad (k + 1), ab_e ad ca x)
def ab_tys (ca : FieldType → ClassId) : List (ClassId × FieldType) := [(ca .int, .int), (ca .long, .long), (ca .boolean, .boolean)]
theorem ab_v_cat (ad : Nat → Nat) (v : Value) : (ab_v ad v).category = v.category := by cases v <;> rfl
theorem ab_v_sum (ad : Nat → Nat) (st : List Value) : ((st.map (ab_v ad)).map fun v => v.category).sum = (st.map fun v => v.category).sum := by
  rw [List.map_map]
  congr 1
  exact List.map_congr_left fun v _ => ab_v_cat ad v
theorem ab_w_at {ad : Nat → Nat} {ca : FieldType → ClassId} {h : List ab_C} {k : Nat} {x : ab_C} (hk : h[k]? = some x) : (ab_w ad ca h)[k]? = some (ad (k + 1), ab_e ad ca x) := by
  unfold ab_w
  rw [List.getElem?_mapIdx, hk]
  rfl
theorem ab_w_set (ad : Nat → Nat) (ca : FieldType → ClassId) (h : List ab_C) (k : Nat) (x : ab_C) : (ab_w ad ca h).set k (ad (k + 1), ab_e ad ca x) = ab_w ad ca (h.set k x) := by
  unfold ab_w
  exact List.mapIdx_set.symm
theorem ab_w_push (ad : Nat → Nat) (ca : FieldType → ClassId) (h : List ab_C) (x : ab_C) : ab_w ad ca (h ++ [x]) = ab_w ad ca h ++ [(ad (h.length + 1), ab_e ad ca x)] := by
  unfold ab_w
  exact List.mapIdx_concat
-- references that are told of
def ab_wv (n : Nat) (v : Value) : Bool := match v with
  | .ref k => Nat.ble k n
  | _ => true
def ab_wc (n : Nat) (x : ab_C) : Bool := match x with
  | .inl _ => true
  | .inr o => o.2.all (ab_wv n)
def ab_wf (n : Nat) (L : ab_L) (st : List Value) (h : List ab_C) : Bool := L.all (fun q => ab_wv n q.2) && (st.all (ab_wv n) && h.all (ab_wc n))
theorem ab_v_eq {n : Nat} {v : Value} {ad ad' : Nat → Nat} (hw : ab_wv n v = true) (ha : ∀ k, k ≤ n → ad' k = ad k) : ab_v ad' v = ab_v ad v := by
  cases v <;> first | rfl | skip
  case ref k =>
    show Value.ref (ad' k) = Value.ref (ad k)
    rw [ha k (Nat.le_of_ble_eq_true hw)]
theorem ab_l_eq {n : Nat} {L : ab_L} {ad ad' : Nat → Nat} (hw : L.all (fun q => ab_wv n q.2) = true) (ha : ∀ k, k ≤ n → ad' k = ad k) : ab_l ad' L = ab_l ad L := by
  unfold ab_l
  refine List.map_congr_left fun q hq => ?_
  rw [ab_v_eq (List.all_eq_true.mp hw q hq) ha]
theorem ab_s_eq {n : Nat} {st : List Value} {ad ad' : Nat → Nat} (hw : st.all (ab_wv n) = true) (ha : ∀ k, k ≤ n → ad' k = ad k) : st.map (ab_v ad') = st.map (ab_v ad) :=
  List.map_congr_left fun v hv => ab_v_eq (List.all_eq_true.mp hw v hv) ha
theorem ab_e_eq {n : Nat} {x : ab_C} {ca : FieldType → ClassId} {ad ad' : Nat → Nat} (hw : ab_wc n x = true) (ha : ∀ k, k ≤ n → ad' k = ad k) : ab_e ad' ca x = ab_e ad ca x := by
  cases x with
  | inl a => rfl
  | inr o =>
    show Sum.inr (o.1, o.2.map (ab_v ad')) = Sum.inr (o.1, o.2.map (ab_v ad))
    rw [ab_s_eq hw ha]
theorem ab_w_eq {h : List ab_C} {ca : FieldType → ClassId} {ad ad' : Nat → Nat} (hw : h.all (ab_wc h.length) = true) (ha : ∀ k, k ≤ h.length → ad' k = ad k) : ab_w ad' ca h = ab_w ad ca h := by
  unfold ab_w
  refine List.mapIdx_eq_mapIdx_iff.mpr fun i hi => ?_
  show (ad' (i + 1), ab_e ad' ca h[i]) = (ad (i + 1), ab_e ad ca h[i])
  rw [ab_e_eq (List.all_eq_true.mp hw _ (List.getElem_mem hi)) ha, ha (i + 1) (by omega)]
-- locals
def ab_get : ab_L → Nat → Option Value
  | [], _ => none
  | q :: r, i => bif Nat.beq q.1 i then some q.2 else ab_get r i
def ab_ins : ab_L → Nat → Value → ab_L
  | [], i, v => [(i, v)]
  | q :: r, i, v => bif Nat.blt q.1 i then q :: ab_ins r i v else (i, v) :: q :: r
def ab_set1 (L : ab_L) (i : Nat) (v : Value) : ab_L := ab_ins (L.filter fun q => !(q.1 == i) && !(q.1 + 1 == i && q.2.category == 2)) i v
def ab_set2 (L : ab_L) (i : Nat) (v : Value) : ab_L := ab_ins (L.filter fun q => !(q.1 == i) && (!(q.1 == i + 1) && !(q.1 + 1 == i && q.2.category == 2))) i v
theorem ab_get_mem : ∀ (L : ab_L) (i : Nat) (v : Value), ab_get L i = some v → (i, v) ∈ L
  | [], i, v, h => by cases h
  | q :: r, i, v, h => by
    unfold ab_get at h
    cases hq : Nat.beq q.1 i with
    | true =>
      rw [hq] at h
      have h1 : q.2 = v := Option.some.inj h
      have h2 : q.1 = i := Nat.eq_of_beq_eq_true hq
      rw [← h1, ← h2]
      exact List.mem_cons_self
    | false =>
      rw [hq] at h
      exact List.mem_cons_of_mem _ (ab_get_mem r i v h)
theorem ab_ins_mem : ∀ (L : ab_L) (i : Nat) (v : Value) (q : Nat × Value), q ∈ ab_ins L i v → q = (i, v) ∨ q ∈ L
  | [], i, v, q, h => Or.inl (by unfold ab_ins at h; exact List.mem_singleton.mp h)
  | a :: r, i, v, q, h => by
    unfold ab_ins at h
    cases hq : Nat.blt a.1 i with
    | true =>
      rw [hq] at h
      rcases List.mem_cons.mp h with h | h
      · exact Or.inr (by rw [h]; exact List.mem_cons_self)
      · rcases ab_ins_mem r i v q h with h | h
        · exact Or.inl h
        · exact Or.inr (List.mem_cons_of_mem _ h)
    | false =>
      rw [hq] at h
      rcases List.mem_cons.mp h with h | h
      · exact Or.inl h
      · exact Or.inr h
theorem ab_at {ls : Array Slot} {nL i : Nat} {L : ab_L} {ad : Nat → Nat} {v : Value} (hl : lv_has ls nL (ab_l ad L)) (hg : ab_get L i = some v) : ls[i]? = some (.val (ab_v ad v)) :=
  hl.2.2 (i, ab_v ad v) (List.mem_map.mpr ⟨(i, v), ab_get_mem L i v hg, rfl⟩)
theorem ab_l_set1 {ls : Array Slot} {nL i : Nat} {L : ab_L} {ad : Nat → Nat} {v w : Value} (hv : ab_v ad v = w) (h : lv_has ls nL ((i, w) :: (ab_l ad L).filter (fun q => !(q.1 == i) && !(q.1 + 1 == i && q.2.category == 2)))) : lv_has ls nL (ab_l ad (ab_set1 L i v)) := by
  subst hv
  refine ⟨h.1, h.2.1, fun q hq => h.2.2 q ?_⟩
  obtain ⟨q0, h0, rfl⟩ := List.mem_map.mp hq
  rcases ab_ins_mem _ _ _ _ h0 with rfl | h0
  · exact List.mem_cons_self
  · obtain ⟨h1, h2⟩ := List.mem_filter.mp h0
    refine List.mem_cons_of_mem _ (List.mem_filter.mpr ⟨List.mem_map.mpr ⟨q0, h1, rfl⟩, ?_⟩)
    show (!(q0.1 == i) && !(q0.1 + 1 == i && (ab_v ad q0.2).category == 2)) = true
    rw [ab_v_cat]
    exact h2
theorem ab_l_set2 {ls : Array Slot} {nL i : Nat} {L : ab_L} {ad : Nat → Nat} {v w : Value} (hv : ab_v ad v = w) (h : lv_has ls nL ((i, w) :: (ab_l ad L).filter (fun q => !(q.1 == i) && (!(q.1 == i + 1) && !(q.1 + 1 == i && q.2.category == 2))))) : lv_has ls nL (ab_l ad (ab_set2 L i v)) := by
  subst hv
  refine ⟨h.1, h.2.1, fun q hq => h.2.2 q ?_⟩
  obtain ⟨q0, h0, rfl⟩ := List.mem_map.mp hq
  rcases ab_ins_mem _ _ _ _ h0 with rfl | h0
  · exact List.mem_cons_self
  · obtain ⟨h1, h2⟩ := List.mem_filter.mp h0
    refine List.mem_cons_of_mem _ (List.mem_filter.mpr ⟨List.mem_map.mpr ⟨q0, h1, rfl⟩, ?_⟩)
    show (!(q0.1 == i) && (!(q0.1 == i + 1) && !(q0.1 + 1 == i && (ab_v ad q0.2).category == 2))) = true
    rw [ab_v_cat]
    exact h2
end
section
/-! THE TABLE OF A METHOD, and one step of a path -/
def ab_in (w : Cond) (pos : Nat) : Bool := decide (lw_tbl[pos]? = some w) && goodWord w
theorem ab_in_mem {w : Cond} {pos : Nat} (h : ab_in w pos = true) : w ∈ ab_G := by
  unfold ab_in at h
  rw [Bool.and_eq_true, decide_eq_true_eq] at h
  exact List.mem_filter.mpr ⟨List.mem_of_getElem? h.1, h.2⟩
def ab_len (n : Nat) : Instr → Nat
  | .bipush _ | .ldc _ | .iload _ | .lload _ | .aload _ | .istore _ | .lstore _ | .astore _ | .newarray _ => 2
  | .sipush _ | .iinc _ _ | .ifCond _ _ | .if_icmp _ _ | .goto _ | .getfield _ | .putfield _ | .new _ | .invokespecial _ | .invokestatic _ | .invokevirtual _ => 3
  | .tableswitch _ _ _ _ => n
  | _ => 1
def ab_chk (own : String) (cc : ByteArray) (nL : Nat) (ini : Bool) (q : Nat × ab_I) : Bool :=
  match q with
  | (pc, ins, len, x, y, pos, v) => decide (decode cc pc = .ok (ins, ab_len len ins)) && match ins with
    | .iconst n => decide (Int32.ofInt n = v)
    | .bipush n => decide ((Int8.ofInt n).toInt32 = v)
    | .sipush n => decide ((Int16.ofInt n).toInt32 = v)
    | .ldc n => Nat.beq x 1 || ab_in (.constant own n v) pos
    | .iload k => Nat.beq k x
    | .lload k => Nat.beq k x
    | .aload k => Nat.beq k x
    | .iload_n k => Nat.beq k.val x
    | .lload_n k => Nat.beq k.val x
    | .aload_n k => Nat.beq k.val x
    | .istore k => Nat.beq k x && Nat.blt x nL
    | .astore k => Nat.beq k x && Nat.blt x nL
    | .istore_n k => Nat.beq k.val x && Nat.blt x nL
    | .astore_n k => Nat.beq k.val x && Nat.blt x nL
    | .lstore k => Nat.beq k x && Nat.blt (x + 1) nL
    | .lstore_n k => Nat.beq k.val x && Nat.blt (x + 1) nL
    | .iinc k n => Nat.beq k x && (Nat.blt x nL && decide (Int32.ofInt n = v))
    | .ifCond _ off => decide ((pc : Int) + off = (x : Int))
    | .if_icmp _ off => decide ((pc : Int) + off = (x : Int))
    | .goto off => decide ((pc : Int) + off = (x : Int))
    | .getfield n => match ab_cl[x]? with
      | some (_, T, N) => Nat.blt y N && ab_in (.fieldLink own n (T y).1 (T y).2.1 (T y).2.2.1) pos
      | none => false
    | .putfield n => match ab_cl[x]? with
      | some (_, T, N) => Nat.blt y N && (ab_in (.fieldLink own n (T y).1 (T y).2.1 (T y).2.2.1) pos && (!(T y).2.2.2 || (ini && decide ((T y).1 = own))))
      | none => false
    | .new n => match ab_cl[x]? with
      | some (C, _, N) => ab_in (.classLink own n C) pos && (ab_in (.instantiable C N) y && ab_in (.initialized C) len)
      | none => Nat.beq x 99
    | .newarray a => ab_in (.arrayClass (newarray.typeOf a)) pos
    | .invokestatic n => match x with
      | 1 => ab_in (.methodLink own n Lib.Math.max.name) pos
      | 2 => ab_in (.methodLink own n Lib.Math.min.name) pos
      | 3 => ab_in (.methodLink own n Lib.Math.abs.name) pos
      | _ => true
    | .invokespecial n => match x with
      | 9 => ab_in (.methodLink own n objectInit) pos
      | _ => true
    | _ => true
def ab_fit (t : FieldType) (v : Value) : Bool := match t, v with
  | .int, .int _ => true
  | .long, .long _ => true
  | .object _, .ref _ => true
  | .object _, .null => true
  | .array _, .ref _ => true
  | .array _, .null => true
  | _, _ => false
theorem ab_fit_ok {t : FieldType} {v : Value} (ad : Nat → Nat) (h : ab_fit t v = true) : narrow t (ab_v ad v) = ab_v ad v ∧ fits t (ab_v ad v) = true := by
  cases t <;> cases v <;> first | exact ⟨rfl, rfl⟩ | (exact absurd h (by simp [ab_fit]))
def ab_yes (k : ClassFile.Cond) (x y : Int32) : Prop := match k with
  | .eq => x = y
  | .ne => ¬ x = y
  | .lt => x < y
  | .ge => y ≤ x
  | .gt => y < x
  | .le => x ≤ y
def ab_no (k : ClassFile.Cond) (x y : Int32) : Prop := match k with
  | .eq => ¬ x = y
  | .ne => x = y
  | .lt => ¬ x < y
  | .ge => ¬ y ≤ x
  | .gt => ¬ y < x
  | .le => ¬ x ≤ y
def ab_wt (st : List Value) : Nat := (st.map fun v => v.category).sum
/-- one step: the decisions left, what must hold, the next frame -/
def ab_st (Rc Rs : Nat) (sc : ab_S) (ds : List Nat) (i : ab_I) (F : ab_F) : Option (List Nat × Option Prop × ab_F) :=
  match F, i with
  | (pc, L, st, h, kc, ks), (ins, _, x, y, _, v) => match ins with
    | .iconst _ => some (ds, none, pc + 1, L, .int v :: st, h, kc, ks)
    | .bipush _ => some (ds, none, pc + 2, L, .int v :: st, h, kc, ks)
    | .sipush _ => some (ds, none, pc + 3, L, .int v :: st, h, kc, ks)
    | .ldc _ => bif Nat.beq x 1 then none else some (ds, none, pc + 2, L, .int v :: st, h, kc, ks)
    | .lconst n => some (ds, none, pc + 1, L, .long (Int64.ofNat (n : Nat)) :: st, h, kc, ks)
    | .iload _ => match ab_get L x with
      | some (.int a) => some (ds, none, pc + 2, L, .int a :: st, h, kc, ks)
      | _ => none
    | .iload_n _ => match ab_get L x with
      | some (.int a) => some (ds, none, pc + 1, L, .int a :: st, h, kc, ks)
      | _ => none
    | .lload _ => match ab_get L x with
      | some (.long a) => some (ds, none, pc + 2, L, .long a :: st, h, kc, ks)
      | _ => none
    | .lload_n _ => match ab_get L x with
      | some (.long a) => some (ds, none, pc + 1, L, .long a :: st, h, kc, ks)
      | _ => none
    | .aload _ => match ab_get L x with
      | some (.ref a) => some (ds, none, pc + 2, L, .ref a :: st, h, kc, ks)
      | _ => none
    | .aload_n _ => match ab_get L x with
      | some (.ref a) => some (ds, none, pc + 1, L, .ref a :: st, h, kc, ks)
      | _ => none
    | .istore _ => match st with
      | .int a :: r => some (ds, none, pc + 2, ab_set1 L x (.int a), r, h, kc, ks)
      | _ => none
    | .istore_n _ => match st with
      | .int a :: r => some (ds, none, pc + 1, ab_set1 L x (.int a), r, h, kc, ks)
      | _ => none
    | .astore _ => match st with
      | .ref a :: r => some (ds, none, pc + 2, ab_set1 L x (.ref a), r, h, kc, ks)
      | _ => none
    | .astore_n _ => match st with
      | .ref a :: r => some (ds, none, pc + 1, ab_set1 L x (.ref a), r, h, kc, ks)
      | _ => none
    | .lstore _ => match st with
      | .long a :: r => some (ds, none, pc + 2, ab_set2 L x (.long a), r, h, kc, ks)
      | _ => none
    | .lstore_n _ => match st with
      | .long a :: r => some (ds, none, pc + 1, ab_set2 L x (.long a), r, h, kc, ks)
      | _ => none
    | .iinc _ _ => match ab_get L x with
      | some (.int a) => some (ds, none, pc + 3, ab_set1 L x (.int (a + v)), st, h, kc, ks)
      | _ => none
    | .iadd => match st with
      | .int b :: .int a :: r => some (ds, none, pc + 1, L, .int (a + b) :: r, h, kc, ks)
      | _ => none
    | .isub => match st with
      | .int b :: .int a :: r => some (ds, none, pc + 1, L, .int (a - b) :: r, h, kc, ks)
      | _ => none
    | .imul => match st with
      | .int b :: .int a :: r => some (ds, none, pc + 1, L, .int (a * b) :: r, h, kc, ks)
      | _ => none
    | .idiv => match st with
      | .int b :: .int a :: r => some (ds, some (¬ b = 0), pc + 1, L, .int (a / b) :: r, h, kc, ks)
      | _ => none
    | .irem => match st with
      | .int b :: .int a :: r => some (ds, some (¬ b = 0), pc + 1, L, .int (a - a / b * b) :: r, h, kc, ks)
      | _ => none
    | .ineg => match st with
      | .int a :: r => some (ds, none, pc + 1, L, .int (-a) :: r, h, kc, ks)
      | _ => none
    | .iand => match st with
      | .int b :: .int a :: r => some (ds, none, pc + 1, L, .int (a &&& b) :: r, h, kc, ks)
      | _ => none
    | .ior => match st with
      | .int b :: .int a :: r => some (ds, none, pc + 1, L, .int (a ||| b) :: r, h, kc, ks)
      | _ => none
    | .ixor => match st with
      | .int b :: .int a :: r => some (ds, none, pc + 1, L, .int (a ^^^ b) :: r, h, kc, ks)
      | _ => none
    | .ishl => match st with
      | .int b :: .int a :: r => some (ds, none, pc + 1, L, .int (a <<< (b &&& 31)) :: r, h, kc, ks)
      | _ => none
    | .ishr => match st with
      | .int b :: .int a :: r => some (ds, none, pc + 1, L, .int (a >>> (b &&& 31)) :: r, h, kc, ks)
      | _ => none
    | .iushr => match st with
      | .int b :: .int a :: r => some (ds, none, pc + 1, L, .int ((a.toUInt32 >>> (b.toUInt32 &&& Int32.toUInt32 31)).toInt32) :: r, h, kc, ks)
      | _ => none
    | .ladd => match st with
      | .long b :: .long a :: r => some (ds, none, pc + 1, L, .long (a + b) :: r, h, kc, ks)
      | _ => none
    | .lsub => match st with
      | .long b :: .long a :: r => some (ds, none, pc + 1, L, .long (a - b) :: r, h, kc, ks)
      | _ => none
    | .land => match st with
      | .long b :: .long a :: r => some (ds, none, pc + 1, L, .long (a &&& b) :: r, h, kc, ks)
      | _ => none
    | .lor => match st with
      | .long b :: .long a :: r => some (ds, none, pc + 1, L, .long (a ||| b) :: r, h, kc, ks)
      | _ => none
    | .lshl => match st with
      | .int b :: .long a :: r => some (ds, none, pc + 1, L, .long (a <<< (b.toInt64 &&& 63)) :: r, h, kc, ks)
      | _ => none
    | .lshr => match st with
      | .int b :: .long a :: r => some (ds, none, pc + 1, L, .long (a >>> (b.toInt64 &&& 63)) :: r, h, kc, ks)
      | _ => none
    | .lcmp => match st with
      | .long b :: .long a :: r => some (ds, none, pc + 1, L, .int (lg_cmp a b) :: r, h, kc, ks)
      | _ => none
    | .i2l => match st with
      | .int a :: r => some (ds, none, pc + 1, L, .long a.toInt64 :: r, h, kc, ks)
      | _ => none
    | .l2i => match st with
      | .long a :: r => some (ds, none, pc + 1, L, .int a.toInt32 :: r, h, kc, ks)
      | _ => none
    | .dup => match st with
      | a :: r => bif Nat.beq a.category 1 then some (ds, none, pc + 1, L, a :: a :: r, h, kc, ks) else none
      | _ => none
    | .dup_x1 => match st with
      | a :: b :: r => bif Nat.beq a.category 1 && Nat.beq b.category 1 then some (ds, none, pc + 1, L, a :: b :: a :: r, h, kc, ks) else none
      | _ => none
    | .dup2 => match st with
      | a :: b :: r => bif Nat.beq a.category 1 && Nat.beq b.category 1 then some (ds, none, pc + 1, L, a :: b :: a :: b :: r, h, kc, ks) else none
      | _ => none
    | .pop => match st with
      | a :: r => bif Nat.beq a.category 1 then some (ds, none, pc + 1, L, r, h, kc, ks) else none
      | _ => none
    | .goto _ => some (ds, none, x, L, st, h, kc, ks)
    | .ifCond k _ => match st, ds with
      | .int a :: r, 0 :: ds' => some (ds', some (ab_no k a 0), pc + 3, L, r, h, kc, ks)
      | .int a :: r, 1 :: ds' => some (ds', some (ab_yes k a 0), x, L, r, h, kc, ks)
      | _, _ => none
    | .if_icmp k _ => match st, ds with
      | .int b :: .int a :: r, 0 :: ds' => some (ds', some (ab_no k a b), pc + 3, L, r, h, kc, ks)
      | .int b :: .int a :: r, 1 :: ds' => some (ds', some (ab_yes k a b), x, L, r, h, kc, ks)
      | _, _ => none
    | .tableswitch d lo hi offs => match st, ds with
      | .int a :: r, 0 :: ds' => match (pc : Int) + d with
        | .ofNat t => some (ds', some (a.toInt < lo ∨ hi < a.toInt), t, L, r, h, kc, ks)
        | _ => none
      | .int a :: r, (j + 1) :: ds' => match offs[j]? with
        | some off => match (pc : Int) + off with
          | .ofNat t => some (ds', some (a.toInt = lo + j ∧ ¬ hi < a.toInt), t, L, r, h, kc, ks)
          | _ => none
        | none => none
      | _, _ => none
    | .getfield _ => match st with
      | .ref (a + 1) :: r => match h[a]? with
        | some (.inr (ci, fs)) => bif Nat.beq ci x then match fs[y]? with
          | some w => some (ds, none, pc + 3, L, w :: r, h, kc, ks)
          | none => none
          else none
        | _ => none
      | _ => none
    | .putfield _ => match st with
      | w :: .ref (a + 1) :: r => match h[a]? with
        | some (.inr (ci, fs)) => bif Nat.beq ci x && (ab_fit (ab_ft x y) w && Nat.blt y fs.length) then some (ds, none, pc + 3, L, r, h.set a (.inr (ci, fs.set y w)), kc, ks) else none
        | _ => none
      | _ => none
    | .iaload => match st with
      | .int j :: .ref 0 :: r => match sc with
        | some (n, f) => some (ds, some (vp_in j n), pc + 1, L, .int (f j.toNatClampNeg) :: r, h, kc, ks)
        | none => none
      | .int j :: .ref (a + 1) :: r => match h[a]? with
        | some (.inl (.int, n, .inl f)) => some (ds, some (vp_in j n), pc + 1, L, .int (f j.toNatClampNeg) :: r, h, kc, ks)
        | _ => none
      | _ => none
    | .baload => match st with
      | .int j :: .ref (a + 1) :: r => match h[a]? with
        | some (.inl (.boolean, n, .inl f)) => some (ds, some (vp_in j n), pc + 1, L, .int (f j.toNatClampNeg) :: r, h, kc, ks)
        | _ => none
      | _ => none
    | .laload => match st with
      | .int j :: .ref (a + 1) :: r => match h[a]? with
        | some (.inl (.long, n, .inr (.inl f))) => some (ds, some (vp_in j n), pc + 1, L, .long (f j.toNatClampNeg) :: r, h, kc, ks)
        | _ => none
      | _ => none
    | .iastore => match st with
      | .int w :: .int j :: .ref (a + 1) :: r => match h[a]? with
        | some (.inl (.int, n, .inl f)) => some (ds, some (vp_in j n), pc + 1, L, r, h.set a (.inl (.int, n, .inl (upd f j.toNatClampNeg w))), kc, ks)
        | _ => none
      | _ => none
    | .bastore => match st with
      | .int w :: .int j :: .ref (a + 1) :: r => match h[a]? with
        | some (.inl (.boolean, n, .inl f)) => some (ds, some (vp_in j n), pc + 1, L, r, h.set a (.inl (.boolean, n, .inl (upd f j.toNatClampNeg (vp_nar .boolean w)))), kc, ks)
        | _ => none
      | _ => none
    | .lastore => match st with
      | .long w :: .int j :: .ref (a + 1) :: r => match h[a]? with
        | some (.inl (.long, n, .inr (.inl f))) => some (ds, some (vp_in j n), pc + 1, L, r, h.set a (.inl (.long, n, .inr (.inl (vp_updL f j.toNatClampNeg w)))), kc, ks)
        | _ => none
      | _ => none
    | .arraylength => match st with
      | .ref 0 :: r => match sc with
        | some (n, _) => some (ds, none, pc + 1, L, .int (Int32.ofNat n) :: r, h, kc, ks)
        | none => none
      | .ref (a + 1) :: r => match h[a]? with
        | some (.inl (.int, n, _)) => some (ds, none, pc + 1, L, .int (Int32.ofNat n) :: r, h, kc, ks)
        | _ => none
      | _ => none
    | .new _ => match ab_cl[x]? with
      | some (_, _, N) => some (ds, some (ab_wf h.length L st h = true ∧ kc + 1 ≤ Rc ∧ ks + N ≤ Rs), pc + 3, L, .ref (h.length + 1) :: st, h ++ [.inr (x, ab_df x)], kc + 1, ks + N)
      | none => none
    | .newarray a => match st with
      | .int n :: r => match a with
        | .int => some (ds, some (ab_wf h.length L r h = true ∧ ¬ n < 0 ∧ n.toNatClampNeg ≤ 1000000 ∧ kc + 1 ≤ Rc ∧ ks + n.toNatClampNeg ≤ Rs), pc + 2, L, .ref (h.length + 1) :: r, h ++ [.inl (.int, n.toNatClampNeg, .inl fun _ => 0)], kc + 1, ks + n.toNatClampNeg)
        | .long => some (ds, some (ab_wf h.length L r h = true ∧ ¬ n < 0 ∧ n.toNatClampNeg ≤ 1000000 ∧ kc + 1 ≤ Rc ∧ ks + n.toNatClampNeg ≤ Rs), pc + 2, L, .ref (h.length + 1) :: r, h ++ [.inl (.long, n.toNatClampNeg, .inr (.inl fun _ => 0))], kc + 1, ks + n.toNatClampNeg)
        | .boolean => some (ds, some (ab_wf h.length L r h = true ∧ ¬ n < 0 ∧ n.toNatClampNeg ≤ 1000000 ∧ kc + 1 ≤ Rc ∧ ks + n.toNatClampNeg ≤ Rs), pc + 2, L, .ref (h.length + 1) :: r, h ++ [.inl (.boolean, n.toNatClampNeg, .inl fun _ => 0)], kc + 1, ks + n.toNatClampNeg)
        | _ => none
      | _ => none
    | .invokestatic _ => match x, st with
      | 1, .int b :: .int a :: r => bif Nat.ble (ab_wt r) 8 then some (ds, some (kc ≤ Rc ∧ ks ≤ Rs), pc + 3, L, .int (if a < b then b else a) :: r, h, kc, ks) else none
      | 2, .int b :: .int a :: r => bif Nat.ble (ab_wt r) 8 then some (ds, some (kc ≤ Rc ∧ ks ≤ Rs), pc + 3, L, .int (if b < a then b else a) :: r, h, kc, ks) else none
      | 3, .int a :: r => bif Nat.ble (ab_wt r) 8 then some (ds, some (kc ≤ Rc ∧ ks ≤ Rs), pc + 3, L, .int (if 0 ≤ a then a else 0 - a) :: r, h, kc, ks) else none
      | _, _ => none
    | .invokespecial _ => match x, st with
      | 9, .ref _ :: r => bif Nat.ble (ab_wt r) 8 then some (ds, none, pc + 3, L, r, h, kc, ks) else none
      | _, _ => none
    | _ => none
def ab_lk : List (Nat × ab_I) → Nat → Option ab_I
  | [], _ => none
  | q :: r, i => bif Nat.beq q.1 i then some q.2 else ab_lk r i
theorem ab_lk_mem : ∀ (L : List (Nat × ab_I)) (i : Nat) (v : ab_I), ab_lk L i = some v → (i, v) ∈ L
  | [], i, v, h => by cases h
  | q :: r, i, v, h => by
    unfold ab_lk at h
    cases hq : Nat.beq q.1 i with
    | true =>
      rw [hq] at h
      have h1 : q.2 = v := Option.some.inj h
      have h2 : q.1 = i := Nat.eq_of_beq_eq_true hq
      rw [← h1, ← h2]
      exact List.mem_cons_self
    | false =>
      rw [hq] at h
      exact List.mem_cons_of_mem _ (ab_lk_mem r i v h)
/-- a path of k steps -/
def ab_path (cd : List (Nat × ab_I)) (Rc Rs : Nat) (sc : ab_S) : Nat → List Nat → List Prop → ab_F → Option (List Prop × ab_F)
  | 0, _, acc, F => some (acc, F)
  | k + 1, ds, acc, F => match ab_lk cd F.1 with
    | none => none
    | some i => match ab_st Rc Rs sc ds i F with
      | some (ds', none, F') => ab_path cd Rc Rs sc k ds' acc F'
      | some (ds', some P, F') => ab_path cd Rc Rs sc k ds' (P :: acc) F'
      | none => none
def ab_all : List Prop → Prop
  | [] => True
  | [P] => P
  | P :: r => P ∧ ab_all r
end
