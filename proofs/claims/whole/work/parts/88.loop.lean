/-! THE LAW'S LOOP (gen/mkn.py) -/
def cd_La_law : List (Nat × ab_I) := [(0, .new 8, 37, 0, 56, 55, 0), (3, .dup, 0, 0, 0, 0, 0), (4, .invokespecial 68, 0, 0, 0, 57, 0), (7, .astore_n 1, 0, 1, 0, 0, 0), (8, .new 69, 46, 8, 664, 663, 0), (11, .dup, 0, 0, 0, 0, 0), (12, .invokespecial 71, 0, 0, 0, 665, 0), (15, .astore_n 2, 0, 2, 0, 0, 0), (16, .iconst 1, 0, 0, 0, 0, 1), (17, .newarray .long, 0, 0, 0, 124, 0), (19, .astore_n 3, 0, 3, 0, 0, 0), (20, .iconst 0, 0, 0, 0, 0, 0), (21, .istore 4, 0, 4, 0, 0, 0), (23, .iload 4, 0, 4, 0, 0, 0), (25, .aload_n 0, 0, 0, 0, 0, 0), (26, .arraylength, 0, 0, 0, 0, 0), (27, .bipush 6, 0, 0, 0, 0, 6), (29, .isub, 0, 0, 0, 0, 0), (30, .if_icmp .gt 1175, 0, 1205, 0, 0, 0), (33, .aload_n 0, 0, 0, 0, 0, 0), (34, .iload 4, 0, 4, 0, 0, 0), (36, .iaload, 0, 0, 0, 0, 0), (37, .bipush 15, 0, 0, 0, 0, 15), (39, .iand, 0, 0, 0, 0, 0), (40, .tableswitch 1159 0 15 #[80, 184, 197, 241, 297, 377, 464, 524, 627, 683, 751, 819, 887, 955, 1023, 1103], 80, 0, 0, 0, 0), (1199, .iinc 4 6, 0, 4, 0, 0, 6), (1202, .goto (-1179), 0, 23, 0, 0, 0), (1205, .iconst 1, 0, 0, 0, 0, 1), (1206, .ireturn, 0, 0, 0, 0, 0)]
def M_La_law : ab_M := ("FacetSearchLaw", ⟨"FacetSearchLaw", "law", "([I)Z"⟩, code, 7, some .boolean, false, cd_La_law, [])
theorem ok_La_law : ab_Mok M_La_law := by unfold ab_Mok; decide +kernel
set_option maxRecDepth 8000 in
theorem t_La_law_23_1 {X : ab_X} (hX : ab_is X M_La_law) {x4 : Int32} {pd : gt_pd} {sh : gt_sh} {tr : gt_tr} {ru : gt_ru} {qu : gt_qu} {to : gt_to} {al : gt_al} {mt : gt_mt} {mp : gt_mp} {mr : gt_mr} {mq : gt_mq} {mo : gt_mo} {mx : gt_mx} {ou : gt_ou} {sn : Nat} {sf : Nat → Int32} (hs : ab_sc X = some (sn, sf)) {kc ks : Nat} (h1 : ¬ (Int32.ofNat sn) - 6 < x4) (h2 : vp_in x4 sn) (h3 : ((sf (Int32.toNatClampNeg x4)) &&& 15).toInt < 0 ∨ 15 < ((sf (Int32.toNatClampNeg x4)) &&& 15).toInt) (k : ab_W X M_La_law (1199, [(0, .ref 0), (1, .ref 1), (2, .ref 31), (3, .ref 53), (4, .int x4)], [], (hf pd sh tr ru qu to al (hm mt mp mr mq mo mx (ho ou))), kc, ks)) : ab_W X M_La_law (23, [(0, .ref 0), (1, .ref 1), (2, .ref 31), (3, .ref 53), (4, .int x4)], [], (hf pd sh tr ru qu to al (hm mt mp mr mq mo mx (ho ou))), kc, ks) := ab_goS hX ok_La_law hs 12 [0, 0] _ _ rfl (ab_a3 h3 h2 h1) k
set_option maxRecDepth 8000 in
theorem t_La_law_23_2 {X : ab_X} (hX : ab_is X M_La_law) {x4 : Int32} {pd : gt_pd} {sh : gt_sh} {tr : gt_tr} {ru : gt_ru} {qu : gt_qu} {to : gt_to} {al : gt_al} {mt : gt_mt} {mp : gt_mp} {mr : gt_mr} {mq : gt_mq} {mo : gt_mo} {mx : gt_mx} {ou : gt_ou} {sn : Nat} {sf : Nat → Int32} (hs : ab_sc X = some (sn, sf)) {kc ks : Nat} (h1 : ¬ (Int32.ofNat sn) - 6 < x4) (h2 : vp_in x4 sn) (h3 : ((sf (Int32.toNatClampNeg x4)) &&& 15).toInt = 0 + (0 : Nat) ∧ ¬ 15 < ((sf (Int32.toNatClampNeg x4)) &&& 15).toInt) (k : ab_W X M_La_law (120, [(0, .ref 0), (1, .ref 1), (2, .ref 31), (3, .ref 53), (4, .int x4)], [], (hf pd sh tr ru qu to al (hm mt mp mr mq mo mx (ho ou))), kc, ks)) : ab_W X M_La_law (23, [(0, .ref 0), (1, .ref 1), (2, .ref 31), (3, .ref 53), (4, .int x4)], [], (hf pd sh tr ru qu to al (hm mt mp mr mq mo mx (ho ou))), kc, ks) := ab_goS hX ok_La_law hs 12 [0, 1] _ _ rfl (ab_a3 h3 h2 h1) k
set_option maxRecDepth 8000 in
theorem t_La_law_23_3 {X : ab_X} (hX : ab_is X M_La_law) {x4 : Int32} {pd : gt_pd} {sh : gt_sh} {tr : gt_tr} {ru : gt_ru} {qu : gt_qu} {to : gt_to} {al : gt_al} {mt : gt_mt} {mp : gt_mp} {mr : gt_mr} {mq : gt_mq} {mo : gt_mo} {mx : gt_mx} {ou : gt_ou} {sn : Nat} {sf : Nat → Int32} (hs : ab_sc X = some (sn, sf)) {kc ks : Nat} (h1 : ¬ (Int32.ofNat sn) - 6 < x4) (h2 : vp_in x4 sn) (h3 : ((sf (Int32.toNatClampNeg x4)) &&& 15).toInt = 0 + (1 : Nat) ∧ ¬ 15 < ((sf (Int32.toNatClampNeg x4)) &&& 15).toInt) (k : ab_W X M_La_law (224, [(0, .ref 0), (1, .ref 1), (2, .ref 31), (3, .ref 53), (4, .int x4)], [], (hf pd sh tr ru qu to al (hm mt mp mr mq mo mx (ho ou))), kc, ks)) : ab_W X M_La_law (23, [(0, .ref 0), (1, .ref 1), (2, .ref 31), (3, .ref 53), (4, .int x4)], [], (hf pd sh tr ru qu to al (hm mt mp mr mq mo mx (ho ou))), kc, ks) := ab_goS hX ok_La_law hs 12 [0, 2] _ _ rfl (ab_a3 h3 h2 h1) k
set_option maxRecDepth 8000 in
theorem t_La_law_23_4 {X : ab_X} (hX : ab_is X M_La_law) {x4 : Int32} {pd : gt_pd} {sh : gt_sh} {tr : gt_tr} {ru : gt_ru} {qu : gt_qu} {to : gt_to} {al : gt_al} {mt : gt_mt} {mp : gt_mp} {mr : gt_mr} {mq : gt_mq} {mo : gt_mo} {mx : gt_mx} {ou : gt_ou} {sn : Nat} {sf : Nat → Int32} (hs : ab_sc X = some (sn, sf)) {kc ks : Nat} (h1 : ¬ (Int32.ofNat sn) - 6 < x4) (h2 : vp_in x4 sn) (h3 : ((sf (Int32.toNatClampNeg x4)) &&& 15).toInt = 0 + (2 : Nat) ∧ ¬ 15 < ((sf (Int32.toNatClampNeg x4)) &&& 15).toInt) (k : ab_W X M_La_law (237, [(0, .ref 0), (1, .ref 1), (2, .ref 31), (3, .ref 53), (4, .int x4)], [], (hf pd sh tr ru qu to al (hm mt mp mr mq mo mx (ho ou))), kc, ks)) : ab_W X M_La_law (23, [(0, .ref 0), (1, .ref 1), (2, .ref 31), (3, .ref 53), (4, .int x4)], [], (hf pd sh tr ru qu to al (hm mt mp mr mq mo mx (ho ou))), kc, ks) := ab_goS hX ok_La_law hs 12 [0, 3] _ _ rfl (ab_a3 h3 h2 h1) k
set_option maxRecDepth 8000 in
theorem t_La_law_23_5 {X : ab_X} (hX : ab_is X M_La_law) {x4 : Int32} {pd : gt_pd} {sh : gt_sh} {tr : gt_tr} {ru : gt_ru} {qu : gt_qu} {to : gt_to} {al : gt_al} {mt : gt_mt} {mp : gt_mp} {mr : gt_mr} {mq : gt_mq} {mo : gt_mo} {mx : gt_mx} {ou : gt_ou} {sn : Nat} {sf : Nat → Int32} (hs : ab_sc X = some (sn, sf)) {kc ks : Nat} (h1 : ¬ (Int32.ofNat sn) - 6 < x4) (h2 : vp_in x4 sn) (h3 : ((sf (Int32.toNatClampNeg x4)) &&& 15).toInt = 0 + (3 : Nat) ∧ ¬ 15 < ((sf (Int32.toNatClampNeg x4)) &&& 15).toInt) (k : ab_W X M_La_law (281, [(0, .ref 0), (1, .ref 1), (2, .ref 31), (3, .ref 53), (4, .int x4)], [], (hf pd sh tr ru qu to al (hm mt mp mr mq mo mx (ho ou))), kc, ks)) : ab_W X M_La_law (23, [(0, .ref 0), (1, .ref 1), (2, .ref 31), (3, .ref 53), (4, .int x4)], [], (hf pd sh tr ru qu to al (hm mt mp mr mq mo mx (ho ou))), kc, ks) := ab_goS hX ok_La_law hs 12 [0, 4] _ _ rfl (ab_a3 h3 h2 h1) k
set_option maxRecDepth 8000 in
theorem t_La_law_23_6 {X : ab_X} (hX : ab_is X M_La_law) {x4 : Int32} {pd : gt_pd} {sh : gt_sh} {tr : gt_tr} {ru : gt_ru} {qu : gt_qu} {to : gt_to} {al : gt_al} {mt : gt_mt} {mp : gt_mp} {mr : gt_mr} {mq : gt_mq} {mo : gt_mo} {mx : gt_mx} {ou : gt_ou} {sn : Nat} {sf : Nat → Int32} (hs : ab_sc X = some (sn, sf)) {kc ks : Nat} (h1 : ¬ (Int32.ofNat sn) - 6 < x4) (h2 : vp_in x4 sn) (h3 : ((sf (Int32.toNatClampNeg x4)) &&& 15).toInt = 0 + (4 : Nat) ∧ ¬ 15 < ((sf (Int32.toNatClampNeg x4)) &&& 15).toInt) (k : ab_W X M_La_law (337, [(0, .ref 0), (1, .ref 1), (2, .ref 31), (3, .ref 53), (4, .int x4)], [], (hf pd sh tr ru qu to al (hm mt mp mr mq mo mx (ho ou))), kc, ks)) : ab_W X M_La_law (23, [(0, .ref 0), (1, .ref 1), (2, .ref 31), (3, .ref 53), (4, .int x4)], [], (hf pd sh tr ru qu to al (hm mt mp mr mq mo mx (ho ou))), kc, ks) := ab_goS hX ok_La_law hs 12 [0, 5] _ _ rfl (ab_a3 h3 h2 h1) k
set_option maxRecDepth 8000 in
theorem t_La_law_23_7 {X : ab_X} (hX : ab_is X M_La_law) {x4 : Int32} {pd : gt_pd} {sh : gt_sh} {tr : gt_tr} {ru : gt_ru} {qu : gt_qu} {to : gt_to} {al : gt_al} {mt : gt_mt} {mp : gt_mp} {mr : gt_mr} {mq : gt_mq} {mo : gt_mo} {mx : gt_mx} {ou : gt_ou} {sn : Nat} {sf : Nat → Int32} (hs : ab_sc X = some (sn, sf)) {kc ks : Nat} (h1 : ¬ (Int32.ofNat sn) - 6 < x4) (h2 : vp_in x4 sn) (h3 : ((sf (Int32.toNatClampNeg x4)) &&& 15).toInt = 0 + (5 : Nat) ∧ ¬ 15 < ((sf (Int32.toNatClampNeg x4)) &&& 15).toInt) (k : ab_W X M_La_law (417, [(0, .ref 0), (1, .ref 1), (2, .ref 31), (3, .ref 53), (4, .int x4)], [], (hf pd sh tr ru qu to al (hm mt mp mr mq mo mx (ho ou))), kc, ks)) : ab_W X M_La_law (23, [(0, .ref 0), (1, .ref 1), (2, .ref 31), (3, .ref 53), (4, .int x4)], [], (hf pd sh tr ru qu to al (hm mt mp mr mq mo mx (ho ou))), kc, ks) := ab_goS hX ok_La_law hs 12 [0, 6] _ _ rfl (ab_a3 h3 h2 h1) k
set_option maxRecDepth 8000 in
theorem t_La_law_23_8 {X : ab_X} (hX : ab_is X M_La_law) {x4 : Int32} {pd : gt_pd} {sh : gt_sh} {tr : gt_tr} {ru : gt_ru} {qu : gt_qu} {to : gt_to} {al : gt_al} {mt : gt_mt} {mp : gt_mp} {mr : gt_mr} {mq : gt_mq} {mo : gt_mo} {mx : gt_mx} {ou : gt_ou} {sn : Nat} {sf : Nat → Int32} (hs : ab_sc X = some (sn, sf)) {kc ks : Nat} (h1 : ¬ (Int32.ofNat sn) - 6 < x4) (h2 : vp_in x4 sn) (h3 : ((sf (Int32.toNatClampNeg x4)) &&& 15).toInt = 0 + (6 : Nat) ∧ ¬ 15 < ((sf (Int32.toNatClampNeg x4)) &&& 15).toInt) (k : ab_W X M_La_law (504, [(0, .ref 0), (1, .ref 1), (2, .ref 31), (3, .ref 53), (4, .int x4)], [], (hf pd sh tr ru qu to al (hm mt mp mr mq mo mx (ho ou))), kc, ks)) : ab_W X M_La_law (23, [(0, .ref 0), (1, .ref 1), (2, .ref 31), (3, .ref 53), (4, .int x4)], [], (hf pd sh tr ru qu to al (hm mt mp mr mq mo mx (ho ou))), kc, ks) := ab_goS hX ok_La_law hs 12 [0, 7] _ _ rfl (ab_a3 h3 h2 h1) k
set_option maxRecDepth 8000 in
theorem t_La_law_23_9 {X : ab_X} (hX : ab_is X M_La_law) {x4 : Int32} {pd : gt_pd} {sh : gt_sh} {tr : gt_tr} {ru : gt_ru} {qu : gt_qu} {to : gt_to} {al : gt_al} {mt : gt_mt} {mp : gt_mp} {mr : gt_mr} {mq : gt_mq} {mo : gt_mo} {mx : gt_mx} {ou : gt_ou} {sn : Nat} {sf : Nat → Int32} (hs : ab_sc X = some (sn, sf)) {kc ks : Nat} (h1 : ¬ (Int32.ofNat sn) - 6 < x4) (h2 : vp_in x4 sn) (h3 : ((sf (Int32.toNatClampNeg x4)) &&& 15).toInt = 0 + (7 : Nat) ∧ ¬ 15 < ((sf (Int32.toNatClampNeg x4)) &&& 15).toInt) (k : ab_W X M_La_law (564, [(0, .ref 0), (1, .ref 1), (2, .ref 31), (3, .ref 53), (4, .int x4)], [], (hf pd sh tr ru qu to al (hm mt mp mr mq mo mx (ho ou))), kc, ks)) : ab_W X M_La_law (23, [(0, .ref 0), (1, .ref 1), (2, .ref 31), (3, .ref 53), (4, .int x4)], [], (hf pd sh tr ru qu to al (hm mt mp mr mq mo mx (ho ou))), kc, ks) := ab_goS hX ok_La_law hs 12 [0, 8] _ _ rfl (ab_a3 h3 h2 h1) k
set_option maxRecDepth 8000 in
theorem t_La_law_23_10 {X : ab_X} (hX : ab_is X M_La_law) {x4 : Int32} {pd : gt_pd} {sh : gt_sh} {tr : gt_tr} {ru : gt_ru} {qu : gt_qu} {to : gt_to} {al : gt_al} {mt : gt_mt} {mp : gt_mp} {mr : gt_mr} {mq : gt_mq} {mo : gt_mo} {mx : gt_mx} {ou : gt_ou} {sn : Nat} {sf : Nat → Int32} (hs : ab_sc X = some (sn, sf)) {kc ks : Nat} (h1 : ¬ (Int32.ofNat sn) - 6 < x4) (h2 : vp_in x4 sn) (h3 : ((sf (Int32.toNatClampNeg x4)) &&& 15).toInt = 0 + (8 : Nat) ∧ ¬ 15 < ((sf (Int32.toNatClampNeg x4)) &&& 15).toInt) (k : ab_W X M_La_law (667, [(0, .ref 0), (1, .ref 1), (2, .ref 31), (3, .ref 53), (4, .int x4)], [], (hf pd sh tr ru qu to al (hm mt mp mr mq mo mx (ho ou))), kc, ks)) : ab_W X M_La_law (23, [(0, .ref 0), (1, .ref 1), (2, .ref 31), (3, .ref 53), (4, .int x4)], [], (hf pd sh tr ru qu to al (hm mt mp mr mq mo mx (ho ou))), kc, ks) := ab_goS hX ok_La_law hs 12 [0, 9] _ _ rfl (ab_a3 h3 h2 h1) k
set_option maxRecDepth 8000 in
theorem t_La_law_23_11 {X : ab_X} (hX : ab_is X M_La_law) {x4 : Int32} {pd : gt_pd} {sh : gt_sh} {tr : gt_tr} {ru : gt_ru} {qu : gt_qu} {to : gt_to} {al : gt_al} {mt : gt_mt} {mp : gt_mp} {mr : gt_mr} {mq : gt_mq} {mo : gt_mo} {mx : gt_mx} {ou : gt_ou} {sn : Nat} {sf : Nat → Int32} (hs : ab_sc X = some (sn, sf)) {kc ks : Nat} (h1 : ¬ (Int32.ofNat sn) - 6 < x4) (h2 : vp_in x4 sn) (h3 : ((sf (Int32.toNatClampNeg x4)) &&& 15).toInt = 0 + (9 : Nat) ∧ ¬ 15 < ((sf (Int32.toNatClampNeg x4)) &&& 15).toInt) (k : ab_W X M_La_law (723, [(0, .ref 0), (1, .ref 1), (2, .ref 31), (3, .ref 53), (4, .int x4)], [], (hf pd sh tr ru qu to al (hm mt mp mr mq mo mx (ho ou))), kc, ks)) : ab_W X M_La_law (23, [(0, .ref 0), (1, .ref 1), (2, .ref 31), (3, .ref 53), (4, .int x4)], [], (hf pd sh tr ru qu to al (hm mt mp mr mq mo mx (ho ou))), kc, ks) := ab_goS hX ok_La_law hs 12 [0, 10] _ _ rfl (ab_a3 h3 h2 h1) k
set_option maxRecDepth 8000 in
theorem t_La_law_23_12 {X : ab_X} (hX : ab_is X M_La_law) {x4 : Int32} {pd : gt_pd} {sh : gt_sh} {tr : gt_tr} {ru : gt_ru} {qu : gt_qu} {to : gt_to} {al : gt_al} {mt : gt_mt} {mp : gt_mp} {mr : gt_mr} {mq : gt_mq} {mo : gt_mo} {mx : gt_mx} {ou : gt_ou} {sn : Nat} {sf : Nat → Int32} (hs : ab_sc X = some (sn, sf)) {kc ks : Nat} (h1 : ¬ (Int32.ofNat sn) - 6 < x4) (h2 : vp_in x4 sn) (h3 : ((sf (Int32.toNatClampNeg x4)) &&& 15).toInt = 0 + (10 : Nat) ∧ ¬ 15 < ((sf (Int32.toNatClampNeg x4)) &&& 15).toInt) (k : ab_W X M_La_law (791, [(0, .ref 0), (1, .ref 1), (2, .ref 31), (3, .ref 53), (4, .int x4)], [], (hf pd sh tr ru qu to al (hm mt mp mr mq mo mx (ho ou))), kc, ks)) : ab_W X M_La_law (23, [(0, .ref 0), (1, .ref 1), (2, .ref 31), (3, .ref 53), (4, .int x4)], [], (hf pd sh tr ru qu to al (hm mt mp mr mq mo mx (ho ou))), kc, ks) := ab_goS hX ok_La_law hs 12 [0, 11] _ _ rfl (ab_a3 h3 h2 h1) k
set_option maxRecDepth 8000 in
theorem t_La_law_23_13 {X : ab_X} (hX : ab_is X M_La_law) {x4 : Int32} {pd : gt_pd} {sh : gt_sh} {tr : gt_tr} {ru : gt_ru} {qu : gt_qu} {to : gt_to} {al : gt_al} {mt : gt_mt} {mp : gt_mp} {mr : gt_mr} {mq : gt_mq} {mo : gt_mo} {mx : gt_mx} {ou : gt_ou} {sn : Nat} {sf : Nat → Int32} (hs : ab_sc X = some (sn, sf)) {kc ks : Nat} (h1 : ¬ (Int32.ofNat sn) - 6 < x4) (h2 : vp_in x4 sn) (h3 : ((sf (Int32.toNatClampNeg x4)) &&& 15).toInt = 0 + (11 : Nat) ∧ ¬ 15 < ((sf (Int32.toNatClampNeg x4)) &&& 15).toInt) (k : ab_W X M_La_law (859, [(0, .ref 0), (1, .ref 1), (2, .ref 31), (3, .ref 53), (4, .int x4)], [], (hf pd sh tr ru qu to al (hm mt mp mr mq mo mx (ho ou))), kc, ks)) : ab_W X M_La_law (23, [(0, .ref 0), (1, .ref 1), (2, .ref 31), (3, .ref 53), (4, .int x4)], [], (hf pd sh tr ru qu to al (hm mt mp mr mq mo mx (ho ou))), kc, ks) := ab_goS hX ok_La_law hs 12 [0, 12] _ _ rfl (ab_a3 h3 h2 h1) k
set_option maxRecDepth 8000 in
theorem t_La_law_23_14 {X : ab_X} (hX : ab_is X M_La_law) {x4 : Int32} {pd : gt_pd} {sh : gt_sh} {tr : gt_tr} {ru : gt_ru} {qu : gt_qu} {to : gt_to} {al : gt_al} {mt : gt_mt} {mp : gt_mp} {mr : gt_mr} {mq : gt_mq} {mo : gt_mo} {mx : gt_mx} {ou : gt_ou} {sn : Nat} {sf : Nat → Int32} (hs : ab_sc X = some (sn, sf)) {kc ks : Nat} (h1 : ¬ (Int32.ofNat sn) - 6 < x4) (h2 : vp_in x4 sn) (h3 : ((sf (Int32.toNatClampNeg x4)) &&& 15).toInt = 0 + (12 : Nat) ∧ ¬ 15 < ((sf (Int32.toNatClampNeg x4)) &&& 15).toInt) (k : ab_W X M_La_law (927, [(0, .ref 0), (1, .ref 1), (2, .ref 31), (3, .ref 53), (4, .int x4)], [], (hf pd sh tr ru qu to al (hm mt mp mr mq mo mx (ho ou))), kc, ks)) : ab_W X M_La_law (23, [(0, .ref 0), (1, .ref 1), (2, .ref 31), (3, .ref 53), (4, .int x4)], [], (hf pd sh tr ru qu to al (hm mt mp mr mq mo mx (ho ou))), kc, ks) := ab_goS hX ok_La_law hs 12 [0, 13] _ _ rfl (ab_a3 h3 h2 h1) k
set_option maxRecDepth 8000 in
theorem t_La_law_23_15 {X : ab_X} (hX : ab_is X M_La_law) {x4 : Int32} {pd : gt_pd} {sh : gt_sh} {tr : gt_tr} {ru : gt_ru} {qu : gt_qu} {to : gt_to} {al : gt_al} {mt : gt_mt} {mp : gt_mp} {mr : gt_mr} {mq : gt_mq} {mo : gt_mo} {mx : gt_mx} {ou : gt_ou} {sn : Nat} {sf : Nat → Int32} (hs : ab_sc X = some (sn, sf)) {kc ks : Nat} (h1 : ¬ (Int32.ofNat sn) - 6 < x4) (h2 : vp_in x4 sn) (h3 : ((sf (Int32.toNatClampNeg x4)) &&& 15).toInt = 0 + (13 : Nat) ∧ ¬ 15 < ((sf (Int32.toNatClampNeg x4)) &&& 15).toInt) (k : ab_W X M_La_law (995, [(0, .ref 0), (1, .ref 1), (2, .ref 31), (3, .ref 53), (4, .int x4)], [], (hf pd sh tr ru qu to al (hm mt mp mr mq mo mx (ho ou))), kc, ks)) : ab_W X M_La_law (23, [(0, .ref 0), (1, .ref 1), (2, .ref 31), (3, .ref 53), (4, .int x4)], [], (hf pd sh tr ru qu to al (hm mt mp mr mq mo mx (ho ou))), kc, ks) := ab_goS hX ok_La_law hs 12 [0, 14] _ _ rfl (ab_a3 h3 h2 h1) k
set_option maxRecDepth 8000 in
theorem t_La_law_23_16 {X : ab_X} (hX : ab_is X M_La_law) {x4 : Int32} {pd : gt_pd} {sh : gt_sh} {tr : gt_tr} {ru : gt_ru} {qu : gt_qu} {to : gt_to} {al : gt_al} {mt : gt_mt} {mp : gt_mp} {mr : gt_mr} {mq : gt_mq} {mo : gt_mo} {mx : gt_mx} {ou : gt_ou} {sn : Nat} {sf : Nat → Int32} (hs : ab_sc X = some (sn, sf)) {kc ks : Nat} (h1 : ¬ (Int32.ofNat sn) - 6 < x4) (h2 : vp_in x4 sn) (h3 : ((sf (Int32.toNatClampNeg x4)) &&& 15).toInt = 0 + (14 : Nat) ∧ ¬ 15 < ((sf (Int32.toNatClampNeg x4)) &&& 15).toInt) (k : ab_W X M_La_law (1063, [(0, .ref 0), (1, .ref 1), (2, .ref 31), (3, .ref 53), (4, .int x4)], [], (hf pd sh tr ru qu to al (hm mt mp mr mq mo mx (ho ou))), kc, ks)) : ab_W X M_La_law (23, [(0, .ref 0), (1, .ref 1), (2, .ref 31), (3, .ref 53), (4, .int x4)], [], (hf pd sh tr ru qu to al (hm mt mp mr mq mo mx (ho ou))), kc, ks) := ab_goS hX ok_La_law hs 12 [0, 15] _ _ rfl (ab_a3 h3 h2 h1) k
set_option maxRecDepth 8000 in
theorem t_La_law_23_17 {X : ab_X} (hX : ab_is X M_La_law) {x4 : Int32} {pd : gt_pd} {sh : gt_sh} {tr : gt_tr} {ru : gt_ru} {qu : gt_qu} {to : gt_to} {al : gt_al} {mt : gt_mt} {mp : gt_mp} {mr : gt_mr} {mq : gt_mq} {mo : gt_mo} {mx : gt_mx} {ou : gt_ou} {sn : Nat} {sf : Nat → Int32} (hs : ab_sc X = some (sn, sf)) {kc ks : Nat} (h1 : ¬ (Int32.ofNat sn) - 6 < x4) (h2 : vp_in x4 sn) (h3 : ((sf (Int32.toNatClampNeg x4)) &&& 15).toInt = 0 + (15 : Nat) ∧ ¬ 15 < ((sf (Int32.toNatClampNeg x4)) &&& 15).toInt) (k : ab_W X M_La_law (1143, [(0, .ref 0), (1, .ref 1), (2, .ref 31), (3, .ref 53), (4, .int x4)], [], (hf pd sh tr ru qu to al (hm mt mp mr mq mo mx (ho ou))), kc, ks)) : ab_W X M_La_law (23, [(0, .ref 0), (1, .ref 1), (2, .ref 31), (3, .ref 53), (4, .int x4)], [], (hf pd sh tr ru qu to al (hm mt mp mr mq mo mx (ho ou))), kc, ks) := ab_goS hX ok_La_law hs 12 [0, 16] _ _ rfl (ab_a3 h3 h2 h1) k
set_option maxRecDepth 8000 in
theorem t_La_law_23_18 {X : ab_X} (hX : ab_is X M_La_law) {x4 : Int32} {pd : gt_pd} {sh : gt_sh} {tr : gt_tr} {ru : gt_ru} {qu : gt_qu} {to : gt_to} {al : gt_al} {mt : gt_mt} {mp : gt_mp} {mr : gt_mr} {mq : gt_mq} {mo : gt_mo} {mx : gt_mx} {ou : gt_ou} {sn : Nat} {sf : Nat → Int32} (hs : ab_sc X = some (sn, sf)) {kc ks : Nat} (h1 : (Int32.ofNat sn) - 6 < x4) (k : ab_W X M_La_law (1205, [], [], (hf pd sh tr ru qu to al (hm mt mp mr mq mo mx (ho ou))), kc, ks)) : ab_W X M_La_law (23, [(0, .ref 0), (1, .ref 1), (2, .ref 31), (3, .ref 53), (4, .int x4)], [], (hf pd sh tr ru qu to al (hm mt mp mr mq mo mx (ho ou))), kc, ks) := ab_goS hX ok_La_law hs 6 [1] _ _ rfl (ab_a1 h1) (ab_wk [] rfl k)
set_option maxRecDepth 8000 in
theorem t_La_law_1199_1 {X : ab_X} (hX : ab_is X M_La_law) {x4 : Int32} {pd : gt_pd} {sh : gt_sh} {tr : gt_tr} {ru : gt_ru} {qu : gt_qu} {to : gt_to} {al : gt_al} {mt : gt_mt} {mp : gt_mp} {mr : gt_mr} {mq : gt_mq} {mo : gt_mo} {mx : gt_mx} {ou : gt_ou} {sn : Nat} {sf : Nat → Int32} (hs : ab_sc X = some (sn, sf)) {kc ks : Nat} (k : ab_W X M_La_law (23, [(0, .ref 0), (1, .ref 1), (2, .ref 31), (3, .ref 53), (4, .int (x4 + 6))], [], (hf pd sh tr ru qu to al (hm mt mp mr mq mo mx (ho ou))), kc, ks)) : ab_W X M_La_law (1199, [(0, .ref 0), (1, .ref 1), (2, .ref 31), (3, .ref 53), (4, .int x4)], [], (hf pd sh tr ru qu to al (hm mt mp mr mq mo mx (ho ou))), kc, ks) := ab_goS hX ok_La_law hs 2 [] _ _ rfl (ab_a0) k
set_option maxRecDepth 8000 in
theorem t_La_law_1205_1 {X : ab_X} (hX : ab_is X M_La_law) {pd : gt_pd} {sh : gt_sh} {tr : gt_tr} {ru : gt_ru} {qu : gt_qu} {to : gt_to} {al : gt_al} {mt : gt_mt} {mp : gt_mp} {mr : gt_mr} {mq : gt_mq} {mo : gt_mo} {mx : gt_mx} {ou : gt_ou} {sn : Nat} {sf : Nat → Int32} (hs : ab_sc X = some (sn, sf)) {kc ks : Nat} (k : ab_W X M_La_law (1206, [], [.int 1], (hf pd sh tr ru qu to al (hm mt mp mr mq mo mx (ho ou))), kc, ks)) : ab_W X M_La_law (1205, [], [], (hf pd sh tr ru qu to al (hm mt mp mr mq mo mx (ho ou))), kc, ks) := ab_goS hX ok_La_law hs 1 [] _ _ rfl (ab_a0) k
theorem lw_15 (v : Int32) : ∃ j : Nat, j < 16 ∧ (v &&& 15).toInt = 0 + (j : Nat) := by
  have h : (v &&& 15).toBitVec.toNat < 16 := by
    rw [Int32.toBitVec_and, BitVec.toNat_and]
    exact Nat.lt_of_le_of_lt Nat.and_le_right (by decide)
  refine ⟨(v &&& 15).toBitVec.toNat, h, ?_⟩
  show (v &&& 15).toBitVec.toInt = _
  rw [BitVec.toInt_eq_toNat_of_lt (by omega)]
  omega
theorem lw_cmp {n t : Nat} (hn : n ≤ 3072) (ht : 6 * t ≤ n) : Int32.ofNat n - 6 < nI (6 * t) ↔ n < 6 * t + 6 := by
  by_cases h : 6 ≤ n
  · have e : Int32.ofNat n - 6 = nI (n - 6) := by
      have h9 := nI_add (n - 6) 6
      rw [Nat.sub_add_cancel h] at h9
      show nI n - nI 6 = _
      rw [← h9, Int32.add_sub_cancel]
    rw [e, nI_ltI (by omega) (by omega)]
    omega
  · have h0 : t = 0 := by omega
    subst h0
    have h1 : Int32.ofNat n - 6 < nI (6 * 0) := by
      have : n = 0 ∨ n = 1 ∨ n = 2 ∨ n = 3 ∨ n = 4 ∨ n = 5 := by omega
      rcases this with rfl | rfl | rfl | rfl | rfl | rfl <;> decide
    exact ⟨fun _ => by omega, fun _ => h1⟩
theorem lw_loop {X : ab_X} (hX : ab_is X M_La_law) (hT : ab_T (ab_B X) (ab_s X)) (hl : (X.2.1).stackTraces = false) (hR : ab_rm X = room_1) {sn : Nat} {sf : Nat → Int32} (hs : ab_sc X = some (sn, sf)) (hsn : sn ≤ 3072) {Jn : stF → stM → Prop}
    (j_feed : ∀ (a1 a2 a3 a4 a5 : Int32) c d, Jn c d → jL (X.2.1) Jn 0 M_Fs_feed M_Mo_feed [.int a1, .int a2, .int a3, .int a4, .int a5] [x_ia, x_is] c d)
    (j_clear : ∀ c d, Jn c d → jL (X.2.1) Jn 0 M_Fs_clear M_Mo_clear [] [] c d)
    (j_record : ∀ c d, Jn c d → jL (X.2.1) Jn 0 M_Fs_record M_Mo_record [] [x_is] c d)
    (j_word : ∀ (a1 : Int32) c d, Jn c d → jL (X.2.1) Jn 0 M_Fs_word M_Mo_word [.int a1] [x_ns, x_ia, x_is] c d)
    (j_facet : ∀ (a1 a2 a3 : Int32) c d, Jn c d → jL (X.2.1) Jn 0 M_Fs_facet M_Mo_facet [.int a1, .int a2, .int a3] [x_ns] c d)
    (j_parent : ∀ (a1 a2 a3 : Int32) c d, Jn c d → jL (X.2.1) Jn 1 M_Fs_parent M_Mo_parent [.int a1, .int a2, .int a3] [x_ns] c d)
    (j_span : ∀ (a1 a2 a3 : Int32) c d, Jn c d → jL (X.2.1) Jn 2 M_Fs_span M_Mo_span [.int a1, .int a2, .int a3] [x_ns, x_ia] c d)
    (j_right : ∀ (a1 a2 w : Int32) c d, Jn c d → w = 0 ∨ w = 1 → jL (X.2.1) Jn 1 M_Fs_right M_Mo_right [.int a1, .int a2, .int w] [x_ns] c d)
    (j_ask : ∀ (a1 : Int32) c d, Jn c d → jL (X.2.1) Jn 0 M_Fs_ask M_Mo_ask [.int a1] [x_ns] c d)
    (j_hit : ∀ (a1 a2 : Int32) c d, Jn c d → jL (X.2.1) Jn 0 M_Fs_hit M_Mo_hit [.int a1, .int a2] [x_ns] c d)
    (j_score : ∀ (a1 a2 : Int32) c d, Jn c d → jL (X.2.1) Jn 0 M_Fs_score M_Mo_score [.int a1, .int a2] [x_ns] c d)
    (j_counted : ∀ (a1 a2 : Int32) c d, Jn c d → jL (X.2.1) Jn 0 M_Fs_counted M_Mo_counted [.int a1, .int a2] [x_ns] c d)
    (j_far : ∀ (a1 a2 : Int32) c d, Jn c d → jL (X.2.1) Jn 0 M_Fs_far M_Mo_far [.int a1, .int a2] [x_ns] c d)
    (j_like : ∀ (a1 a2 : Int32) c d, Jn c d → jL (X.2.1) Jn 0 M_Fs_like M_Mo_like [.int a1, .int a2] [x_ns] c d)
    (j_letter : ∀ (a1 a2 a3 : Int32) c d, Jn c d → jL (X.2.1) Jn 0 M_Fs_letter M_Mo_letter [.int a1, .int a2, .int a3] [x_ns] c d)
    (j_count : ∀ (a1 : Int32) c d, Jn c d → jL (X.2.1) Jn 0 M_Fs_count M_Mo_count [.int a1] [x_ia] c d)
    (hend : ∀ (h : List ab_C) (L : ab_L) (kc ks : Nat), kc ≤ 1094 → ks ≤ 15387 → ab_W X M_La_law (1206, L, [.int 1], h, kc, ks)) :
    ∀ (k t kc ks : Nat) (c : stF) (d : stM) (ou : gt_ou), sn / 6 = t + k → kc ≤ 53 + t → ks ≤ 7093 + 6 * t → Jn c d → ab_W X M_La_law (23, [(0, .ref 0), (1, .ref 1), (2, .ref 31), (3, .ref 53), (4, .int (nI (6 * t)))], [], hfc c (hmc d (ho ou)), kc, ks) := by
  intro k
  induction k with
  | zero =>
    intro t kc ks c d ou hk hkc hks hJ
    refine t_La_law_23_18 hX hs ((lw_cmp hsn (by omega)).mpr (by omega)) ?_
    exact t_La_law_1205_1 hX hs (hend _ _ _ _ (by omega) (by omega))
  | succ k ih =>
    intro t kc ks c d ou hk hkc hks hJ
    have hlt : ¬ Int32.ofNat sn - 6 < nI (6 * t) := fun q => by
      have := (lw_cmp hsn (by omega)).mp q
      omega
    have hv0 : vp_in (nI (6 * t)) sn := vp_in_nI (by omega) (by omega)
    have hv : ∀ q, q < 6 → vp_in (nI (6 * t + q)) sn := fun q hq => vp_in_nI (by omega) (by omega)
    have hv1 : vp_in (nI (6 * t) + 1) sn := by rw [nI_1]; exact hv 1 (by omega)
    have hv2 : vp_in (nI (6 * t) + 2) sn := by have h := hv 2 (by omega); rw [← nI_add] at h; exact h
    have hv3 : vp_in (nI (6 * t) + 3) sn := by have h := hv 3 (by omega); rw [← nI_add] at h; exact h
    have hv4 : vp_in (nI (6 * t) + 4) sn := by have h := hv 4 (by omega); rw [← nI_add] at h; exact h
    have hv5 : vp_in (nI (6 * t) + 5) sn := by have h := hv 5 (by omega); rw [← nI_add] at h; exact h
    have hgo : ∀ (c' : stF) (d' : stM) (ou' : gt_ou) (kc' ks' : Nat), kc' ≤ 53 + (t + 1) → ks' ≤ 7093 + 6 * (t + 1) → Jn c' d' → ab_W X M_La_law (1199, [(0, .ref 0), (1, .ref 1), (2, .ref 31), (3, .ref 53), (4, .int (nI (6 * t)))], [], hfc c' (hmc d' (ho ou')), kc', ks') := by
      intro c' d' ou' kc' ks' h1 h2 h3
      refine t_La_law_1199_1 hX hs ?_
      have e : nI (6 * t) + 6 = nI (6 * (t + 1)) := by
        have h := nI_add (6 * t) 6
        exact h
      rw [e]
      exact ih (t + 1) kc' ks' c' d' ou' (by omega) h1 h2 h3
    obtain ⟨j, hj, ej⟩ := lw_15 (sf (Int32.toNatClampNeg (nI (6 * t))))
    have h15 : ¬ 15 < (sf (Int32.toNatClampNeg (nI (6 * t))) &&& 15).toInt := by rw [ej]; omega
    have hcases : j = 0 ∨ j = 1 ∨ j = 2 ∨ j = 3 ∨ j = 4 ∨ j = 5 ∨ j = 6 ∨ j = 7 ∨ j = 8 ∨ j = 9 ∨ j = 10 ∨ j = 11 ∨ j = 12 ∨ j = 13 ∨ j = 14 ∨ j = 15 := by omega
    rcases hcases with rfl | rfl | rfl | rfl | rfl | rfl | rfl | rfl | rfl | rfl | rfl | rfl | rfl | rfl | rfl | rfl
    · refine t_La_law_23_2 hX hs hlt hv0 ⟨ej, h15⟩ ?_
      exact lc_feed (X := X) hX hT hl hR hs (by omega) (by omega) hv1 hv2 hv3 hv4 hv5 (j_feed _ _ _ _ _ c d hJ) (fun c' d' ou' h => hgo c' d' ou' _ _ (by omega) (by omega) h)
    · refine t_La_law_23_3 hX hs hlt hv0 ⟨ej, h15⟩ ?_
      exact lc_clear (X := X) hX hT hl hR hs (by omega) (by omega) (j_clear c d hJ) (fun c' d' ou' h => hgo c' d' ou' _ _ (by omega) (by omega) h)
    · refine t_La_law_23_4 hX hs hlt hv0 ⟨ej, h15⟩ ?_
      exact lc_record (X := X) hX hT hl hR hs (by omega) (by omega)  (j_record c d hJ) (fun c' d' ou' h => hgo c' d' ou' _ _ (by omega) (by omega) h)
    · refine t_La_law_23_5 hX hs hlt hv0 ⟨ej, h15⟩ ?_
      exact lc_word (X := X) hX hT hl hR hs (by omega) (by omega) hv1 (j_word _ c d hJ) (fun c' d' ou' h => hgo c' d' ou' _ _ (by omega) (by omega) h)
    · refine t_La_law_23_6 hX hs hlt hv0 ⟨ej, h15⟩ ?_
      exact lc_facet (X := X) hX hT hl hR hs (by omega) (by omega) hv1 hv2 hv3 (j_facet _ _ _ c d hJ) (fun c' d' ou' h => hgo c' d' ou' _ _ (by omega) (by omega) h)
    · refine t_La_law_23_7 hX hs hlt hv0 ⟨ej, h15⟩ ?_
      exact lc_parent (X := X) hX hT hl hR hs (by omega) (by omega) hv1 hv2 hv3 (j_parent _ _ _ c d hJ) (fun c' d' ou' h => hgo c' d' ou' _ _ (by omega) (by omega) h)
    · refine t_La_law_23_8 hX hs hlt hv0 ⟨ej, h15⟩ ?_
      exact lc_span (X := X) hX hT hl hR hs (by omega) (by omega) hv1 hv2 hv3 (j_span _ _ _ c d hJ) (fun c' d' ou' h => hgo c' d' ou' _ _ (by omega) (by omega) h)
    · refine t_La_law_23_9 hX hs hlt hv0 ⟨ej, h15⟩ ?_
      exact lc_right (X := X) hX hT hl hR hs (by omega) (by omega) hv1 hv2 hv3 (fun w hw => j_right _ _ w c d hJ hw) (fun c' d' ou' h => hgo c' d' ou' _ _ (by omega) (by omega) h)
    · refine t_La_law_23_10 hX hs hlt hv0 ⟨ej, h15⟩ ?_
      exact lc_ask (X := X) hX hT hl hR hs (by omega) (by omega) hv1 (j_ask _ c d hJ) (fun c' d' ou' h => hgo c' d' ou' _ _ (by omega) (by omega) h)
    · refine t_La_law_23_11 hX hs hlt hv0 ⟨ej, h15⟩ ?_
      exact lc_hit (X := X) hX hT hl hR hs (by omega) (by omega) hv1 hv2 (j_hit _ _ c d hJ) (fun c' d' ou' h => hgo c' d' ou' _ _ (by omega) (by omega) h)
    · refine t_La_law_23_12 hX hs hlt hv0 ⟨ej, h15⟩ ?_
      exact lc_score (X := X) hX hT hl hR hs (by omega) (by omega) hv1 hv2 (j_score _ _ c d hJ) (fun c' d' ou' h => hgo c' d' ou' _ _ (by omega) (by omega) h)
    · refine t_La_law_23_13 hX hs hlt hv0 ⟨ej, h15⟩ ?_
      exact lc_counted (X := X) hX hT hl hR hs (by omega) (by omega) hv1 hv2 (j_counted _ _ c d hJ) (fun c' d' ou' h => hgo c' d' ou' _ _ (by omega) (by omega) h)
    · refine t_La_law_23_14 hX hs hlt hv0 ⟨ej, h15⟩ ?_
      exact lc_far (X := X) hX hT hl hR hs (by omega) (by omega) hv1 hv2 (j_far _ _ c d hJ) (fun c' d' ou' h => hgo c' d' ou' _ _ (by omega) (by omega) h)
    · refine t_La_law_23_15 hX hs hlt hv0 ⟨ej, h15⟩ ?_
      exact lc_like (X := X) hX hT hl hR hs (by omega) (by omega) hv1 hv2 (j_like _ _ c d hJ) (fun c' d' ou' h => hgo c' d' ou' _ _ (by omega) (by omega) h)
    · refine t_La_law_23_16 hX hs hlt hv0 ⟨ej, h15⟩ ?_
      exact lc_letter (X := X) hX hT hl hR hs (by omega) (by omega) hv1 hv2 hv3 (j_letter _ _ _ c d hJ) (fun c' d' ou' h => hgo c' d' ou' _ _ (by omega) (by omega) h)
    · refine t_La_law_23_17 hX hs hlt hv0 ⟨ej, h15⟩ ?_
      exact lc_count (X := X) hX hT hl hR hs (by omega) (by omega) hv1 (j_count _ c d hJ) (fun c' d' ou' h => hgo c' d' ou' _ _ (by omega) (by omega) h)
