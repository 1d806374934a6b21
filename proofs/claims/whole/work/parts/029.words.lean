/-! the tables' words that the walks need (laid by wip/whole/genwords.py) -/
theorem am_ck1 {w : Cond} (h : w ∈ tables_1_1) : w ∈ tables_1 := List.mem_append_left _ h
theorem am_ck2 {w : Cond} (h : w ∈ tables_1_2) : w ∈ tables_1 := List.mem_append_right _ (List.mem_append_left _ h)
theorem am_ck3 {w : Cond} (h : w ∈ tables_1_3) : w ∈ tables_1 := List.mem_append_right _ (List.mem_append_right _ (List.mem_append_left _ h))
theorem am_ck4 {w : Cond} (h : w ∈ tables_1_4) : w ∈ tables_1 := List.mem_append_right _ (List.mem_append_right _ (List.mem_append_right _ (List.mem_append_left _ h)))
theorem am_ck5 {w : Cond} (h : w ∈ tables_1_5) : w ∈ tables_1 := List.mem_append_right _ (List.mem_append_right _ (List.mem_append_right _ (List.mem_append_right _ (h))))
theorem am_inT {w : Cond} (h : w ∈ tables_1) (hg : goodWord w = true) : w ∈ am_T := List.mem_filter.mpr ⟨List.mem_append_right _ h, hg⟩
theorem am_cf_0 : am_cf 0 := ⟨rfl, am_ins [162, 164, 166, 168, 170, 172, 174] (by decide +kernel) (by decide +kernel), tyX0_ok, nmX0⟩
theorem am_ok_0 : ∀ j, j < am_N 0 → am_okt (am_ty 0 j) = true := by decide
theorem am_cf_1 : am_cf 1 := ⟨rfl, am_ins [135, 137] (by decide +kernel) (by decide +kernel), tyX2_ok, nmX2⟩
theorem am_ok_1 : ∀ j, j < am_N 1 → am_okt (am_ty 1 j) = true := by decide
theorem am_cf_2 : am_cf 2 := ⟨rfl, am_ins [123] (by decide +kernel) (by decide +kernel), tyX3_ok, nmX3⟩
theorem am_ok_2 : ∀ j, j < am_N 2 → am_okt (am_ty 2 j) = true := by decide
theorem am_cf_3 : am_cf 3 := ⟨rfl, am_ins [227, 229, 231, 233, 235, 237] (by decide +kernel) (by decide +kernel), tyX4_ok, nmX4⟩
theorem am_ok_3 : ∀ j, j < am_N 3 → am_okt (am_ty 3 j) = true := by decide
theorem am_cf_4 : am_cf 4 := ⟨rfl, am_ins [265, 267, 269, 271, 273, 275, 277] (by decide +kernel) (by decide +kernel), tyX5_ok, nmX5⟩
theorem am_ok_4 : ∀ j, j < am_N 4 → am_okt (am_ty 4 j) = true := by decide
theorem am_cf_5 : am_cf 5 := ⟨rfl, am_ins [203, 205, 207, 209, 211] (by decide +kernel) (by decide +kernel), tyX6_ok, nmX6⟩
theorem am_ok_5 : ∀ j, j < am_N 5 → am_okt (am_ty 5 j) = true := by decide
theorem am_cf_6 : am_cf 6 := ⟨rfl, am_ins [95, 97, 99, 101, 103, 105] (by decide +kernel) (by decide +kernel), tyX7_ok, nmX7⟩
theorem am_ok_6 : ∀ j, j < am_N 6 → am_okt (am_ty 6 j) = true := by decide
theorem am_cf_7 : am_cf 7 := ⟨rfl, am_ins [149] (by decide +kernel) (by decide +kernel), tyX8_ok, nmX8⟩
theorem am_ok_7 : ∀ j, j < am_N 7 → am_okt (am_ty 7 j) = true := by decide
theorem am_cf_8 : am_cf 8 := ⟨rfl, am_ins [408, 410, 412, 414] (by decide +kernel) (by decide +kernel), tyX9_ok, nmX9⟩
theorem am_ok_8 : ∀ j, j < am_N 8 → am_okt (am_ty 8 j) = true := by decide
theorem am_cf_9 : am_cf 9 := ⟨rfl, am_ins [787, 789, 791, 793, 795, 797, 799, 801, 803, 805, 807, 809, 811, 813, 815, 817, 819, 821, 823, 825, 827, 829, 831, 833, 835, 837, 839, 841, 843, 845] (by decide +kernel) (by decide +kernel), tyX10_ok, nmX10⟩
theorem am_ok_9 : ∀ j, j < am_N 9 → am_okt (am_ty 9 j) = true := by decide
theorem mb_yX0_init : am_mB yX0_init cX0_init 1 none 0 := ⟨am_in (i := 56) (by decide +kernel) (by decide +kernel), am_inT (am_ck1 (List.mem_of_getElem? (i := 61) rfl)) rfl, ⟨(by decide +kernel), (by decide +kernel), (by decide +kernel)⟩, by decide⟩
theorem im_yX0_init : Cond.instanceMethod yX0_init ∈ am_T := am_in (i := 113) (by decide +kernel) (by decide +kernel)
theorem mb_yX0_forget : am_mB yX0_forget cX0_forget 1 none 0 := ⟨am_in (i := 56) (by decide +kernel) (by decide +kernel), am_inT (am_ck2 (List.mem_of_getElem? (i := 148) rfl)) rfl, ⟨(by decide +kernel), (by decide +kernel), (by decide +kernel)⟩, by decide⟩
theorem im_yX0_forget : Cond.instanceMethod yX0_forget ∈ am_T := am_in (i := 439) (by decide +kernel) (by decide +kernel)
theorem se_yX0_forget : Cond.selects yX0_forget.cls yX0_forget yX0_forget ∈ am_T := am_in (i := 440) (by decide +kernel) (by decide +kernel)
theorem mb_yX0_keysOf : am_mB yX0_keysOf cX0_keysOf 2 (some (FieldType.object "QuadKeys$KeySet")) 1 := ⟨am_in (i := 56) (by decide +kernel) (by decide +kernel), am_inT (am_ck3 (List.mem_of_getElem? (i := 89) rfl)) rfl, ⟨(by decide +kernel), (by decide +kernel), (by decide +kernel)⟩, by decide⟩
theorem im_yX0_keysOf : Cond.instanceMethod yX0_keysOf ∈ am_T := am_in (i := 620) (by decide +kernel) (by decide +kernel)
theorem se_yX0_keysOf : Cond.selects yX0_keysOf.cls yX0_keysOf yX0_keysOf ∈ am_T := am_in (i := 621) (by decide +kernel) (by decide +kernel)
theorem mb_yX0_refresh : am_mB yX0_refresh cX0_refresh 2 none 1 := ⟨am_in (i := 56) (by decide +kernel) (by decide +kernel), am_inT (am_ck2 (List.mem_of_getElem? (i := 238) rfl)) rfl, ⟨(by decide +kernel), (by decide +kernel), (by decide +kernel)⟩, by decide⟩
theorem im_yX0_refresh : Cond.instanceMethod yX0_refresh ∈ am_T := am_in (i := 529) (by decide +kernel) (by decide +kernel)
theorem se_yX0_refresh : Cond.selects yX0_refresh.cls yX0_refresh yX0_refresh ∈ am_T := am_in (i := 530) (by decide +kernel) (by decide +kernel)
theorem mb_yX0_findShape : am_mB yX0_findShape cX0_findShape 5 none 1 := ⟨am_in (i := 56) (by decide +kernel) (by decide +kernel), am_inT (am_ck3 (List.mem_of_getElem? (i := 2) rfl)) rfl, ⟨(by decide +kernel), (by decide +kernel), (by decide +kernel)⟩, by decide⟩
theorem im_yX0_findShape : Cond.instanceMethod yX0_findShape ∈ am_T := am_in (i := 534) (by decide +kernel) (by decide +kernel)
theorem se_yX0_findShape : Cond.selects yX0_findShape.cls yX0_findShape yX0_findShape ∈ am_T := am_in (i := 8) (by decide +kernel) (by decide +kernel)
theorem mb_yX0_findCovers : am_mB yX0_findCovers cX0_findCovers 6 none 1 := ⟨am_in (i := 56) (by decide +kernel) (by decide +kernel), am_inT (am_ck3 (List.mem_of_getElem? (i := 32) rfl)) rfl, ⟨(by decide +kernel), (by decide +kernel), (by decide +kernel)⟩, by decide⟩
theorem im_yX0_findCovers : Cond.instanceMethod yX0_findCovers ∈ am_T := am_in (i := 564) (by decide +kernel) (by decide +kernel)
theorem se_yX0_findCovers : Cond.selects yX0_findCovers.cls yX0_findCovers yX0_findCovers ∈ am_T := am_in (i := 9) (by decide +kernel) (by decide +kernel)
theorem mb_yX0_tileOf : am_mB yX0_tileOf cX0_tileOf 10 (some FieldType.int) 4 := ⟨am_in (i := 56) (by decide +kernel) (by decide +kernel), am_inT (am_ck3 (List.mem_of_getElem? (i := 93) rfl)) rfl, ⟨(by decide +kernel), (by decide +kernel), (by decide +kernel)⟩, by decide⟩
theorem im_yX0_tileOf : Cond.instanceMethod yX0_tileOf ∈ am_T := am_in (i := 624) (by decide +kernel) (by decide +kernel)
theorem se_yX0_tileOf : Cond.selects yX0_tileOf.cls yX0_tileOf yX0_tileOf ∈ am_T := am_in (i := 625) (by decide +kernel) (by decide +kernel)
theorem mb_yX0_widestAt : am_mB yX0_widestAt cX0_widestAt 6 (some FieldType.int) 3 := ⟨am_in (i := 56) (by decide +kernel) (by decide +kernel), am_inT (am_ck3 (List.mem_of_getElem? (i := 96) rfl)) rfl, ⟨(by decide +kernel), (by decide +kernel), (by decide +kernel)⟩, by decide⟩
theorem sm_yX0_widestAt : Cond.static yX0_widestAt ∈ am_T := am_in (i := 628) (by decide +kernel) (by decide +kernel)
theorem mb_yX0_leastCells : am_mB yX0_leastCells cX0_leastCells 3 (some FieldType.int) 2 := ⟨am_in (i := 56) (by decide +kernel) (by decide +kernel), am_inT (am_ck3 (List.mem_of_getElem? (i := 112) rfl)) rfl, ⟨(by decide +kernel), (by decide +kernel), (by decide +kernel)⟩, by decide⟩
theorem im_yX0_leastCells : Cond.instanceMethod yX0_leastCells ∈ am_T := am_in (i := 643) (by decide +kernel) (by decide +kernel)
theorem se_yX0_leastCells : Cond.selects yX0_leastCells.cls yX0_leastCells yX0_leastCells ∈ am_T := am_in (i := 644) (by decide +kernel) (by decide +kernel)
theorem mb_yX1_keyOf : am_mB yX1_keyOf cX1_keyOf 14 (some FieldType.int) 4 := ⟨am_in (i := 68) (by decide +kernel) (by decide +kernel), am_inT (am_ck2 (List.mem_of_getElem? (i := 209) rfl)) rfl, ⟨(by decide +kernel), (by decide +kernel), (by decide +kernel)⟩, by decide⟩
theorem sm_yX1_keyOf : Cond.static yX1_keyOf ∈ am_T := am_in (i := 501) (by decide +kernel) (by decide +kernel)
theorem mb_yX1_placeOf : am_mB yX1_placeOf cX1_placeOf 13 (some FieldType.int) 3 := ⟨am_in (i := 68) (by decide +kernel) (by decide +kernel), am_inT (am_ck2 (List.mem_of_getElem? (i := 223) rfl)) rfl, ⟨(by decide +kernel), (by decide +kernel), (by decide +kernel)⟩, by decide⟩
theorem sm_yX1_placeOf : Cond.static yX1_placeOf ∈ am_T := am_in (i := 515) (by decide +kernel) (by decide +kernel)
theorem mb_yX1_half : am_mB yX1_half cX1_half 2 (some FieldType.int) 2 := ⟨am_in (i := 68) (by decide +kernel) (by decide +kernel), am_inT (am_ck2 (List.mem_of_getElem? (i := 226) rfl)) rfl, ⟨(by decide +kernel), (by decide +kernel), (by decide +kernel)⟩, by decide⟩
theorem sm_yX1_half : Cond.static yX1_half ∈ am_T := am_in (i := 518) (by decide +kernel) (by decide +kernel)
theorem mb_yX1_turnedX : am_mB yX1_turnedX cX1_turnedX 5 (some FieldType.int) 5 := ⟨am_in (i := 68) (by decide +kernel) (by decide +kernel), am_inT (am_ck2 (List.mem_of_getElem? (i := 212) rfl)) rfl, ⟨(by decide +kernel), (by decide +kernel), (by decide +kernel)⟩, by decide⟩
theorem sm_yX1_turnedX : Cond.static yX1_turnedX ∈ am_T := am_in (i := 504) (by decide +kernel) (by decide +kernel)
theorem mb_yX2_init : am_mB yX2_init cX2_init 1 none 0 := ⟨am_in (i := 58) (by decide +kernel) (by decide +kernel), am_inT (am_ck1 (List.mem_of_getElem? (i := 78) rfl)) rfl, ⟨(by decide +kernel), (by decide +kernel), (by decide +kernel)⟩, by decide⟩
theorem im_yX2_init : Cond.instanceMethod yX2_init ∈ am_T := am_in (i := 130) (by decide +kernel) (by decide +kernel)
theorem mb_yX2_filledFor : am_mB yX2_filledFor cX2_filledFor 6 (some FieldType.int) 2 := ⟨am_in (i := 58) (by decide +kernel) (by decide +kernel), am_inT (am_ck3 (List.mem_of_getElem? (i := 159) rfl)) rfl, ⟨(by decide +kernel), (by decide +kernel), (by decide +kernel)⟩, by decide⟩
theorem im_yX2_filledFor : Cond.instanceMethod yX2_filledFor ∈ am_T := am_in (i := 690) (by decide +kernel) (by decide +kernel)
theorem se_yX2_filledFor : Cond.selects yX2_filledFor.cls yX2_filledFor yX2_filledFor ∈ am_T := am_in (i := 691) (by decide +kernel) (by decide +kernel)
theorem mb_yX2_filledBy : am_mB yX2_filledBy cX2_filledBy 6 (some FieldType.int) 2 := ⟨am_in (i := 58) (by decide +kernel) (by decide +kernel), am_inT (am_ck3 (List.mem_of_getElem? (i := 164) rfl)) rfl, ⟨(by decide +kernel), (by decide +kernel), (by decide +kernel)⟩, by decide⟩
theorem im_yX2_filledBy : Cond.instanceMethod yX2_filledBy ∈ am_T := am_in (i := 696) (by decide +kernel) (by decide +kernel)
theorem se_yX2_filledBy : Cond.selects yX2_filledBy.cls yX2_filledBy yX2_filledBy ∈ am_T := am_in (i := 11) (by decide +kernel) (by decide +kernel)
theorem mb_yX3_init : am_mB yX3_init cX3_init 1 none 0 := ⟨am_in (i := 57) (by decide +kernel) (by decide +kernel), am_inT (am_ck1 (List.mem_of_getElem? (i := 67) rfl)) rfl, ⟨(by decide +kernel), (by decide +kernel), (by decide +kernel)⟩, by decide⟩
theorem im_yX3_init : Cond.instanceMethod yX3_init ∈ am_T := am_in (i := 119) (by decide +kernel) (by decide +kernel)
theorem mb_yX3_clear : am_mB yX3_clear cX3_clear 1 none 0 := ⟨am_in (i := 57) (by decide +kernel) (by decide +kernel), am_inT (am_ck3 (List.mem_of_getElem? (i := 6) rfl)) rfl, ⟨(by decide +kernel), (by decide +kernel), (by decide +kernel)⟩, by decide⟩
theorem im_yX3_clear : Cond.instanceMethod yX3_clear ∈ am_T := am_in (i := 537) (by decide +kernel) (by decide +kernel)
theorem se_yX3_clear : Cond.selects yX3_clear.cls yX3_clear yX3_clear ∈ am_T := am_in (i := 538) (by decide +kernel) (by decide +kernel)
theorem mb_yX3_add : am_mB yX3_add cX3_add 2 none 1 := ⟨am_in (i := 57) (by decide +kernel) (by decide +kernel), am_inT (am_ck3 (List.mem_of_getElem? (i := 28) rfl)) rfl, ⟨(by decide +kernel), (by decide +kernel), (by decide +kernel)⟩, by decide⟩
theorem im_yX3_add : Cond.instanceMethod yX3_add ∈ am_T := am_in (i := 559) (by decide +kernel) (by decide +kernel)
theorem se_yX3_add : Cond.selects yX3_add.cls yX3_add yX3_add ∈ am_T := am_in (i := 560) (by decide +kernel) (by decide +kernel)
theorem mb_yX3_addAll : am_mB yX3_addAll cX3_addAll 4 none 2 := ⟨am_in (i := 57) (by decide +kernel) (by decide +kernel), am_inT (am_ck3 (List.mem_of_getElem? (i := 46) rfl)) rfl, ⟨(by decide +kernel), (by decide +kernel), (by decide +kernel)⟩, by decide⟩
theorem im_yX3_addAll : Cond.instanceMethod yX3_addAll ∈ am_T := am_in (i := 577) (by decide +kernel) (by decide +kernel)
theorem se_yX3_addAll : Cond.selects yX3_addAll.cls yX3_addAll yX3_addAll ∈ am_T := am_in (i := 578) (by decide +kernel) (by decide +kernel)
theorem mb_yX3_has : am_mB yX3_has cX3_has 2 (some FieldType.boolean) 1 := ⟨am_in (i := 57) (by decide +kernel) (by decide +kernel), am_inT (am_ck3 (List.mem_of_getElem? (i := 151) rfl)) rfl, ⟨(by decide +kernel), (by decide +kernel), (by decide +kernel)⟩, by decide⟩
theorem im_yX3_has : Cond.instanceMethod yX3_has ∈ am_T := am_in (i := 682) (by decide +kernel) (by decide +kernel)
theorem se_yX3_has : Cond.selects yX3_has.cls yX3_has yX3_has ∈ am_T := am_in (i := 683) (by decide +kernel) (by decide +kernel)
theorem mb_yX3_countIn : am_mB yX3_countIn cX3_countIn 5 (some FieldType.int) 2 := ⟨am_in (i := 57) (by decide +kernel) (by decide +kernel), am_inT (am_ck3 (List.mem_of_getElem? (i := 36) rfl)) rfl, ⟨(by decide +kernel), (by decide +kernel), (by decide +kernel)⟩, by decide⟩
theorem im_yX3_countIn : Cond.instanceMethod yX3_countIn ∈ am_T := am_in (i := 567) (by decide +kernel) (by decide +kernel)
theorem se_yX3_countIn : Cond.selects yX3_countIn.cls yX3_countIn yX3_countIn ∈ am_T := am_in (i := 568) (by decide +kernel) (by decide +kernel)
theorem mb_yX3_runEnd : am_mB yX3_runEnd cX3_runEnd 6 (some FieldType.int) 2 := ⟨am_in (i := 57) (by decide +kernel) (by decide +kernel), am_inT (am_ck3 (List.mem_of_getElem? (i := 147) rfl)) rfl, ⟨(by decide +kernel), (by decide +kernel), (by decide +kernel)⟩, by decide⟩
theorem im_yX3_runEnd : Cond.instanceMethod yX3_runEnd ∈ am_T := am_in (i := 678) (by decide +kernel) (by decide +kernel)
theorem se_yX3_runEnd : Cond.selects yX3_runEnd.cls yX3_runEnd yX3_runEnd ∈ am_T := am_in (i := 679) (by decide +kernel) (by decide +kernel)
theorem mb_yX4_init : am_mB yX4_init cX4_init 1 none 0 := ⟨am_in (i := 62) (by decide +kernel) (by decide +kernel), am_inT (am_ck1 (List.mem_of_getElem? (i := 166) rfl)) rfl, ⟨(by decide +kernel), (by decide +kernel), (by decide +kernel)⟩, by decide⟩
theorem im_yX4_init : Cond.instanceMethod yX4_init ∈ am_T := am_in (i := 218) (by decide +kernel) (by decide +kernel)
theorem mb_yX4_becomeBox : am_mB yX4_becomeBox cX4_becomeBox 6 none 5 := ⟨am_in (i := 62) (by decide +kernel) (by decide +kernel), am_inT (am_ck2 (List.mem_of_getElem? (i := 94) rfl)) rfl, ⟨(by decide +kernel), (by decide +kernel), (by decide +kernel)⟩, by decide⟩
theorem im_yX4_becomeBox : Cond.instanceMethod yX4_becomeBox ∈ am_T := am_in (i := 385) (by decide +kernel) (by decide +kernel)
theorem se_yX4_becomeBox : Cond.selects yX4_becomeBox.cls yX4_becomeBox yX4_becomeBox ∈ am_T := am_in (i := 386) (by decide +kernel) (by decide +kernel)
theorem mb_yX4_becomeDisc : am_mB yX4_becomeDisc cX4_becomeDisc 5 none 4 := ⟨am_in (i := 62) (by decide +kernel) (by decide +kernel), am_inT (am_ck2 (List.mem_of_getElem? (i := 102) rfl)) rfl, ⟨(by decide +kernel), (by decide +kernel), (by decide +kernel)⟩, by decide⟩
theorem im_yX4_becomeDisc : Cond.instanceMethod yX4_becomeDisc ∈ am_T := am_in (i := 393) (by decide +kernel) (by decide +kernel)
theorem se_yX4_becomeDisc : Cond.selects yX4_becomeDisc.cls yX4_becomeDisc yX4_becomeDisc ∈ am_T := am_in (i := 394) (by decide +kernel) (by decide +kernel)
theorem mb_yX4_putsOn : am_mB yX4_putsOn cX4_putsOn 1 (some FieldType.boolean) 0 := ⟨am_in (i := 62) (by decide +kernel) (by decide +kernel), am_inT (am_ck3 (List.mem_of_getElem? (i := 24) rfl)) rfl, ⟨(by decide +kernel), (by decide +kernel), (by decide +kernel)⟩, by decide⟩
theorem im_yX4_putsOn : Cond.instanceMethod yX4_putsOn ∈ am_T := am_in (i := 555) (by decide +kernel) (by decide +kernel)
theorem se_yX4_putsOn : Cond.selects yX4_putsOn.cls yX4_putsOn yX4_putsOn ∈ am_T := am_in (i := 556) (by decide +kernel) (by decide +kernel)
theorem mb_yX4_has : am_mB yX4_has cX4_has 5 (some FieldType.boolean) 2 := ⟨am_in (i := 62) (by decide +kernel) (by decide +kernel), am_inT (am_ck3 (List.mem_of_getElem? (i := 20) rfl)) rfl, ⟨(by decide +kernel), (by decide +kernel), (by decide +kernel)⟩, by decide⟩
theorem im_yX4_has : Cond.instanceMethod yX4_has ∈ am_T := am_in (i := 551) (by decide +kernel) (by decide +kernel)
theorem se_yX4_has : Cond.selects yX4_has.cls yX4_has yX4_has ∈ am_T := am_in (i := 552) (by decide +kernel) (by decide +kernel)
theorem mb_yX5_init : am_mB yX5_init cX5_init 2 none 0 := ⟨am_in (i := 60) (by decide +kernel) (by decide +kernel), am_inT (am_ck1 (List.mem_of_getElem? (i := 128) rfl)) rfl, ⟨(by decide +kernel), (by decide +kernel), (by decide +kernel)⟩, by decide⟩
theorem im_yX5_init : Cond.instanceMethod yX5_init ∈ am_T := am_in (i := 180) (by decide +kernel) (by decide +kernel)
theorem mb_yX5_begin : am_mB yX5_begin cX5_begin 3 none 2 := ⟨am_in (i := 60) (by decide +kernel) (by decide +kernel), am_inT (am_ck1 (List.mem_of_getElem? (i := 190) rfl)) rfl, ⟨(by decide +kernel), (by decide +kernel), (by decide +kernel)⟩, by decide⟩
theorem im_yX5_begin : Cond.instanceMethod yX5_begin ∈ am_T := am_in (i := 241) (by decide +kernel) (by decide +kernel)
theorem se_yX5_begin : Cond.selects yX5_begin.cls yX5_begin yX5_begin ∈ am_T := am_in (i := 242) (by decide +kernel) (by decide +kernel)
theorem mb_yX5_side : am_mB yX5_side cX5_side 1 (some FieldType.int) 0 := ⟨am_in (i := 60) (by decide +kernel) (by decide +kernel), am_inT (am_ck2 (List.mem_of_getElem? (i := 78) rfl)) rfl, ⟨(by decide +kernel), (by decide +kernel), (by decide +kernel)⟩, by decide⟩
theorem im_yX5_side : Cond.instanceMethod yX5_side ∈ am_T := am_in (i := 369) (by decide +kernel) (by decide +kernel)
theorem se_yX5_side : Cond.selects yX5_side.cls yX5_side yX5_side ∈ am_T := am_in (i := 370) (by decide +kernel) (by decide +kernel)
theorem mb_yX5_tileSize : am_mB yX5_tileSize cX5_tileSize 2 (some FieldType.int) 1 := ⟨am_in (i := 60) (by decide +kernel) (by decide +kernel), am_inT (am_ck2 (List.mem_of_getElem? (i := 234) rfl)) rfl, ⟨(by decide +kernel), (by decide +kernel), (by decide +kernel)⟩, by decide⟩
theorem im_yX5_tileSize : Cond.instanceMethod yX5_tileSize ∈ am_T := am_in (i := 525) (by decide +kernel) (by decide +kernel)
theorem se_yX5_tileSize : Cond.selects yX5_tileSize.cls yX5_tileSize yX5_tileSize ∈ am_T := am_in (i := 526) (by decide +kernel) (by decide +kernel)
theorem mb_yX5_tileAround : am_mB yX5_tileAround cX5_tileAround 3 (some FieldType.int) 2 := ⟨am_in (i := 60) (by decide +kernel) (by decide +kernel), am_inT (am_ck3 (List.mem_of_getElem? (i := 61) rfl)) rfl, ⟨(by decide +kernel), (by decide +kernel), (by decide +kernel)⟩, by decide⟩
theorem im_yX5_tileAround : Cond.instanceMethod yX5_tileAround ∈ am_T := am_in (i := 592) (by decide +kernel) (by decide +kernel)
theorem se_yX5_tileAround : Cond.selects yX5_tileAround.cls yX5_tileAround yX5_tileAround ∈ am_T := am_in (i := 593) (by decide +kernel) (by decide +kernel)
theorem mb_yX5_hasCell : am_mB yX5_hasCell cX5_hasCell 3 (some FieldType.boolean) 2 := ⟨am_in (i := 60) (by decide +kernel) (by decide +kernel), am_inT (am_ck2 (List.mem_of_getElem? (i := 170) rfl)) rfl, ⟨(by decide +kernel), (by decide +kernel), (by decide +kernel)⟩, by decide⟩
theorem im_yX5_hasCell : Cond.instanceMethod yX5_hasCell ∈ am_T := am_in (i := 461) (by decide +kernel) (by decide +kernel)
theorem se_yX5_hasCell : Cond.selects yX5_hasCell.cls yX5_hasCell yX5_hasCell ∈ am_T := am_in (i := 462) (by decide +kernel) (by decide +kernel)
theorem mb_yX5_hasTile : am_mB yX5_hasTile cX5_hasTile 3 (some FieldType.boolean) 2 := ⟨am_in (i := 60) (by decide +kernel) (by decide +kernel), am_inT (am_ck2 (List.mem_of_getElem? (i := 220) rfl)) rfl, ⟨(by decide +kernel), (by decide +kernel), (by decide +kernel)⟩, by decide⟩
theorem im_yX5_hasTile : Cond.instanceMethod yX5_hasTile ∈ am_T := am_in (i := 511) (by decide +kernel) (by decide +kernel)
theorem se_yX5_hasTile : Cond.selects yX5_hasTile.cls yX5_hasTile yX5_hasTile ∈ am_T := am_in (i := 512) (by decide +kernel) (by decide +kernel)
theorem mb_yX5_addBox : am_mB yX5_addBox cX5_addBox 6 (some FieldType.boolean) 5 := ⟨am_in (i := 60) (by decide +kernel) (by decide +kernel), am_inT (am_ck2 (List.mem_of_getElem? (i := 90) rfl)) rfl, ⟨(by decide +kernel), (by decide +kernel), (by decide +kernel)⟩, by decide⟩
theorem im_yX5_addBox : Cond.instanceMethod yX5_addBox ∈ am_T := am_in (i := 381) (by decide +kernel) (by decide +kernel)
theorem se_yX5_addBox : Cond.selects yX5_addBox.cls yX5_addBox yX5_addBox ∈ am_T := am_in (i := 382) (by decide +kernel) (by decide +kernel)
theorem mb_yX5_addDisc : am_mB yX5_addDisc cX5_addDisc 5 (some FieldType.boolean) 4 := ⟨am_in (i := 60) (by decide +kernel) (by decide +kernel), am_inT (am_ck2 (List.mem_of_getElem? (i := 98) rfl)) rfl, ⟨(by decide +kernel), (by decide +kernel), (by decide +kernel)⟩, by decide⟩
theorem im_yX5_addDisc : Cond.instanceMethod yX5_addDisc ∈ am_T := am_in (i := 389) (by decide +kernel) (by decide +kernel)
theorem se_yX5_addDisc : Cond.selects yX5_addDisc.cls yX5_addDisc yX5_addDisc ∈ am_T := am_in (i := 390) (by decide +kernel) (by decide +kernel)
theorem mb_yX5_removePart : am_mB yX5_removePart cX5_removePart 4 (some FieldType.boolean) 1 := ⟨am_in (i := 60) (by decide +kernel) (by decide +kernel), am_inT (am_ck2 (List.mem_of_getElem? (i := 185) rfl)) rfl, ⟨(by decide +kernel), (by decide +kernel), (by decide +kernel)⟩, by decide⟩
theorem im_yX5_removePart : Cond.instanceMethod yX5_removePart ∈ am_T := am_in (i := 476) (by decide +kernel) (by decide +kernel)
theorem se_yX5_removePart : Cond.selects yX5_removePart.cls yX5_removePart yX5_removePart ∈ am_T := am_in (i := 477) (by decide +kernel) (by decide +kernel)
theorem mb_yX5_inShape : am_mB yX5_inShape cX5_inShape 4 (some FieldType.boolean) 2 := ⟨am_in (i := 60) (by decide +kernel) (by decide +kernel), am_inT (am_ck3 (List.mem_of_getElem? (i := 16) rfl)) rfl, ⟨(by decide +kernel), (by decide +kernel), (by decide +kernel)⟩, by decide⟩
theorem im_yX5_inShape : Cond.instanceMethod yX5_inShape ∈ am_T := am_in (i := 547) (by decide +kernel) (by decide +kernel)
theorem se_yX5_inShape : Cond.selects yX5_inShape.cls yX5_inShape yX5_inShape ∈ am_T := am_in (i := 548) (by decide +kernel) (by decide +kernel)
theorem mb_yX5_pointsIn : am_mB yX5_pointsIn cX5_pointsIn 5 (some FieldType.int) 2 := ⟨am_in (i := 60) (by decide +kernel) (by decide +kernel), am_inT (am_ck3 (List.mem_of_getElem? (i := 52) rfl)) rfl, ⟨(by decide +kernel), (by decide +kernel), (by decide +kernel)⟩, by decide⟩
theorem im_yX5_pointsIn : Cond.instanceMethod yX5_pointsIn ∈ am_T := am_in (i := 583) (by decide +kernel) (by decide +kernel)
theorem se_yX5_pointsIn : Cond.selects yX5_pointsIn.cls yX5_pointsIn yX5_pointsIn ∈ am_T := am_in (i := 584) (by decide +kernel) (by decide +kernel)
theorem mb_yX5_pointsAmong : am_mB yX5_pointsAmong cX5_pointsAmong 4 (some FieldType.int) 1 := ⟨am_in (i := 60) (by decide +kernel) (by decide +kernel), am_inT (am_ck3 (List.mem_of_getElem? (i := 195) rfl)) rfl, ⟨(by decide +kernel), (by decide +kernel), (by decide +kernel)⟩, by decide⟩
theorem im_yX5_pointsAmong : Cond.instanceMethod yX5_pointsAmong ∈ am_T := am_in (i := 726) (by decide +kernel) (by decide +kernel)
theorem se_yX5_pointsAmong : Cond.selects yX5_pointsAmong.cls yX5_pointsAmong yX5_pointsAmong ∈ am_T := am_in (i := 727) (by decide +kernel) (by decide +kernel)
theorem mb_yX5_pointsInShape : am_mB yX5_pointsInShape cX5_pointsInShape 3 (some FieldType.int) 0 := ⟨am_in (i := 60) (by decide +kernel) (by decide +kernel), am_inT (am_ck3 (List.mem_of_getElem? (i := 190) rfl)) rfl, ⟨(by decide +kernel), (by decide +kernel), (by decide +kernel)⟩, by decide⟩
theorem im_yX5_pointsInShape : Cond.instanceMethod yX5_pointsInShape ∈ am_T := am_in (i := 721) (by decide +kernel) (by decide +kernel)
theorem se_yX5_pointsInShape : Cond.selects yX5_pointsInShape.cls yX5_pointsInShape yX5_pointsInShape ∈ am_T := am_in (i := 722) (by decide +kernel) (by decide +kernel)
theorem mb_yX5_pointInShape : am_mB yX5_pointInShape cX5_pointInShape 5 (some FieldType.int) 1 := ⟨am_in (i := 60) (by decide +kernel) (by decide +kernel), am_inT (am_ck3 (List.mem_of_getElem? (i := 204) rfl)) rfl, ⟨(by decide +kernel), (by decide +kernel), (by decide +kernel)⟩, by decide⟩
theorem im_yX5_pointInShape : Cond.instanceMethod yX5_pointInShape ∈ am_T := am_in (i := 735) (by decide +kernel) (by decide +kernel)
theorem se_yX5_pointInShape : Cond.selects yX5_pointInShape.cls yX5_pointInShape yX5_pointInShape ∈ am_T := am_in (i := 736) (by decide +kernel) (by decide +kernel)
theorem mb_yX5_pointKey : am_mB yX5_pointKey cX5_pointKey 2 (some FieldType.int) 1 := ⟨am_in (i := 60) (by decide +kernel) (by decide +kernel), am_inT (am_ck3 (List.mem_of_getElem? (i := 56) rfl)) rfl, ⟨(by decide +kernel), (by decide +kernel), (by decide +kernel)⟩, by decide⟩
theorem im_yX5_pointKey : Cond.instanceMethod yX5_pointKey ∈ am_T := am_in (i := 588) (by decide +kernel) (by decide +kernel)
theorem se_yX5_pointKey : Cond.selects yX5_pointKey.cls yX5_pointKey yX5_pointKey ∈ am_T := am_in (i := 10) (by decide +kernel) (by decide +kernel)
theorem mb_yX6_init : am_mB yX6_init cX6_init 1 none 0 := ⟨am_in (i := 61) (by decide +kernel) (by decide +kernel), am_inT (am_ck1 (List.mem_of_getElem? (i := 134) rfl)) rfl, ⟨(by decide +kernel), (by decide +kernel), (by decide +kernel)⟩, by decide⟩
theorem im_yX6_init : Cond.instanceMethod yX6_init ∈ am_T := am_in (i := 186) (by decide +kernel) (by decide +kernel)
theorem mb_yX6_has : am_mB yX6_has cX6_has 2 (some FieldType.boolean) 1 := ⟨am_in (i := 61) (by decide +kernel) (by decide +kernel), am_inT (am_ck2 (List.mem_of_getElem? (i := 202) rfl)) rfl, ⟨(by decide +kernel), (by decide +kernel), (by decide +kernel)⟩, by decide⟩
theorem im_yX6_has : Cond.instanceMethod yX6_has ∈ am_T := am_in (i := 493) (by decide +kernel) (by decide +kernel)
theorem se_yX6_has : Cond.selects yX6_has.cls yX6_has yX6_has ∈ am_T := am_in (i := 494) (by decide +kernel) (by decide +kernel)
theorem mb_yX6_add : am_mB yX6_add cX6_add 3 (some FieldType.boolean) 2 := ⟨am_in (i := 61) (by decide +kernel) (by decide +kernel), am_inT (am_ck2 (List.mem_of_getElem? (i := 86) rfl)) rfl, ⟨(by decide +kernel), (by decide +kernel), (by decide +kernel)⟩, by decide⟩
theorem im_yX6_add : Cond.instanceMethod yX6_add ∈ am_T := am_in (i := 377) (by decide +kernel) (by decide +kernel)
theorem se_yX6_add : Cond.selects yX6_add.cls yX6_add yX6_add ∈ am_T := am_in (i := 378) (by decide +kernel) (by decide +kernel)
theorem mb_yX6_remove : am_mB yX6_remove cX6_remove 3 (some FieldType.boolean) 1 := ⟨am_in (i := 61) (by decide +kernel) (by decide +kernel), am_inT (am_ck2 (List.mem_of_getElem? (i := 198) rfl)) rfl, ⟨(by decide +kernel), (by decide +kernel), (by decide +kernel)⟩, by decide⟩
theorem im_yX6_remove : Cond.instanceMethod yX6_remove ∈ am_T := am_in (i := 489) (by decide +kernel) (by decide +kernel)
theorem se_yX6_remove : Cond.selects yX6_remove.cls yX6_remove yX6_remove ∈ am_T := am_in (i := 490) (by decide +kernel) (by decide +kernel)
theorem mb_yX6_arrange : am_mB yX6_arrange cX6_arrange 5 none 2 := ⟨am_in (i := 61) (by decide +kernel) (by decide +kernel), am_inT (am_ck3 (List.mem_of_getElem? (i := 173) rfl)) rfl, ⟨(by decide +kernel), (by decide +kernel), (by decide +kernel)⟩, by decide⟩
theorem im_yX6_arrange : Cond.instanceMethod yX6_arrange ∈ am_T := am_in (i := 704) (by decide +kernel) (by decide +kernel)
theorem se_yX6_arrange : Cond.selects yX6_arrange.cls yX6_arrange yX6_arrange ∈ am_T := am_in (i := 705) (by decide +kernel) (by decide +kernel)
theorem mb_yX6_rankOf : am_mB yX6_rankOf cX6_rankOf 3 (some FieldType.int) 1 := ⟨am_in (i := 61) (by decide +kernel) (by decide +kernel), am_inT (am_ck3 (List.mem_of_getElem? (i := 178) rfl)) rfl, ⟨(by decide +kernel), (by decide +kernel), (by decide +kernel)⟩, by decide⟩
theorem im_yX6_rankOf : Cond.instanceMethod yX6_rankOf ∈ am_T := am_in (i := 709) (by decide +kernel) (by decide +kernel)
theorem se_yX6_rankOf : Cond.selects yX6_rankOf.cls yX6_rankOf yX6_rankOf ∈ am_T := am_in (i := 710) (by decide +kernel) (by decide +kernel)
theorem mb_yX6_nearestTo : am_mB yX6_nearestTo cX6_nearestTo 9 (some FieldType.int) 2 := ⟨am_in (i := 61) (by decide +kernel) (by decide +kernel), am_inT (am_ck3 (List.mem_of_getElem? (i := 213) rfl)) rfl, ⟨(by decide +kernel), (by decide +kernel), (by decide +kernel)⟩, by decide⟩
theorem im_yX6_nearestTo : Cond.instanceMethod yX6_nearestTo ∈ am_T := am_in (i := 744) (by decide +kernel) (by decide +kernel)
theorem se_yX6_nearestTo : Cond.selects yX6_nearestTo.cls yX6_nearestTo yX6_nearestTo ∈ am_T := am_in (i := 745) (by decide +kernel) (by decide +kernel)
theorem mb_yX7_init : am_mB yX7_init cX7_init 1 none 0 := ⟨am_in (i := 55) (by decide +kernel) (by decide +kernel), am_inT (am_ck1 (List.mem_of_getElem? (i := 31) rfl)) rfl, ⟨(by decide +kernel), (by decide +kernel), (by decide +kernel)⟩, by decide⟩
theorem im_yX7_init : Cond.instanceMethod yX7_init ∈ am_T := am_in (i := 83) (by decide +kernel) (by decide +kernel)
theorem mb_yX7_append : am_mB yX7_append cX7_append 2 (some FieldType.boolean) 1 := ⟨am_in (i := 55) (by decide +kernel) (by decide +kernel), am_inT (am_ck2 (List.mem_of_getElem? (i := 39) rfl)) rfl, ⟨(by decide +kernel), (by decide +kernel), (by decide +kernel)⟩, by decide⟩
theorem im_yX7_append : Cond.instanceMethod yX7_append ∈ am_T := am_in (i := 330) (by decide +kernel) (by decide +kernel)
theorem se_yX7_append : Cond.selects yX7_append.cls yX7_append yX7_append ∈ am_T := am_in (i := 331) (by decide +kernel) (by decide +kernel)
theorem mb_yX7_clear : am_mB yX7_clear cX7_clear 1 none 0 := ⟨am_in (i := 55) (by decide +kernel) (by decide +kernel), am_inT (am_ck2 (List.mem_of_getElem? (i := 110) rfl)) rfl, ⟨(by decide +kernel), (by decide +kernel), (by decide +kernel)⟩, by decide⟩
theorem im_yX7_clear : Cond.instanceMethod yX7_clear ∈ am_T := am_in (i := 401) (by decide +kernel) (by decide +kernel)
theorem se_yX7_clear : Cond.selects yX7_clear.cls yX7_clear yX7_clear ∈ am_T := am_in (i := 402) (by decide +kernel) (by decide +kernel)
theorem mb_yX7_blameEmptiness : am_mB yX7_blameEmptiness cX7_blameEmptiness 1 none 0 := ⟨am_in (i := 55) (by decide +kernel) (by decide +kernel), am_inT (am_ck2 (List.mem_of_getElem? (i := 144) rfl)) rfl, ⟨(by decide +kernel), (by decide +kernel), (by decide +kernel)⟩, by decide⟩
theorem im_yX7_blameEmptiness : Cond.instanceMethod yX7_blameEmptiness ∈ am_T := am_in (i := 435) (by decide +kernel) (by decide +kernel)
theorem se_yX7_blameEmptiness : Cond.selects yX7_blameEmptiness.cls yX7_blameEmptiness yX7_blameEmptiness ∈ am_T := am_in (i := 436) (by decide +kernel) (by decide +kernel)
theorem mb_yX7_readInto : am_mB yX7_readInto cX7_readInto 5 (some FieldType.int) 1 := ⟨am_in (i := 55) (by decide +kernel) (by decide +kernel), am_inT (am_ck2 (List.mem_of_getElem? (i := 43) rfl)) rfl, ⟨(by decide +kernel), (by decide +kernel), (by decide +kernel)⟩, by decide⟩
theorem im_yX7_readInto : Cond.instanceMethod yX7_readInto ∈ am_T := am_in (i := 334) (by decide +kernel) (by decide +kernel)
theorem se_yX7_readInto : Cond.selects yX7_readInto.cls yX7_readInto yX7_readInto ∈ am_T := am_in (i := 335) (by decide +kernel) (by decide +kernel)
theorem mb_yX7_blame : am_mB yX7_blame cX7_blame 4 none 2 := ⟨am_in (i := 55) (by decide +kernel) (by decide +kernel), am_inT (am_ck2 (List.mem_of_getElem? (i := 106) rfl)) rfl, ⟨(by decide +kernel), (by decide +kernel), (by decide +kernel)⟩, by decide⟩
theorem im_yX7_blame : Cond.instanceMethod yX7_blame ∈ am_T := am_in (i := 398) (by decide +kernel) (by decide +kernel)
theorem se_yX7_blame : Cond.selects yX7_blame.cls yX7_blame yX7_blame ∈ am_T := am_in (i := 7) (by decide +kernel) (by decide +kernel)
theorem mb_yX7_readItem : am_mB yX7_readItem cX7_readItem 8 (some FieldType.int) 2 := ⟨am_in (i := 55) (by decide +kernel) (by decide +kernel), am_inT (am_ck2 (List.mem_of_getElem? (i := 48) rfl)) rfl, ⟨(by decide +kernel), (by decide +kernel), (by decide +kernel)⟩, by decide⟩
theorem im_yX7_readItem : Cond.instanceMethod yX7_readItem ∈ am_T := am_in (i := 340) (by decide +kernel) (by decide +kernel)
theorem se_yX7_readItem : Cond.selects yX7_readItem.cls yX7_readItem yX7_readItem ∈ am_T := am_in (i := 0) (by decide +kernel) (by decide +kernel)
theorem mb_yX7_readKind : am_mB yX7_readKind cX7_readKind 3 (some FieldType.char) 0 := ⟨am_in (i := 55) (by decide +kernel) (by decide +kernel), am_inT (am_ck2 (List.mem_of_getElem? (i := 56) rfl)) rfl, ⟨(by decide +kernel), (by decide +kernel), (by decide +kernel)⟩, by decide⟩
theorem im_yX7_readKind : Cond.instanceMethod yX7_readKind ∈ am_T := am_in (i := 348) (by decide +kernel) (by decide +kernel)
theorem se_yX7_readKind : Cond.selects yX7_readKind.cls yX7_readKind yX7_readKind ∈ am_T := am_in (i := 2) (by decide +kernel) (by decide +kernel)
theorem mb_yX7_mayStand : am_mB yX7_mayStand cX7_mayStand 4 (some FieldType.boolean) 3 := ⟨am_in (i := 55) (by decide +kernel) (by decide +kernel), am_inT (am_ck2 (List.mem_of_getElem? (i := 60) rfl)) rfl, ⟨(by decide +kernel), (by decide +kernel), (by decide +kernel)⟩, by decide⟩
theorem im_yX7_mayStand : Cond.instanceMethod yX7_mayStand ∈ am_T := am_in (i := 352) (by decide +kernel) (by decide +kernel)
theorem se_yX7_mayStand : Cond.selects yX7_mayStand.cls yX7_mayStand yX7_mayStand ∈ am_T := am_in (i := 3) (by decide +kernel) (by decide +kernel)
theorem mb_yX7_readNumber : am_mB yX7_readNumber cX7_readNumber 5 (some FieldType.int) 2 := ⟨am_in (i := 55) (by decide +kernel) (by decide +kernel), am_inT (am_ck2 (List.mem_of_getElem? (i := 64) rfl)) rfl, ⟨(by decide +kernel), (by decide +kernel), (by decide +kernel)⟩, by decide⟩
theorem im_yX7_readNumber : Cond.instanceMethod yX7_readNumber ∈ am_T := am_in (i := 356) (by decide +kernel) (by decide +kernel)
theorem se_yX7_readNumber : Cond.selects yX7_readNumber.cls yX7_readNumber yX7_readNumber ∈ am_T := am_in (i := 4) (by decide +kernel) (by decide +kernel)
theorem mb_yX7_isTold : am_mB yX7_isTold cX7_isTold 5 (some FieldType.boolean) 3 := ⟨am_in (i := 55) (by decide +kernel) (by decide +kernel), am_inT (am_ck2 (List.mem_of_getElem? (i := 71) rfl)) rfl, ⟨(by decide +kernel), (by decide +kernel), (by decide +kernel)⟩, by decide⟩
theorem im_yX7_isTold : Cond.instanceMethod yX7_isTold ∈ am_T := am_in (i := 363) (by decide +kernel) (by decide +kernel)
theorem se_yX7_isTold : Cond.selects yX7_isTold.cls yX7_isTold yX7_isTold ∈ am_T := am_in (i := 5) (by decide +kernel) (by decide +kernel)
theorem mb_yX7_put : am_mB yX7_put cX7_put 4 none 3 := ⟨am_in (i := 55) (by decide +kernel) (by decide +kernel), am_inT (am_ck2 (List.mem_of_getElem? (i := 82) rfl)) rfl, ⟨(by decide +kernel), (by decide +kernel), (by decide +kernel)⟩, by decide⟩
theorem im_yX7_put : Cond.instanceMethod yX7_put ∈ am_T := am_in (i := 374) (by decide +kernel) (by decide +kernel)
theorem se_yX7_put : Cond.selects yX7_put.cls yX7_put yX7_put ∈ am_T := am_in (i := 6) (by decide +kernel) (by decide +kernel)
theorem mb_yX7_letterHere : am_mB yX7_letterHere cX7_letterHere 1 (some FieldType.char) 0 := ⟨am_in (i := 55) (by decide +kernel) (by decide +kernel), am_inT (am_ck2 (List.mem_of_getElem? (i := 52) rfl)) rfl, ⟨(by decide +kernel), (by decide +kernel), (by decide +kernel)⟩, by decide⟩
theorem im_yX7_letterHere : Cond.instanceMethod yX7_letterHere ∈ am_T := am_in (i := 344) (by decide +kernel) (by decide +kernel)
theorem se_yX7_letterHere : Cond.selects yX7_letterHere.cls yX7_letterHere yX7_letterHere ∈ am_T := am_in (i := 1) (by decide +kernel) (by decide +kernel)
theorem mb_yX7_isFigure : am_mB yX7_isFigure cX7_isFigure 1 (some FieldType.boolean) 1 := ⟨am_in (i := 55) (by decide +kernel) (by decide +kernel), am_inT (am_ck2 (List.mem_of_getElem? (i := 67) rfl)) rfl, ⟨(by decide +kernel), (by decide +kernel), (by decide +kernel)⟩, by decide⟩
theorem sm_yX7_isFigure : Cond.static yX7_isFigure ∈ am_T := am_in (i := 359) (by decide +kernel) (by decide +kernel)
theorem mb_yX8_init : am_mB yX8_init cX8_init 1 none 0 := ⟨am_in (i := 59) (by decide +kernel) (by decide +kernel), am_inT (am_ck1 (List.mem_of_getElem? (i := 91) rfl)) rfl, ⟨(by decide +kernel), (by decide +kernel), (by decide +kernel)⟩, by decide⟩
theorem im_yX8_init : Cond.instanceMethod yX8_init ∈ am_T := am_in (i := 143) (by decide +kernel) (by decide +kernel)
theorem mb_yX8_weighWorld : am_mB yX8_weighWorld cX8_weighWorld 3 none 2 := ⟨am_in (i := 59) (by decide +kernel) (by decide +kernel), am_inT (am_ck3 (List.mem_of_getElem? (i := 116) rfl)) rfl, ⟨(by decide +kernel), (by decide +kernel), (by decide +kernel)⟩, by decide⟩
theorem im_yX8_weighWorld : Cond.instanceMethod yX8_weighWorld ∈ am_T := am_in (i := 647) (by decide +kernel) (by decide +kernel)
theorem se_yX8_weighWorld : Cond.selects yX8_weighWorld.cls yX8_weighWorld yX8_weighWorld ∈ am_T := am_in (i := 648) (by decide +kernel) (by decide +kernel)
theorem mb_yX8_leastOf : am_mB yX8_leastOf cX8_leastOf 2 (some FieldType.int) 1 := ⟨am_in (i := 59) (by decide +kernel) (by decide +kernel), am_inT (am_ck3 (List.mem_of_getElem? (i := 138) rfl)) rfl, ⟨(by decide +kernel), (by decide +kernel), (by decide +kernel)⟩, by decide⟩
theorem im_yX8_leastOf : Cond.instanceMethod yX8_leastOf ∈ am_T := am_in (i := 669) (by decide +kernel) (by decide +kernel)
theorem se_yX8_leastOf : Cond.selects yX8_leastOf.cls yX8_leastOf yX8_leastOf ∈ am_T := am_in (i := 670) (by decide +kernel) (by decide +kernel)
theorem mb_yX8_weighTile : am_mB yX8_weighTile cX8_weighTile 10 none 5 := ⟨am_in (i := 59) (by decide +kernel) (by decide +kernel), am_inT (am_ck3 (List.mem_of_getElem? (i := 119) rfl)) rfl, ⟨(by decide +kernel), (by decide +kernel), (by decide +kernel)⟩, by decide⟩
theorem sm_yX8_weighTile : Cond.static yX8_weighTile ∈ am_T := am_in (i := 651) (by decide +kernel) (by decide +kernel)
theorem mb_yX8_addRow : am_mB yX8_addRow cX8_addRow 5 none 2 := ⟨am_in (i := 59) (by decide +kernel) (by decide +kernel), am_inT (am_ck3 (List.mem_of_getElem? (i := 128) rfl)) rfl, ⟨(by decide +kernel), (by decide +kernel), (by decide +kernel)⟩, by decide⟩
theorem sm_yX8_addRow : Cond.static yX8_addRow ∈ am_T := am_in (i := 660) (by decide +kernel) (by decide +kernel)
theorem mb_yX8_takeWhole : am_mB yX8_takeWhole cX8_takeWhole 3 none 2 := ⟨am_in (i := 59) (by decide +kernel) (by decide +kernel), am_inT (am_ck3 (List.mem_of_getElem? (i := 134) rfl)) rfl, ⟨(by decide +kernel), (by decide +kernel), (by decide +kernel)⟩, by decide⟩
theorem sm_yX8_takeWhole : Cond.static yX8_takeWhole ∈ am_T := am_in (i := 666) (by decide +kernel) (by decide +kernel)
theorem mb_yX9_init : am_mB yX9_init cX9_init 2 none 0 := ⟨am_in (i := 54) (by decide +kernel) (by decide +kernel), am_inT (am_ck1 (List.mem_of_getElem? (i := 23) rfl)) rfl, ⟨(by decide +kernel), (by decide +kernel), (by decide +kernel)⟩, by decide⟩
theorem im_yX9_init : Cond.instanceMethod yX9_init ∈ am_T := am_in (i := 75) (by decide +kernel) (by decide +kernel)
theorem mb_yX9_write : am_mB yX9_write cX9_write 2 (some FieldType.int) 1 := ⟨am_in (i := 54) (by decide +kernel) (by decide +kernel), am_inT (am_ck2 (List.mem_of_getElem? (i := 128) rfl)) rfl, ⟨(by decide +kernel), (by decide +kernel), (by decide +kernel)⟩, by decide⟩
theorem im_yX9_write : Cond.instanceMethod yX9_write ∈ am_T := am_in (i := 419) (by decide +kernel) (by decide +kernel)
theorem se_yX9_write : Cond.selects yX9_write.cls yX9_write yX9_write ∈ am_T := am_in (i := 420) (by decide +kernel) (by decide +kernel)
theorem mb_yX9_wipe : am_mB yX9_wipe cX9_wipe 2 (some FieldType.int) 0 := ⟨am_in (i := 54) (by decide +kernel) (by decide +kernel), am_inT (am_ck2 (List.mem_of_getElem? (i := 132) rfl)) rfl, ⟨(by decide +kernel), (by decide +kernel), (by decide +kernel)⟩, by decide⟩
theorem im_yX9_wipe : Cond.instanceMethod yX9_wipe ∈ am_T := am_in (i := 423) (by decide +kernel) (by decide +kernel)
theorem se_yX9_wipe : Cond.selects yX9_wipe.cls yX9_wipe yX9_wipe ∈ am_T := am_in (i := 424) (by decide +kernel) (by decide +kernel)
theorem mb_yX9_fault : am_mB yX9_fault cX9_fault 1 (some FieldType.int) 0 := ⟨am_in (i := 54) (by decide +kernel) (by decide +kernel), am_inT (am_ck2 (List.mem_of_getElem? (i := 136) rfl)) rfl, ⟨(by decide +kernel), (by decide +kernel), (by decide +kernel)⟩, by decide⟩
theorem im_yX9_fault : Cond.instanceMethod yX9_fault ∈ am_T := am_in (i := 427) (by decide +kernel) (by decide +kernel)
theorem se_yX9_fault : Cond.selects yX9_fault.cls yX9_fault yX9_fault ∈ am_T := am_in (i := 428) (by decide +kernel) (by decide +kernel)
theorem mb_yX9_lay : am_mB yX9_lay cX9_lay 2 (some FieldType.int) 0 := ⟨am_in (i := 54) (by decide +kernel) (by decide +kernel), am_inT (am_ck2 (List.mem_of_getElem? (i := 140) rfl)) rfl, ⟨(by decide +kernel), (by decide +kernel), (by decide +kernel)⟩, by decide⟩
theorem im_yX9_lay : Cond.instanceMethod yX9_lay ∈ am_T := am_in (i := 431) (by decide +kernel) (by decide +kernel)
theorem se_yX9_lay : Cond.selects yX9_lay.cls yX9_lay yX9_lay ∈ am_T := am_in (i := 432) (by decide +kernel) (by decide +kernel)
theorem mb_yX9_cause : am_mB yX9_cause cX9_cause 2 (some FieldType.int) 1 := ⟨am_in (i := 54) (by decide +kernel) (by decide +kernel), am_inT (am_ck2 (List.mem_of_getElem? (i := 153) rfl)) rfl, ⟨(by decide +kernel), (by decide +kernel), (by decide +kernel)⟩, by decide⟩
theorem im_yX9_cause : Cond.instanceMethod yX9_cause ∈ am_T := am_in (i := 444) (by decide +kernel) (by decide +kernel)
theorem se_yX9_cause : Cond.selects yX9_cause.cls yX9_cause yX9_cause ∈ am_T := am_in (i := 445) (by decide +kernel) (by decide +kernel)
theorem mb_yX9_curve : am_mB yX9_curve cX9_curve 3 (some FieldType.int) 1 := ⟨am_in (i := 54) (by decide +kernel) (by decide +kernel), am_inT (am_ck2 (List.mem_of_getElem? (i := 157) rfl)) rfl, ⟨(by decide +kernel), (by decide +kernel), (by decide +kernel)⟩, by decide⟩
theorem im_yX9_curve : Cond.instanceMethod yX9_curve ∈ am_T := am_in (i := 448) (by decide +kernel) (by decide +kernel)
theorem se_yX9_curve : Cond.selects yX9_curve.cls yX9_curve yX9_curve ∈ am_T := am_in (i := 449) (by decide +kernel) (by decide +kernel)
theorem mb_yX9_levels : am_mB yX9_levels cX9_levels 4 (some FieldType.int) 2 := ⟨am_in (i := 54) (by decide +kernel) (by decide +kernel), am_inT (am_ck2 (List.mem_of_getElem? (i := 162) rfl)) rfl, ⟨(by decide +kernel), (by decide +kernel), (by decide +kernel)⟩, by decide⟩
theorem im_yX9_levels : Cond.instanceMethod yX9_levels ∈ am_T := am_in (i := 453) (by decide +kernel) (by decide +kernel)
theorem se_yX9_levels : Cond.selects yX9_levels.cls yX9_levels yX9_levels ∈ am_T := am_in (i := 454) (by decide +kernel) (by decide +kernel)
theorem mb_yX9_box : am_mB yX9_box cX9_box 6 (some FieldType.int) 5 := ⟨am_in (i := 54) (by decide +kernel) (by decide +kernel), am_inT (am_ck2 (List.mem_of_getElem? (i := 166) rfl)) rfl, ⟨(by decide +kernel), (by decide +kernel), (by decide +kernel)⟩, by decide⟩
theorem im_yX9_box : Cond.instanceMethod yX9_box ∈ am_T := am_in (i := 457) (by decide +kernel) (by decide +kernel)
theorem se_yX9_box : Cond.selects yX9_box.cls yX9_box yX9_box ∈ am_T := am_in (i := 458) (by decide +kernel) (by decide +kernel)
theorem mb_yX9_disc : am_mB yX9_disc cX9_disc 5 (some FieldType.int) 4 := ⟨am_in (i := 54) (by decide +kernel) (by decide +kernel), am_inT (am_ck2 (List.mem_of_getElem? (i := 176) rfl)) rfl, ⟨(by decide +kernel), (by decide +kernel), (by decide +kernel)⟩, by decide⟩
theorem im_yX9_disc : Cond.instanceMethod yX9_disc ∈ am_T := am_in (i := 467) (by decide +kernel) (by decide +kernel)
theorem se_yX9_disc : Cond.selects yX9_disc.cls yX9_disc yX9_disc ∈ am_T := am_in (i := 468) (by decide +kernel) (by decide +kernel)
theorem mb_yX9_drop : am_mB yX9_drop cX9_drop 2 (some FieldType.int) 1 := ⟨am_in (i := 54) (by decide +kernel) (by decide +kernel), am_inT (am_ck2 (List.mem_of_getElem? (i := 181) rfl)) rfl, ⟨(by decide +kernel), (by decide +kernel), (by decide +kernel)⟩, by decide⟩
theorem im_yX9_drop : Cond.instanceMethod yX9_drop ∈ am_T := am_in (i := 472) (by decide +kernel) (by decide +kernel)
theorem se_yX9_drop : Cond.selects yX9_drop.cls yX9_drop yX9_drop ∈ am_T := am_in (i := 473) (by decide +kernel) (by decide +kernel)
theorem mb_yX9_point : am_mB yX9_point cX9_point 3 (some FieldType.int) 2 := ⟨am_in (i := 54) (by decide +kernel) (by decide +kernel), am_inT (am_ck2 (List.mem_of_getElem? (i := 189) rfl)) rfl, ⟨(by decide +kernel), (by decide +kernel), (by decide +kernel)⟩, by decide⟩
theorem im_yX9_point : Cond.instanceMethod yX9_point ∈ am_T := am_in (i := 480) (by decide +kernel) (by decide +kernel)
theorem se_yX9_point : Cond.selects yX9_point.cls yX9_point yX9_point ∈ am_T := am_in (i := 481) (by decide +kernel) (by decide +kernel)
theorem mb_yX9_lift : am_mB yX9_lift cX9_lift 2 (some FieldType.int) 1 := ⟨am_in (i := 54) (by decide +kernel) (by decide +kernel), am_inT (am_ck2 (List.mem_of_getElem? (i := 194) rfl)) rfl, ⟨(by decide +kernel), (by decide +kernel), (by decide +kernel)⟩, by decide⟩
theorem im_yX9_lift : Cond.instanceMethod yX9_lift ∈ am_T := am_in (i := 485) (by decide +kernel) (by decide +kernel)
theorem se_yX9_lift : Cond.selects yX9_lift.cls yX9_lift yX9_lift ∈ am_T := am_in (i := 486) (by decide +kernel) (by decide +kernel)
theorem mb_yX9_key : am_mB yX9_key cX9_key 3 (some FieldType.int) 2 := ⟨am_in (i := 54) (by decide +kernel) (by decide +kernel), am_inT (am_ck2 (List.mem_of_getElem? (i := 206) rfl)) rfl, ⟨(by decide +kernel), (by decide +kernel), (by decide +kernel)⟩, by decide⟩
theorem im_yX9_key : Cond.instanceMethod yX9_key ∈ am_T := am_in (i := 497) (by decide +kernel) (by decide +kernel)
theorem se_yX9_key : Cond.selects yX9_key.cls yX9_key yX9_key ∈ am_T := am_in (i := 498) (by decide +kernel) (by decide +kernel)
theorem mb_yX9_cell : am_mB yX9_cell cX9_cell 3 (some FieldType.int) 2 := ⟨am_in (i := 54) (by decide +kernel) (by decide +kernel), am_inT (am_ck2 (List.mem_of_getElem? (i := 216) rfl)) rfl, ⟨(by decide +kernel), (by decide +kernel), (by decide +kernel)⟩, by decide⟩
theorem im_yX9_cell : Cond.instanceMethod yX9_cell ∈ am_T := am_in (i := 507) (by decide +kernel) (by decide +kernel)
theorem se_yX9_cell : Cond.selects yX9_cell.cls yX9_cell yX9_cell ∈ am_T := am_in (i := 508) (by decide +kernel) (by decide +kernel)
theorem mb_yX9_tile : am_mB yX9_tile cX9_tile 6 (some FieldType.int) 3 := ⟨am_in (i := 54) (by decide +kernel) (by decide +kernel), am_inT (am_ck2 (List.mem_of_getElem? (i := 230) rfl)) rfl, ⟨(by decide +kernel), (by decide +kernel), (by decide +kernel)⟩, by decide⟩
theorem im_yX9_tile : Cond.instanceMethod yX9_tile ∈ am_T := am_in (i := 521) (by decide +kernel) (by decide +kernel)
theorem se_yX9_tile : Cond.selects yX9_tile.cls yX9_tile yX9_tile ∈ am_T := am_in (i := 522) (by decide +kernel) (by decide +kernel)
theorem mb_yX9_beside : am_mB yX9_beside cX9_beside 9 (some FieldType.int) 4 := ⟨am_in (i := 54) (by decide +kernel) (by decide +kernel), am_inT (am_ck3 (List.mem_of_getElem? (i := 65) rfl)) rfl, ⟨(by decide +kernel), (by decide +kernel), (by decide +kernel)⟩, by decide⟩
theorem im_yX9_beside : Cond.instanceMethod yX9_beside ∈ am_T := am_in (i := 596) (by decide +kernel) (by decide +kernel)
theorem se_yX9_beside : Cond.selects yX9_beside.cls yX9_beside yX9_beside ∈ am_T := am_in (i := 597) (by decide +kernel) (by decide +kernel)
theorem mb_yX9_common : am_mB yX9_common cX9_common 8 (some FieldType.int) 4 := ⟨am_in (i := 54) (by decide +kernel) (by decide +kernel), am_inT (am_ck3 (List.mem_of_getElem? (i := 72) rfl)) rfl, ⟨(by decide +kernel), (by decide +kernel), (by decide +kernel)⟩, by decide⟩
theorem im_yX9_common : Cond.instanceMethod yX9_common ∈ am_T := am_in (i := 603) (by decide +kernel) (by decide +kernel)
theorem se_yX9_common : Cond.selects yX9_common.cls yX9_common yX9_common ∈ am_T := am_in (i := 604) (by decide +kernel) (by decide +kernel)
theorem mb_yX9_leaps : am_mB yX9_leaps cX9_leaps 8 (some FieldType.int) 0 := ⟨am_in (i := 54) (by decide +kernel) (by decide +kernel), am_inT (am_ck3 (List.mem_of_getElem? (i := 76) rfl)) rfl, ⟨(by decide +kernel), (by decide +kernel), (by decide +kernel)⟩, by decide⟩
theorem im_yX9_leaps : Cond.instanceMethod yX9_leaps ∈ am_T := am_in (i := 607) (by decide +kernel) (by decide +kernel)
theorem se_yX9_leaps : Cond.selects yX9_leaps.cls yX9_leaps yX9_leaps ∈ am_T := am_in (i := 608) (by decide +kernel) (by decide +kernel)
theorem mb_yX9_in : am_mB yX9_in cX9_in 3 (some FieldType.int) 2 := ⟨am_in (i := 54) (by decide +kernel) (by decide +kernel), am_inT (am_ck3 (List.mem_of_getElem? (i := 80) rfl)) rfl, ⟨(by decide +kernel), (by decide +kernel), (by decide +kernel)⟩, by decide⟩
theorem im_yX9_in : Cond.instanceMethod yX9_in ∈ am_T := am_in (i := 611) (by decide +kernel) (by decide +kernel)
theorem se_yX9_in : Cond.selects yX9_in.cls yX9_in yX9_in ∈ am_T := am_in (i := 612) (by decide +kernel) (by decide +kernel)
theorem mb_yX9_cover : am_mB yX9_cover cX9_cover 4 (some FieldType.int) 3 := ⟨am_in (i := 54) (by decide +kernel) (by decide +kernel), am_inT (am_ck3 (List.mem_of_getElem? (i := 85) rfl)) rfl, ⟨(by decide +kernel), (by decide +kernel), (by decide +kernel)⟩, by decide⟩
theorem im_yX9_cover : Cond.instanceMethod yX9_cover ∈ am_T := am_in (i := 616) (by decide +kernel) (by decide +kernel)
theorem se_yX9_cover : Cond.selects yX9_cover.cls yX9_cover yX9_cover ∈ am_T := am_in (i := 617) (by decide +kernel) (by decide +kernel)
theorem mb_yX9_rest : am_mB yX9_rest cX9_rest 3 (some FieldType.int) 1 := ⟨am_in (i := 54) (by decide +kernel) (by decide +kernel), am_inT (am_ck3 (List.mem_of_getElem? (i := 101) rfl)) rfl, ⟨(by decide +kernel), (by decide +kernel), (by decide +kernel)⟩, by decide⟩
theorem im_yX9_rest : Cond.instanceMethod yX9_rest ∈ am_T := am_in (i := 632) (by decide +kernel) (by decide +kernel)
theorem se_yX9_rest : Cond.selects yX9_rest.cls yX9_rest yX9_rest ∈ am_T := am_in (i := 633) (by decide +kernel) (by decide +kernel)
theorem mb_yX9_best : am_mB yX9_best cX9_best 3 (some FieldType.int) 1 := ⟨am_in (i := 54) (by decide +kernel) (by decide +kernel), am_inT (am_ck3 (List.mem_of_getElem? (i := 108) rfl)) rfl, ⟨(by decide +kernel), (by decide +kernel), (by decide +kernel)⟩, by decide⟩
theorem im_yX9_best : Cond.instanceMethod yX9_best ∈ am_T := am_in (i := 639) (by decide +kernel) (by decide +kernel)
theorem se_yX9_best : Cond.selects yX9_best.cls yX9_best yX9_best ∈ am_T := am_in (i := 640) (by decide +kernel) (by decide +kernel)
theorem mb_yX9_span : am_mB yX9_span cX9_span 4 (some FieldType.int) 3 := ⟨am_in (i := 54) (by decide +kernel) (by decide +kernel), am_inT (am_ck3 (List.mem_of_getElem? (i := 143) rfl)) rfl, ⟨(by decide +kernel), (by decide +kernel), (by decide +kernel)⟩, by decide⟩
theorem im_yX9_span : Cond.instanceMethod yX9_span ∈ am_T := am_in (i := 674) (by decide +kernel) (by decide +kernel)
theorem se_yX9_span : Cond.selects yX9_span.cls yX9_span yX9_span ∈ am_T := am_in (i := 675) (by decide +kernel) (by decide +kernel)
theorem mb_yX9_joined : am_mB yX9_joined cX9_joined 3 (some FieldType.int) 2 := ⟨am_in (i := 54) (by decide +kernel) (by decide +kernel), am_inT (am_ck3 (List.mem_of_getElem? (i := 155) rfl)) rfl, ⟨(by decide +kernel), (by decide +kernel), (by decide +kernel)⟩, by decide⟩
theorem im_yX9_joined : Cond.instanceMethod yX9_joined ∈ am_T := am_in (i := 686) (by decide +kernel) (by decide +kernel)
theorem se_yX9_joined : Cond.selects yX9_joined.cls yX9_joined yX9_joined ∈ am_T := am_in (i := 687) (by decide +kernel) (by decide +kernel)
theorem mb_yX9_at : am_mB yX9_at cX9_at 4 (some FieldType.int) 2 := ⟨am_in (i := 54) (by decide +kernel) (by decide +kernel), am_inT (am_ck3 (List.mem_of_getElem? (i := 168) rfl)) rfl, ⟨(by decide +kernel), (by decide +kernel), (by decide +kernel)⟩, by decide⟩
theorem im_yX9_at : Cond.instanceMethod yX9_at ∈ am_T := am_in (i := 699) (by decide +kernel) (by decide +kernel)
theorem se_yX9_at : Cond.selects yX9_at.cls yX9_at yX9_at ∈ am_T := am_in (i := 700) (by decide +kernel) (by decide +kernel)
theorem mb_yX9_ordered : am_mB yX9_ordered cX9_ordered 2 (some FieldType.int) 1 := ⟨am_in (i := 54) (by decide +kernel) (by decide +kernel), am_inT (am_ck3 (List.mem_of_getElem? (i := 182) rfl)) rfl, ⟨(by decide +kernel), (by decide +kernel), (by decide +kernel)⟩, by decide⟩
theorem im_yX9_ordered : Cond.instanceMethod yX9_ordered ∈ am_T := am_in (i := 713) (by decide +kernel) (by decide +kernel)
theorem se_yX9_ordered : Cond.selects yX9_ordered.cls yX9_ordered yX9_ordered ∈ am_T := am_in (i := 714) (by decide +kernel) (by decide +kernel)
theorem mb_yX9_search : am_mB yX9_search cX9_search 2 (some FieldType.int) 1 := ⟨am_in (i := 54) (by decide +kernel) (by decide +kernel), am_inT (am_ck3 (List.mem_of_getElem? (i := 186) rfl)) rfl, ⟨(by decide +kernel), (by decide +kernel), (by decide +kernel)⟩, by decide⟩
theorem im_yX9_search : Cond.instanceMethod yX9_search ∈ am_T := am_in (i := 717) (by decide +kernel) (by decide +kernel)
theorem se_yX9_search : Cond.selects yX9_search.cls yX9_search yX9_search ∈ am_T := am_in (i := 718) (by decide +kernel) (by decide +kernel)
theorem mb_yX9_found : am_mB yX9_found cX9_found 2 (some FieldType.int) 1 := ⟨am_in (i := 54) (by decide +kernel) (by decide +kernel), am_inT (am_ck3 (List.mem_of_getElem? (i := 200) rfl)) rfl, ⟨(by decide +kernel), (by decide +kernel), (by decide +kernel)⟩, by decide⟩
theorem im_yX9_found : Cond.instanceMethod yX9_found ∈ am_T := am_in (i := 731) (by decide +kernel) (by decide +kernel)
theorem se_yX9_found : Cond.selects yX9_found.cls yX9_found yX9_found ∈ am_T := am_in (i := 732) (by decide +kernel) (by decide +kernel)
theorem mb_yX9_nearest : am_mB yX9_nearest cX9_nearest 3 (some FieldType.int) 2 := ⟨am_in (i := 54) (by decide +kernel) (by decide +kernel), am_inT (am_ck3 (List.mem_of_getElem? (i := 209) rfl)) rfl, ⟨(by decide +kernel), (by decide +kernel), (by decide +kernel)⟩, by decide⟩
theorem im_yX9_nearest : Cond.instanceMethod yX9_nearest ∈ am_T := am_in (i := 740) (by decide +kernel) (by decide +kernel)
theorem se_yX9_nearest : Cond.selects yX9_nearest.cls yX9_nearest yX9_nearest ∈ am_T := am_in (i := 741) (by decide +kernel) (by decide +kernel)
theorem mb_yX9_count : am_mB yX9_count cX9_count 2 (some FieldType.int) 1 := ⟨am_in (i := 54) (by decide +kernel) (by decide +kernel), am_inT (am_ck3 (List.mem_of_getElem? (i := 217) rfl)) rfl, ⟨(by decide +kernel), (by decide +kernel), (by decide +kernel)⟩, by decide⟩
theorem im_yX9_count : Cond.instanceMethod yX9_count ∈ am_T := am_in (i := 748) (by decide +kernel) (by decide +kernel)
theorem se_yX9_count : Cond.selects yX9_count.cls yX9_count yX9_count ∈ am_T := am_in (i := 749) (by decide +kernel) (by decide +kernel)
theorem mb_yX9_isBit : am_mB yX9_isBit cX9_isBit 1 (some FieldType.boolean) 1 := ⟨am_in (i := 54) (by decide +kernel) (by decide +kernel), am_inT (am_ck2 (List.mem_of_getElem? (i := 74) rfl)) rfl, ⟨(by decide +kernel), (by decide +kernel), (by decide +kernel)⟩, by decide⟩
theorem sm_yX9_isBit : Cond.static yX9_isBit ∈ am_T := am_in (i := 366) (by decide +kernel) (by decide +kernel)
theorem mb_yX9_isStep : am_mB yX9_isStep cX9_isStep 1 (some FieldType.boolean) 1 := ⟨am_in (i := 54) (by decide +kernel) (by decide +kernel), am_inT (am_ck3 (List.mem_of_getElem? (i := 68) rfl)) rfl, ⟨(by decide +kernel), (by decide +kernel), (by decide +kernel)⟩, by decide⟩
theorem sm_yX9_isStep : Cond.static yX9_isStep ∈ am_T := am_in (i := 600) (by decide +kernel) (by decide +kernel)
theorem mb_yX10_init : am_mB yX10_init cX10_init 1 none 0 := ⟨am_in (i := 67) (by decide +kernel) (by decide +kernel), am_inT (am_ck3 (List.mem_of_getElem? (i := 222) rfl)) rfl, ⟨(by decide +kernel), (by decide +kernel), (by decide +kernel)⟩, by decide⟩
theorem im_yX10_init : Cond.instanceMethod yX10_init ∈ am_T := am_in (i := 754) (by decide +kernel) (by decide +kernel)
theorem mb_yX10_isIn : am_mB yX10_isIn cX10_isIn 3 (some FieldType.boolean) 3 := ⟨am_in (i := 67) (by decide +kernel) (by decide +kernel), am_inT (am_ck4 (List.mem_of_getElem? (i := 81) rfl)) rfl, ⟨(by decide +kernel), (by decide +kernel), (by decide +kernel)⟩, by decide⟩
theorem sm_yX10_isIn : Cond.static yX10_isIn ∈ am_T := am_in (i := 853) (by decide +kernel) (by decide +kernel)
theorem mb_yX10_side : am_mB yX10_side cX10_side 1 (some FieldType.int) 0 := ⟨am_in (i := 67) (by decide +kernel) (by decide +kernel), am_inT (am_ck4 (List.mem_of_getElem? (i := 149) rfl)) rfl, ⟨(by decide +kernel), (by decide +kernel), (by decide +kernel)⟩, by decide⟩
theorem im_yX10_side : Cond.instanceMethod yX10_side ∈ am_T := am_in (i := 921) (by decide +kernel) (by decide +kernel)
theorem se_yX10_side : Cond.selects yX10_side.cls yX10_side yX10_side ∈ am_T := am_in (i := 25) (by decide +kernel) (by decide +kernel)
theorem mb_yX10_cells : am_mB yX10_cells cX10_cells 1 (some FieldType.int) 0 := ⟨am_in (i := 67) (by decide +kernel) (by decide +kernel), am_inT (am_ck4 (List.mem_of_getElem? (i := 205) rfl)) rfl, ⟨(by decide +kernel), (by decide +kernel), (by decide +kernel)⟩, by decide⟩
theorem im_yX10_cells : Cond.instanceMethod yX10_cells ∈ am_T := am_in (i := 977) (by decide +kernel) (by decide +kernel)
theorem se_yX10_cells : Cond.selects yX10_cells.cls yX10_cells yX10_cells ∈ am_T := am_in (i := 29) (by decide +kernel) (by decide +kernel)
theorem mb_yX10_isCell : am_mB yX10_isCell cX10_isCell 3 (some FieldType.boolean) 2 := ⟨am_in (i := 67) (by decide +kernel) (by decide +kernel), am_inT (am_ck4 (List.mem_of_getElem? (i := 169) rfl)) rfl, ⟨(by decide +kernel), (by decide +kernel), (by decide +kernel)⟩, by decide⟩
theorem im_yX10_isCell : Cond.instanceMethod yX10_isCell ∈ am_T := am_in (i := 941) (by decide +kernel) (by decide +kernel)
theorem se_yX10_isCell : Cond.selects yX10_isCell.cls yX10_isCell yX10_isCell ∈ am_T := am_in (i := 26) (by decide +kernel) (by decide +kernel)
theorem mb_yX10_write : am_mB yX10_write cX10_write 2 (some FieldType.int) 1 := ⟨am_in (i := 67) (by decide +kernel) (by decide +kernel), am_inT (am_ck4 (List.mem_of_getElem? (i := 78) rfl)) rfl, ⟨(by decide +kernel), (by decide +kernel), (by decide +kernel)⟩, by decide⟩
theorem im_yX10_write : Cond.instanceMethod yX10_write ∈ am_T := am_in (i := 849) (by decide +kernel) (by decide +kernel)
theorem se_yX10_write : Cond.selects yX10_write.cls yX10_write yX10_write ∈ am_T := am_in (i := 850) (by decide +kernel) (by decide +kernel)
theorem mb_yX10_wipe : am_mB yX10_wipe cX10_wipe 2 (some FieldType.int) 0 := ⟨am_in (i := 67) (by decide +kernel) (by decide +kernel), am_inT (am_ck4 (List.mem_of_getElem? (i := 85) rfl)) rfl, ⟨(by decide +kernel), (by decide +kernel), (by decide +kernel)⟩, by decide⟩
theorem im_yX10_wipe : Cond.instanceMethod yX10_wipe ∈ am_T := am_in (i := 856) (by decide +kernel) (by decide +kernel)
theorem se_yX10_wipe : Cond.selects yX10_wipe.cls yX10_wipe yX10_wipe ∈ am_T := am_in (i := 857) (by decide +kernel) (by decide +kernel)
theorem mb_yX10_here : am_mB yX10_here cX10_here 1 (some FieldType.int) 0 := ⟨am_in (i := 67) (by decide +kernel) (by decide +kernel), am_inT (am_ck4 (List.mem_of_getElem? (i := 101) rfl)) rfl, ⟨(by decide +kernel), (by decide +kernel), (by decide +kernel)⟩, by decide⟩
theorem im_yX10_here : Cond.instanceMethod yX10_here ∈ am_T := am_in (i := 873) (by decide +kernel) (by decide +kernel)
theorem se_yX10_here : Cond.selects yX10_here.cls yX10_here yX10_here ∈ am_T := am_in (i := 14) (by decide +kernel) (by decide +kernel)
theorem mb_yX10_isFigure : am_mB yX10_isFigure cX10_isFigure 1 (some FieldType.boolean) 0 := ⟨am_in (i := 67) (by decide +kernel) (by decide +kernel), am_inT (am_ck4 (List.mem_of_getElem? (i := 125) rfl)) rfl, ⟨(by decide +kernel), (by decide +kernel), (by decide +kernel)⟩, by decide⟩
theorem im_yX10_isFigure : Cond.instanceMethod yX10_isFigure ∈ am_T := am_in (i := 897) (by decide +kernel) (by decide +kernel)
theorem se_yX10_isFigure : Cond.selects yX10_isFigure.cls yX10_isFigure yX10_isFigure ∈ am_T := am_in (i := 20) (by decide +kernel) (by decide +kernel)
theorem mb_yX10_causes : am_mB yX10_causes cX10_causes 3 (some FieldType.boolean) 2 := ⟨am_in (i := 67) (by decide +kernel) (by decide +kernel), am_inT (am_ck4 (List.mem_of_getElem? (i := 113) rfl)) rfl, ⟨(by decide +kernel), (by decide +kernel), (by decide +kernel)⟩, by decide⟩
theorem im_yX10_causes : Cond.instanceMethod yX10_causes ∈ am_T := am_in (i := 885) (by decide +kernel) (by decide +kernel)
theorem se_yX10_causes : Cond.selects yX10_causes.cls yX10_causes yX10_causes ∈ am_T := am_in (i := 17) (by decide +kernel) (by decide +kernel)
theorem mb_yX10_number : am_mB yX10_number cX10_number 7 (some FieldType.boolean) 4 := ⟨am_in (i := 67) (by decide +kernel) (by decide +kernel), am_inT (am_ck4 (List.mem_of_getElem? (i := 121) rfl)) rfl, ⟨(by decide +kernel), (by decide +kernel), (by decide +kernel)⟩, by decide⟩
theorem im_yX10_number : Cond.instanceMethod yX10_number ∈ am_T := am_in (i := 893) (by decide +kernel) (by decide +kernel)
theorem se_yX10_number : Cond.selects yX10_number.cls yX10_number yX10_number ∈ am_T := am_in (i := 19) (by decide +kernel) (by decide +kernel)
theorem mb_yX10_readsWorld : am_mB yX10_readsWorld cX10_readsWorld 1 (some FieldType.boolean) 0 := ⟨am_in (i := 67) (by decide +kernel) (by decide +kernel), am_inT (am_ck4 (List.mem_of_getElem? (i := 117) rfl)) rfl, ⟨(by decide +kernel), (by decide +kernel), (by decide +kernel)⟩, by decide⟩
theorem im_yX10_readsWorld : Cond.instanceMethod yX10_readsWorld ∈ am_T := am_in (i := 889) (by decide +kernel) (by decide +kernel)
theorem se_yX10_readsWorld : Cond.selects yX10_readsWorld.cls yX10_readsWorld yX10_readsWorld ∈ am_T := am_in (i := 18) (by decide +kernel) (by decide +kernel)
theorem mb_yX10_readsBox : am_mB yX10_readsBox cX10_readsBox 2 (some FieldType.boolean) 0 := ⟨am_in (i := 67) (by decide +kernel) (by decide +kernel), am_inT (am_ck4 (List.mem_of_getElem? (i := 129) rfl)) rfl, ⟨(by decide +kernel), (by decide +kernel), (by decide +kernel)⟩, by decide⟩
theorem im_yX10_readsBox : Cond.instanceMethod yX10_readsBox ∈ am_T := am_in (i := 901) (by decide +kernel) (by decide +kernel)
theorem se_yX10_readsBox : Cond.selects yX10_readsBox.cls yX10_readsBox yX10_readsBox ∈ am_T := am_in (i := 21) (by decide +kernel) (by decide +kernel)
theorem mb_yX10_readsDisc : am_mB yX10_readsDisc cX10_readsDisc 2 (some FieldType.boolean) 0 := ⟨am_in (i := 67) (by decide +kernel) (by decide +kernel), am_inT (am_ck4 (List.mem_of_getElem? (i := 133) rfl)) rfl, ⟨(by decide +kernel), (by decide +kernel), (by decide +kernel)⟩, by decide⟩
theorem im_yX10_readsDisc : Cond.instanceMethod yX10_readsDisc ∈ am_T := am_in (i := 905) (by decide +kernel) (by decide +kernel)
theorem se_yX10_readsDisc : Cond.selects yX10_readsDisc.cls yX10_readsDisc yX10_readsDisc ∈ am_T := am_in (i := 22) (by decide +kernel) (by decide +kernel)
theorem mb_yX10_begins : am_mB yX10_begins cX10_begins 3 (some FieldType.int) 0 := ⟨am_in (i := 67) (by decide +kernel) (by decide +kernel), am_inT (am_ck4 (List.mem_of_getElem? (i := 105) rfl)) rfl, ⟨(by decide +kernel), (by decide +kernel), (by decide +kernel)⟩, by decide⟩
theorem im_yX10_begins : Cond.instanceMethod yX10_begins ∈ am_T := am_in (i := 877) (by decide +kernel) (by decide +kernel)
theorem se_yX10_begins : Cond.selects yX10_begins.cls yX10_begins yX10_begins ∈ am_T := am_in (i := 15) (by decide +kernel) (by decide +kernel)
theorem mb_yX10_mayBegin : am_mB yX10_mayBegin cX10_mayBegin 2 (some FieldType.boolean) 1 := ⟨am_in (i := 67) (by decide +kernel) (by decide +kernel), am_inT (am_ck4 (List.mem_of_getElem? (i := 109) rfl)) rfl, ⟨(by decide +kernel), (by decide +kernel), (by decide +kernel)⟩, by decide⟩
theorem im_yX10_mayBegin : Cond.instanceMethod yX10_mayBegin ∈ am_T := am_in (i := 881) (by decide +kernel) (by decide +kernel)
theorem se_yX10_mayBegin : Cond.selects yX10_mayBegin.cls yX10_mayBegin yX10_mayBegin ∈ am_T := am_in (i := 16) (by decide +kernel) (by decide +kernel)
theorem mb_yX10_lays : am_mB yX10_lays cX10_lays 3 none 2 := ⟨am_in (i := 67) (by decide +kernel) (by decide +kernel), am_inT (am_ck4 (List.mem_of_getElem? (i := 137) rfl)) rfl, ⟨(by decide +kernel), (by decide +kernel), (by decide +kernel)⟩, by decide⟩
theorem im_yX10_lays : Cond.instanceMethod yX10_lays ∈ am_T := am_in (i := 909) (by decide +kernel) (by decide +kernel)
theorem se_yX10_lays : Cond.selects yX10_lays.cls yX10_lays yX10_lays ∈ am_T := am_in (i := 23) (by decide +kernel) (by decide +kernel)
theorem mb_yX10_puts : am_mB yX10_puts cX10_puts 8 none 7 := ⟨am_in (i := 67) (by decide +kernel) (by decide +kernel), am_inT (am_ck4 (List.mem_of_getElem? (i := 141) rfl)) rfl, ⟨(by decide +kernel), (by decide +kernel), (by decide +kernel)⟩, by decide⟩
theorem im_yX10_puts : Cond.instanceMethod yX10_puts ∈ am_T := am_in (i := 913) (by decide +kernel) (by decide +kernel)
theorem se_yX10_puts : Cond.selects yX10_puts.cls yX10_puts yX10_puts ∈ am_T := am_in (i := 24) (by decide +kernel) (by decide +kernel)
theorem mb_yX10_readsItem : am_mB yX10_readsItem cX10_readsItem 5 (some FieldType.boolean) 1 := ⟨am_in (i := 67) (by decide +kernel) (by decide +kernel), am_inT (am_ck4 (List.mem_of_getElem? (i := 97) rfl)) rfl, ⟨(by decide +kernel), (by decide +kernel), (by decide +kernel)⟩, by decide⟩
theorem im_yX10_readsItem : Cond.instanceMethod yX10_readsItem ∈ am_T := am_in (i := 869) (by decide +kernel) (by decide +kernel)
theorem se_yX10_readsItem : Cond.selects yX10_readsItem.cls yX10_readsItem yX10_readsItem ∈ am_T := am_in (i := 13) (by decide +kernel) (by decide +kernel)
theorem mb_yX10_goesThrough : am_mB yX10_goesThrough cX10_goesThrough 3 (some FieldType.int) 1 := ⟨am_in (i := 67) (by decide +kernel) (by decide +kernel), am_inT (am_ck4 (List.mem_of_getElem? (i := 93) rfl)) rfl, ⟨(by decide +kernel), (by decide +kernel), (by decide +kernel)⟩, by decide⟩
theorem im_yX10_goesThrough : Cond.instanceMethod yX10_goesThrough ∈ am_T := am_in (i := 865) (by decide +kernel) (by decide +kernel)
theorem se_yX10_goesThrough : Cond.selects yX10_goesThrough.cls yX10_goesThrough yX10_goesThrough ∈ am_T := am_in (i := 12) (by decide +kernel) (by decide +kernel)
theorem mb_yX10_fault : am_mB yX10_fault cX10_fault 1 (some FieldType.int) 0 := ⟨am_in (i := 67) (by decide +kernel) (by decide +kernel), am_inT (am_ck4 (List.mem_of_getElem? (i := 89) rfl)) rfl, ⟨(by decide +kernel), (by decide +kernel), (by decide +kernel)⟩, by decide⟩
theorem im_yX10_fault : Cond.instanceMethod yX10_fault ∈ am_T := am_in (i := 860) (by decide +kernel) (by decide +kernel)
theorem se_yX10_fault : Cond.selects yX10_fault.cls yX10_fault yX10_fault ∈ am_T := am_in (i := 861) (by decide +kernel) (by decide +kernel)
theorem mb_yX10_lay : am_mB yX10_lay cX10_lay 1 (some FieldType.int) 0 := ⟨am_in (i := 67) (by decide +kernel) (by decide +kernel), am_inT (am_ck4 (List.mem_of_getElem? (i := 145) rfl)) rfl, ⟨(by decide +kernel), (by decide +kernel), (by decide +kernel)⟩, by decide⟩
theorem im_yX10_lay : Cond.instanceMethod yX10_lay ∈ am_T := am_in (i := 916) (by decide +kernel) (by decide +kernel)
theorem se_yX10_lay : Cond.selects yX10_lay.cls yX10_lay yX10_lay ∈ am_T := am_in (i := 917) (by decide +kernel) (by decide +kernel)
theorem mb_yX10_cause : am_mB yX10_cause cX10_cause 2 (some FieldType.int) 1 := ⟨am_in (i := 67) (by decide +kernel) (by decide +kernel), am_inT (am_ck4 (List.mem_of_getElem? (i := 153) rfl)) rfl, ⟨(by decide +kernel), (by decide +kernel), (by decide +kernel)⟩, by decide⟩
theorem im_yX10_cause : Cond.instanceMethod yX10_cause ∈ am_T := am_in (i := 924) (by decide +kernel) (by decide +kernel)
theorem se_yX10_cause : Cond.selects yX10_cause.cls yX10_cause yX10_cause ∈ am_T := am_in (i := 925) (by decide +kernel) (by decide +kernel)
theorem mb_yX10_curve : am_mB yX10_curve cX10_curve 2 (some FieldType.int) 1 := ⟨am_in (i := 67) (by decide +kernel) (by decide +kernel), am_inT (am_ck4 (List.mem_of_getElem? (i := 157) rfl)) rfl, ⟨(by decide +kernel), (by decide +kernel), (by decide +kernel)⟩, by decide⟩
theorem im_yX10_curve : Cond.instanceMethod yX10_curve ∈ am_T := am_in (i := 928) (by decide +kernel) (by decide +kernel)
theorem se_yX10_curve : Cond.selects yX10_curve.cls yX10_curve yX10_curve ∈ am_T := am_in (i := 929) (by decide +kernel) (by decide +kernel)
theorem mb_yX10_levels : am_mB yX10_levels cX10_levels 4 (some FieldType.int) 2 := ⟨am_in (i := 67) (by decide +kernel) (by decide +kernel), am_inT (am_ck4 (List.mem_of_getElem? (i := 161) rfl)) rfl, ⟨(by decide +kernel), (by decide +kernel), (by decide +kernel)⟩, by decide⟩
theorem im_yX10_levels : Cond.instanceMethod yX10_levels ∈ am_T := am_in (i := 932) (by decide +kernel) (by decide +kernel)
theorem se_yX10_levels : Cond.selects yX10_levels.cls yX10_levels yX10_levels ∈ am_T := am_in (i := 933) (by decide +kernel) (by decide +kernel)
theorem mb_yX10_more : am_mB yX10_more cX10_more 7 (some FieldType.int) 6 := ⟨am_in (i := 67) (by decide +kernel) (by decide +kernel), am_inT (am_ck4 (List.mem_of_getElem? (i := 173) rfl)) rfl, ⟨(by decide +kernel), (by decide +kernel), (by decide +kernel)⟩, by decide⟩
theorem im_yX10_more : Cond.instanceMethod yX10_more ∈ am_T := am_in (i := 945) (by decide +kernel) (by decide +kernel)
theorem se_yX10_more : Cond.selects yX10_more.cls yX10_more yX10_more ∈ am_T := am_in (i := 27) (by decide +kernel) (by decide +kernel)
theorem mb_yX10_box : am_mB yX10_box cX10_box 6 (some FieldType.int) 5 := ⟨am_in (i := 67) (by decide +kernel) (by decide +kernel), am_inT (am_ck4 (List.mem_of_getElem? (i := 165) rfl)) rfl, ⟨(by decide +kernel), (by decide +kernel), (by decide +kernel)⟩, by decide⟩
theorem im_yX10_box : Cond.instanceMethod yX10_box ∈ am_T := am_in (i := 936) (by decide +kernel) (by decide +kernel)
theorem se_yX10_box : Cond.selects yX10_box.cls yX10_box yX10_box ∈ am_T := am_in (i := 937) (by decide +kernel) (by decide +kernel)
theorem mb_yX10_disc : am_mB yX10_disc cX10_disc 5 (some FieldType.int) 4 := ⟨am_in (i := 67) (by decide +kernel) (by decide +kernel), am_inT (am_ck4 (List.mem_of_getElem? (i := 177) rfl)) rfl, ⟨(by decide +kernel), (by decide +kernel), (by decide +kernel)⟩, by decide⟩
theorem im_yX10_disc : Cond.instanceMethod yX10_disc ∈ am_T := am_in (i := 948) (by decide +kernel) (by decide +kernel)
theorem se_yX10_disc : Cond.selects yX10_disc.cls yX10_disc yX10_disc ∈ am_T := am_in (i := 949) (by decide +kernel) (by decide +kernel)
theorem mb_yX10_drop : am_mB yX10_drop cX10_drop 3 (some FieldType.int) 1 := ⟨am_in (i := 67) (by decide +kernel) (by decide +kernel), am_inT (am_ck4 (List.mem_of_getElem? (i := 181) rfl)) rfl, ⟨(by decide +kernel), (by decide +kernel), (by decide +kernel)⟩, by decide⟩
theorem im_yX10_drop : Cond.instanceMethod yX10_drop ∈ am_T := am_in (i := 952) (by decide +kernel) (by decide +kernel)
theorem se_yX10_drop : Cond.selects yX10_drop.cls yX10_drop yX10_drop ∈ am_T := am_in (i := 953) (by decide +kernel) (by decide +kernel)
theorem mb_yX10_point : am_mB yX10_point cX10_point 3 (some FieldType.int) 2 := ⟨am_in (i := 67) (by decide +kernel) (by decide +kernel), am_inT (am_ck4 (List.mem_of_getElem? (i := 185) rfl)) rfl, ⟨(by decide +kernel), (by decide +kernel), (by decide +kernel)⟩, by decide⟩
theorem im_yX10_point : Cond.instanceMethod yX10_point ∈ am_T := am_in (i := 956) (by decide +kernel) (by decide +kernel)
theorem se_yX10_point : Cond.selects yX10_point.cls yX10_point yX10_point ∈ am_T := am_in (i := 957) (by decide +kernel) (by decide +kernel)
theorem mb_yX10_lift : am_mB yX10_lift cX10_lift 3 (some FieldType.int) 1 := ⟨am_in (i := 67) (by decide +kernel) (by decide +kernel), am_inT (am_ck4 (List.mem_of_getElem? (i := 189) rfl)) rfl, ⟨(by decide +kernel), (by decide +kernel), (by decide +kernel)⟩, by decide⟩
theorem im_yX10_lift : Cond.instanceMethod yX10_lift ∈ am_T := am_in (i := 960) (by decide +kernel) (by decide +kernel)
theorem se_yX10_lift : Cond.selects yX10_lift.cls yX10_lift yX10_lift ∈ am_T := am_in (i := 961) (by decide +kernel) (by decide +kernel)
theorem mb_yX10_keyOf : am_mB yX10_keyOf cX10_keyOf 11 (some FieldType.int) 2 := ⟨am_in (i := 67) (by decide +kernel) (by decide +kernel), am_inT (am_ck4 (List.mem_of_getElem? (i := 197) rfl)) rfl, ⟨(by decide +kernel), (by decide +kernel), (by decide +kernel)⟩, by decide⟩
theorem im_yX10_keyOf : Cond.instanceMethod yX10_keyOf ∈ am_T := am_in (i := 969) (by decide +kernel) (by decide +kernel)
theorem se_yX10_keyOf : Cond.selects yX10_keyOf.cls yX10_keyOf yX10_keyOf ∈ am_T := am_in (i := 28) (by decide +kernel) (by decide +kernel)
theorem mb_yX10_setCell : am_mB yX10_setCell cX10_setCell 10 none 1 := ⟨am_in (i := 67) (by decide +kernel) (by decide +kernel), am_inT (am_ck4 (List.mem_of_getElem? (i := 209) rfl)) rfl, ⟨(by decide +kernel), (by decide +kernel), (by decide +kernel)⟩, by decide⟩
theorem im_yX10_setCell : Cond.instanceMethod yX10_setCell ∈ am_T := am_in (i := 981) (by decide +kernel) (by decide +kernel)
theorem se_yX10_setCell : Cond.selects yX10_setCell.cls yX10_setCell yX10_setCell ∈ am_T := am_in (i := 30) (by decide +kernel) (by decide +kernel)
theorem mb_yX10_key : am_mB yX10_key cX10_key 3 (some FieldType.int) 2 := ⟨am_in (i := 67) (by decide +kernel) (by decide +kernel), am_inT (am_ck4 (List.mem_of_getElem? (i := 193) rfl)) rfl, ⟨(by decide +kernel), (by decide +kernel), (by decide +kernel)⟩, by decide⟩
theorem im_yX10_key : Cond.instanceMethod yX10_key ∈ am_T := am_in (i := 964) (by decide +kernel) (by decide +kernel)
theorem se_yX10_key : Cond.selects yX10_key.cls yX10_key yX10_key ∈ am_T := am_in (i := 965) (by decide +kernel) (by decide +kernel)
theorem mb_yX10_cell : am_mB yX10_cell cX10_cell 3 (some FieldType.int) 2 := ⟨am_in (i := 67) (by decide +kernel) (by decide +kernel), am_inT (am_ck4 (List.mem_of_getElem? (i := 201) rfl)) rfl, ⟨(by decide +kernel), (by decide +kernel), (by decide +kernel)⟩, by decide⟩
theorem im_yX10_cell : Cond.instanceMethod yX10_cell ∈ am_T := am_in (i := 972) (by decide +kernel) (by decide +kernel)
theorem se_yX10_cell : Cond.selects yX10_cell.cls yX10_cell yX10_cell ∈ am_T := am_in (i := 973) (by decide +kernel) (by decide +kernel)
theorem mb_yX10_isTile : am_mB yX10_isTile cX10_isTile 3 (some FieldType.boolean) 2 := ⟨am_in (i := 67) (by decide +kernel) (by decide +kernel), am_inT (am_ck4 (List.mem_of_getElem? (i := 217) rfl)) rfl, ⟨(by decide +kernel), (by decide +kernel), (by decide +kernel)⟩, by decide⟩
theorem im_yX10_isTile : Cond.instanceMethod yX10_isTile ∈ am_T := am_in (i := 989) (by decide +kernel) (by decide +kernel)
theorem se_yX10_isTile : Cond.selects yX10_isTile.cls yX10_isTile yX10_isTile ∈ am_T := am_in (i := 31) (by decide +kernel) (by decide +kernel)
theorem mb_yX10_sizeOf : am_mB yX10_sizeOf cX10_sizeOf 2 (some FieldType.int) 1 := ⟨am_in (i := 67) (by decide +kernel) (by decide +kernel), am_inT (am_ck4 (List.mem_of_getElem? (i := 221) rfl)) rfl, ⟨(by decide +kernel), (by decide +kernel), (by decide +kernel)⟩, by decide⟩
theorem im_yX10_sizeOf : Cond.instanceMethod yX10_sizeOf ∈ am_T := am_in (i := 993) (by decide +kernel) (by decide +kernel)
theorem se_yX10_sizeOf : Cond.selects yX10_sizeOf.cls yX10_sizeOf yX10_sizeOf ∈ am_T := am_in (i := 32) (by decide +kernel) (by decide +kernel)
theorem mb_yX10_sideOf : am_mB yX10_sideOf cX10_sideOf 2 (some FieldType.int) 1 := ⟨am_in (i := 67) (by decide +kernel) (by decide +kernel), am_inT (am_ck4 (List.mem_of_getElem? (i := 225) rfl)) rfl, ⟨(by decide +kernel), (by decide +kernel), (by decide +kernel)⟩, by decide⟩
theorem im_yX10_sideOf : Cond.instanceMethod yX10_sideOf ∈ am_T := am_in (i := 997) (by decide +kernel) (by decide +kernel)
theorem se_yX10_sideOf : Cond.selects yX10_sideOf.cls yX10_sideOf yX10_sideOf ∈ am_T := am_in (i := 33) (by decide +kernel) (by decide +kernel)
theorem mb_yX10_has : am_mB yX10_has cX10_has 7 (some FieldType.boolean) 3 := ⟨am_in (i := 67) (by decide +kernel) (by decide +kernel), am_inT (am_ck4 (List.mem_of_getElem? (i := 237) rfl)) rfl, ⟨(by decide +kernel), (by decide +kernel), (by decide +kernel)⟩, by decide⟩
theorem im_yX10_has : Cond.instanceMethod yX10_has ∈ am_T := am_in (i := 1009) (by decide +kernel) (by decide +kernel)
theorem se_yX10_has : Cond.selects yX10_has.cls yX10_has yX10_has ∈ am_T := am_in (i := 36) (by decide +kernel) (by decide +kernel)
theorem mb_yX10_isShape : am_mB yX10_isShape cX10_isShape 4 (some FieldType.boolean) 2 := ⟨am_in (i := 67) (by decide +kernel) (by decide +kernel), am_inT (am_ck4 (List.mem_of_getElem? (i := 233) rfl)) rfl, ⟨(by decide +kernel), (by decide +kernel), (by decide +kernel)⟩, by decide⟩
theorem im_yX10_isShape : Cond.instanceMethod yX10_isShape ∈ am_T := am_in (i := 1005) (by decide +kernel) (by decide +kernel)
theorem se_yX10_isShape : Cond.selects yX10_isShape.cls yX10_isShape yX10_isShape ∈ am_T := am_in (i := 35) (by decide +kernel) (by decide +kernel)
theorem mb_yX10_setShape : am_mB yX10_setShape cX10_setShape 3 none 0 := ⟨am_in (i := 67) (by decide +kernel) (by decide +kernel), am_inT (am_ck4 (List.mem_of_getElem? (i := 229) rfl)) rfl, ⟨(by decide +kernel), (by decide +kernel), (by decide +kernel)⟩, by decide⟩
theorem im_yX10_setShape : Cond.instanceMethod yX10_setShape ∈ am_T := am_in (i := 1001) (by decide +kernel) (by decide +kernel)
theorem se_yX10_setShape : Cond.selects yX10_setShape.cls yX10_setShape yX10_setShape ∈ am_T := am_in (i := 34) (by decide +kernel) (by decide +kernel)
theorem mb_yX10_shapeIn : am_mB yX10_shapeIn cX10_shapeIn 5 (some FieldType.int) 2 := ⟨am_in (i := 67) (by decide +kernel) (by decide +kernel), am_inT (am_ck5 (List.mem_of_getElem? (i := 1) rfl)) rfl, ⟨(by decide +kernel), (by decide +kernel), (by decide +kernel)⟩, by decide⟩
theorem im_yX10_shapeIn : Cond.instanceMethod yX10_shapeIn ∈ am_T := am_in (i := 1013) (by decide +kernel) (by decide +kernel)
theorem se_yX10_shapeIn : Cond.selects yX10_shapeIn.cls yX10_shapeIn yX10_shapeIn ∈ am_T := am_in (i := 37) (by decide +kernel) (by decide +kernel)
theorem mb_yX10_pointsIn : am_mB yX10_pointsIn cX10_pointsIn 5 (some FieldType.int) 2 := ⟨am_in (i := 67) (by decide +kernel) (by decide +kernel), am_inT (am_ck5 (List.mem_of_getElem? (i := 5) rfl)) rfl, ⟨(by decide +kernel), (by decide +kernel), (by decide +kernel)⟩, by decide⟩
theorem im_yX10_pointsIn : Cond.instanceMethod yX10_pointsIn ∈ am_T := am_in (i := 1017) (by decide +kernel) (by decide +kernel)
theorem se_yX10_pointsIn : Cond.selects yX10_pointsIn.cls yX10_pointsIn yX10_pointsIn ∈ am_T := am_in (i := 38) (by decide +kernel) (by decide +kernel)
theorem mb_yX10_tile : am_mB yX10_tile cX10_tile 4 (some FieldType.int) 3 := ⟨am_in (i := 67) (by decide +kernel) (by decide +kernel), am_inT (am_ck4 (List.mem_of_getElem? (i := 213) rfl)) rfl, ⟨(by decide +kernel), (by decide +kernel), (by decide +kernel)⟩, by decide⟩
theorem im_yX10_tile : Cond.instanceMethod yX10_tile ∈ am_T := am_in (i := 984) (by decide +kernel) (by decide +kernel)
theorem se_yX10_tile : Cond.selects yX10_tile.cls yX10_tile yX10_tile ∈ am_T := am_in (i := 985) (by decide +kernel) (by decide +kernel)
theorem mb_yX10_beside : am_mB yX10_beside cX10_beside 7 (some FieldType.int) 4 := ⟨am_in (i := 67) (by decide +kernel) (by decide +kernel), am_inT (am_ck5 (List.mem_of_getElem? (i := 9) rfl)) rfl, ⟨(by decide +kernel), (by decide +kernel), (by decide +kernel)⟩, by decide⟩
theorem im_yX10_beside : Cond.instanceMethod yX10_beside ∈ am_T := am_in (i := 1020) (by decide +kernel) (by decide +kernel)
theorem se_yX10_beside : Cond.selects yX10_beside.cls yX10_beside yX10_beside ∈ am_T := am_in (i := 1021) (by decide +kernel) (by decide +kernel)
theorem mb_yX10_common : am_mB yX10_common cX10_common 8 (some FieldType.int) 4 := ⟨am_in (i := 67) (by decide +kernel) (by decide +kernel), am_inT (am_ck5 (List.mem_of_getElem? (i := 13) rfl)) rfl, ⟨(by decide +kernel), (by decide +kernel), (by decide +kernel)⟩, by decide⟩
theorem im_yX10_common : Cond.instanceMethod yX10_common ∈ am_T := am_in (i := 1024) (by decide +kernel) (by decide +kernel)
theorem se_yX10_common : Cond.selects yX10_common.cls yX10_common yX10_common ∈ am_T := am_in (i := 1025) (by decide +kernel) (by decide +kernel)
theorem mb_yX10_leaps : am_mB yX10_leaps cX10_leaps 6 (some FieldType.int) 0 := ⟨am_in (i := 67) (by decide +kernel) (by decide +kernel), am_inT (am_ck5 (List.mem_of_getElem? (i := 17) rfl)) rfl, ⟨(by decide +kernel), (by decide +kernel), (by decide +kernel)⟩, by decide⟩
theorem im_yX10_leaps : Cond.instanceMethod yX10_leaps ∈ am_T := am_in (i := 1028) (by decide +kernel) (by decide +kernel)
theorem se_yX10_leaps : Cond.selects yX10_leaps.cls yX10_leaps yX10_leaps ∈ am_T := am_in (i := 1029) (by decide +kernel) (by decide +kernel)
theorem mb_yX10_in : am_mB yX10_in cX10_in 3 (some FieldType.int) 2 := ⟨am_in (i := 67) (by decide +kernel) (by decide +kernel), am_inT (am_ck5 (List.mem_of_getElem? (i := 21) rfl)) rfl, ⟨(by decide +kernel), (by decide +kernel), (by decide +kernel)⟩, by decide⟩
theorem im_yX10_in : Cond.instanceMethod yX10_in ∈ am_T := am_in (i := 1032) (by decide +kernel) (by decide +kernel)
theorem se_yX10_in : Cond.selects yX10_in.cls yX10_in yX10_in ∈ am_T := am_in (i := 1033) (by decide +kernel) (by decide +kernel)
theorem mb_yX10_setCover : am_mB yX10_setCover cX10_setCover 6 none 1 := ⟨am_in (i := 67) (by decide +kernel) (by decide +kernel), am_inT (am_ck5 (List.mem_of_getElem? (i := 32) rfl)) rfl, ⟨(by decide +kernel), (by decide +kernel), (by decide +kernel)⟩, by decide⟩
theorem im_yX10_setCover : Cond.instanceMethod yX10_setCover ∈ am_T := am_in (i := 1044) (by decide +kernel) (by decide +kernel)
theorem se_yX10_setCover : Cond.selects yX10_setCover.cls yX10_setCover yX10_setCover ∈ am_T := am_in (i := 39) (by decide +kernel) (by decide +kernel)
theorem mb_yX10_isWhole : am_mB yX10_isWhole cX10_isWhole 5 (some FieldType.boolean) 2 := ⟨am_in (i := 67) (by decide +kernel) (by decide +kernel), am_inT (am_ck5 (List.mem_of_getElem? (i := 44) rfl)) rfl, ⟨(by decide +kernel), (by decide +kernel), (by decide +kernel)⟩, by decide⟩
theorem im_yX10_isWhole : Cond.instanceMethod yX10_isWhole ∈ am_T := am_in (i := 1056) (by decide +kernel) (by decide +kernel)
theorem se_yX10_isWhole : Cond.selects yX10_isWhole.cls yX10_isWhole yX10_isWhole ∈ am_T := am_in (i := 42) (by decide +kernel) (by decide +kernel)
theorem mb_yX10_levelAt : am_mB yX10_levelAt cX10_levelAt 3 (some FieldType.int) 1 := ⟨am_in (i := 67) (by decide +kernel) (by decide +kernel), am_inT (am_ck5 (List.mem_of_getElem? (i := 40) rfl)) rfl, ⟨(by decide +kernel), (by decide +kernel), (by decide +kernel)⟩, by decide⟩
theorem im_yX10_levelAt : Cond.instanceMethod yX10_levelAt ∈ am_T := am_in (i := 1052) (by decide +kernel) (by decide +kernel)
theorem se_yX10_levelAt : Cond.selects yX10_levelAt.cls yX10_levelAt yX10_levelAt ∈ am_T := am_in (i := 41) (by decide +kernel) (by decide +kernel)
theorem mb_yX10_tiles : am_mB yX10_tiles cX10_tiles 5 (some FieldType.int) 1 := ⟨am_in (i := 67) (by decide +kernel) (by decide +kernel), am_inT (am_ck5 (List.mem_of_getElem? (i := 36) rfl)) rfl, ⟨(by decide +kernel), (by decide +kernel), (by decide +kernel)⟩, by decide⟩
theorem im_yX10_tiles : Cond.instanceMethod yX10_tiles ∈ am_T := am_in (i := 1048) (by decide +kernel) (by decide +kernel)
theorem se_yX10_tiles : Cond.selects yX10_tiles.cls yX10_tiles yX10_tiles ∈ am_T := am_in (i := 40) (by decide +kernel) (by decide +kernel)
theorem mb_yX10_isAsked : am_mB yX10_isAsked cX10_isAsked 3 (some FieldType.boolean) 3 := ⟨am_in (i := 67) (by decide +kernel) (by decide +kernel), am_inT (am_ck5 (List.mem_of_getElem? (i := 28) rfl)) rfl, ⟨(by decide +kernel), (by decide +kernel), (by decide +kernel)⟩, by decide⟩
theorem sm_yX10_isAsked : Cond.static yX10_isAsked ∈ am_T := am_in (i := 1040) (by decide +kernel) (by decide +kernel)
theorem mb_yX10_cover : am_mB yX10_cover cX10_cover 5 (some FieldType.int) 3 := ⟨am_in (i := 67) (by decide +kernel) (by decide +kernel), am_inT (am_ck5 (List.mem_of_getElem? (i := 25) rfl)) rfl, ⟨(by decide +kernel), (by decide +kernel), (by decide +kernel)⟩, by decide⟩
theorem im_yX10_cover : Cond.instanceMethod yX10_cover ∈ am_T := am_in (i := 1036) (by decide +kernel) (by decide +kernel)
theorem se_yX10_cover : Cond.selects yX10_cover.cls yX10_cover yX10_cover ∈ am_T := am_in (i := 1037) (by decide +kernel) (by decide +kernel)
theorem mb_yX10_rest : am_mB yX10_rest cX10_rest 4 (some FieldType.int) 1 := ⟨am_in (i := 67) (by decide +kernel) (by decide +kernel), am_inT (am_ck5 (List.mem_of_getElem? (i := 48) rfl)) rfl, ⟨(by decide +kernel), (by decide +kernel), (by decide +kernel)⟩, by decide⟩
theorem im_yX10_rest : Cond.instanceMethod yX10_rest ∈ am_T := am_in (i := 1059) (by decide +kernel) (by decide +kernel)
theorem se_yX10_rest : Cond.selects yX10_rest.cls yX10_rest yX10_rest ∈ am_T := am_in (i := 1060) (by decide +kernel) (by decide +kernel)
theorem mb_yX10_clears : am_mB yX10_clears cX10_clears 3 none 1 := ⟨am_in (i := 67) (by decide +kernel) (by decide +kernel), am_inT (am_ck5 (List.mem_of_getElem? (i := 56) rfl)) rfl, ⟨(by decide +kernel), (by decide +kernel), (by decide +kernel)⟩, by decide⟩
theorem im_yX10_clears : Cond.instanceMethod yX10_clears ∈ am_T := am_in (i := 1068) (by decide +kernel) (by decide +kernel)
theorem se_yX10_clears : Cond.selects yX10_clears.cls yX10_clears yX10_clears ∈ am_T := am_in (i := 43) (by decide +kernel) (by decide +kernel)
theorem mb_yX10_comes : am_mB yX10_comes cX10_comes 5 none 1 := ⟨am_in (i := 67) (by decide +kernel) (by decide +kernel), am_inT (am_ck5 (List.mem_of_getElem? (i := 65) rfl)) rfl, ⟨(by decide +kernel), (by decide +kernel), (by decide +kernel)⟩, by decide⟩
theorem im_yX10_comes : Cond.instanceMethod yX10_comes ∈ am_T := am_in (i := 1077) (by decide +kernel) (by decide +kernel)
theorem se_yX10_comes : Cond.selects yX10_comes.cls yX10_comes yX10_comes ∈ am_T := am_in (i := 45) (by decide +kernel) (by decide +kernel)
theorem mb_yX10_closes : am_mB yX10_closes cX10_closes 5 none 1 := ⟨am_in (i := 67) (by decide +kernel) (by decide +kernel), am_inT (am_ck5 (List.mem_of_getElem? (i := 69) rfl)) rfl, ⟨(by decide +kernel), (by decide +kernel), (by decide +kernel)⟩, by decide⟩
theorem im_yX10_closes : Cond.instanceMethod yX10_closes ∈ am_T := am_in (i := 1081) (by decide +kernel) (by decide +kernel)
theorem se_yX10_closes : Cond.selects yX10_closes.cls yX10_closes yX10_closes ∈ am_T := am_in (i := 46) (by decide +kernel) (by decide +kernel)
theorem mb_yX10_setLeaf : am_mB yX10_setLeaf cX10_setLeaf 4 none 1 := ⟨am_in (i := 67) (by decide +kernel) (by decide +kernel), am_inT (am_ck5 (List.mem_of_getElem? (i := 60) rfl)) rfl, ⟨(by decide +kernel), (by decide +kernel), (by decide +kernel)⟩, by decide⟩
theorem im_yX10_setLeaf : Cond.instanceMethod yX10_setLeaf ∈ am_T := am_in (i := 1072) (by decide +kernel) (by decide +kernel)
theorem se_yX10_setLeaf : Cond.selects yX10_setLeaf.cls yX10_setLeaf yX10_setLeaf ∈ am_T := am_in (i := 44) (by decide +kernel) (by decide +kernel)
theorem mb_yX10_best : am_mB yX10_best cX10_best 5 (some FieldType.int) 1 := ⟨am_in (i := 67) (by decide +kernel) (by decide +kernel), am_inT (am_ck5 (List.mem_of_getElem? (i := 52) rfl)) rfl, ⟨(by decide +kernel), (by decide +kernel), (by decide +kernel)⟩, by decide⟩
theorem im_yX10_best : Cond.instanceMethod yX10_best ∈ am_T := am_in (i := 1063) (by decide +kernel) (by decide +kernel)
theorem se_yX10_best : Cond.selects yX10_best.cls yX10_best yX10_best ∈ am_T := am_in (i := 1064) (by decide +kernel) (by decide +kernel)
theorem mb_yX10_spans : am_mB yX10_spans cX10_spans 5 (some FieldType.int) 1 := ⟨am_in (i := 67) (by decide +kernel) (by decide +kernel), am_inT (am_ck5 (List.mem_of_getElem? (i := 77) rfl)) rfl, ⟨(by decide +kernel), (by decide +kernel), (by decide +kernel)⟩, by decide⟩
theorem im_yX10_spans : Cond.instanceMethod yX10_spans ∈ am_T := am_in (i := 1089) (by decide +kernel) (by decide +kernel)
theorem se_yX10_spans : Cond.selects yX10_spans.cls yX10_spans yX10_spans ∈ am_T := am_in (i := 47) (by decide +kernel) (by decide +kernel)
theorem mb_yX10_span : am_mB yX10_span cX10_span 5 (some FieldType.int) 3 := ⟨am_in (i := 67) (by decide +kernel) (by decide +kernel), am_inT (am_ck5 (List.mem_of_getElem? (i := 73) rfl)) rfl, ⟨(by decide +kernel), (by decide +kernel), (by decide +kernel)⟩, by decide⟩
theorem im_yX10_span : Cond.instanceMethod yX10_span ∈ am_T := am_in (i := 1084) (by decide +kernel) (by decide +kernel)
theorem se_yX10_span : Cond.selects yX10_span.cls yX10_span yX10_span ∈ am_T := am_in (i := 1085) (by decide +kernel) (by decide +kernel)
theorem mb_yX10_joined : am_mB yX10_joined cX10_joined 7 (some FieldType.int) 2 := ⟨am_in (i := 67) (by decide +kernel) (by decide +kernel), am_inT (am_ck5 (List.mem_of_getElem? (i := 81) rfl)) rfl, ⟨(by decide +kernel), (by decide +kernel), (by decide +kernel)⟩, by decide⟩
theorem im_yX10_joined : Cond.instanceMethod yX10_joined ∈ am_T := am_in (i := 1092) (by decide +kernel) (by decide +kernel)
theorem se_yX10_joined : Cond.selects yX10_joined.cls yX10_joined yX10_joined ∈ am_T := am_in (i := 1093) (by decide +kernel) (by decide +kernel)
theorem mb_yX10_isPoint : am_mB yX10_isPoint cX10_isPoint 2 (some FieldType.boolean) 1 := ⟨am_in (i := 67) (by decide +kernel) (by decide +kernel), am_inT (am_ck5 (List.mem_of_getElem? (i := 89) rfl)) rfl, ⟨(by decide +kernel), (by decide +kernel), (by decide +kernel)⟩, by decide⟩
theorem im_yX10_isPoint : Cond.instanceMethod yX10_isPoint ∈ am_T := am_in (i := 1101) (by decide +kernel) (by decide +kernel)
theorem se_yX10_isPoint : Cond.selects yX10_isPoint.cls yX10_isPoint yX10_isPoint ∈ am_T := am_in (i := 48) (by decide +kernel) (by decide +kernel)
theorem mb_yX10_placeOf : am_mB yX10_placeOf cX10_placeOf 6 (some FieldType.int) 1 := ⟨am_in (i := 67) (by decide +kernel) (by decide +kernel), am_inT (am_ck5 (List.mem_of_getElem? (i := 93) rfl)) rfl, ⟨(by decide +kernel), (by decide +kernel), (by decide +kernel)⟩, by decide⟩
theorem im_yX10_placeOf : Cond.instanceMethod yX10_placeOf ∈ am_T := am_in (i := 1105) (by decide +kernel) (by decide +kernel)
theorem se_yX10_placeOf : Cond.selects yX10_placeOf.cls yX10_placeOf yX10_placeOf ∈ am_T := am_in (i := 49) (by decide +kernel) (by decide +kernel)
theorem mb_yX10_at : am_mB yX10_at cX10_at 3 (some FieldType.int) 2 := ⟨am_in (i := 67) (by decide +kernel) (by decide +kernel), am_inT (am_ck5 (List.mem_of_getElem? (i := 85) rfl)) rfl, ⟨(by decide +kernel), (by decide +kernel), (by decide +kernel)⟩, by decide⟩
theorem im_yX10_at : Cond.instanceMethod yX10_at ∈ am_T := am_in (i := 1096) (by decide +kernel) (by decide +kernel)
theorem se_yX10_at : Cond.selects yX10_at.cls yX10_at yX10_at ∈ am_T := am_in (i := 1097) (by decide +kernel) (by decide +kernel)
theorem mb_yX10_orderedAt : am_mB yX10_orderedAt cX10_orderedAt 3 (some FieldType.int) 1 := ⟨am_in (i := 67) (by decide +kernel) (by decide +kernel), am_inT (am_ck5 (List.mem_of_getElem? (i := 101) rfl)) rfl, ⟨(by decide +kernel), (by decide +kernel), (by decide +kernel)⟩, by decide⟩
theorem im_yX10_orderedAt : Cond.instanceMethod yX10_orderedAt ∈ am_T := am_in (i := 1113) (by decide +kernel) (by decide +kernel)
theorem se_yX10_orderedAt : Cond.selects yX10_orderedAt.cls yX10_orderedAt yX10_orderedAt ∈ am_T := am_in (i := 50) (by decide +kernel) (by decide +kernel)
theorem mb_yX10_ordered : am_mB yX10_ordered cX10_ordered 2 (some FieldType.int) 1 := ⟨am_in (i := 67) (by decide +kernel) (by decide +kernel), am_inT (am_ck5 (List.mem_of_getElem? (i := 97) rfl)) rfl, ⟨(by decide +kernel), (by decide +kernel), (by decide +kernel)⟩, by decide⟩
theorem im_yX10_ordered : Cond.instanceMethod yX10_ordered ∈ am_T := am_in (i := 1108) (by decide +kernel) (by decide +kernel)
theorem se_yX10_ordered : Cond.selects yX10_ordered.cls yX10_ordered yX10_ordered ∈ am_T := am_in (i := 1109) (by decide +kernel) (by decide +kernel)
theorem mb_yX10_isFound : am_mB yX10_isFound cX10_isFound 2 (some FieldType.boolean) 1 := ⟨am_in (i := 67) (by decide +kernel) (by decide +kernel), am_inT (am_ck5 (List.mem_of_getElem? (i := 109) rfl)) rfl, ⟨(by decide +kernel), (by decide +kernel), (by decide +kernel)⟩, by decide⟩
theorem im_yX10_isFound : Cond.instanceMethod yX10_isFound ∈ am_T := am_in (i := 1121) (by decide +kernel) (by decide +kernel)
theorem se_yX10_isFound : Cond.selects yX10_isFound.cls yX10_isFound yX10_isFound ∈ am_T := am_in (i := 51) (by decide +kernel) (by decide +kernel)
theorem mb_yX10_search : am_mB yX10_search cX10_search 5 (some FieldType.int) 1 := ⟨am_in (i := 67) (by decide +kernel) (by decide +kernel), am_inT (am_ck5 (List.mem_of_getElem? (i := 105) rfl)) rfl, ⟨(by decide +kernel), (by decide +kernel), (by decide +kernel)⟩, by decide⟩
theorem im_yX10_search : Cond.instanceMethod yX10_search ∈ am_T := am_in (i := 1116) (by decide +kernel) (by decide +kernel)
theorem se_yX10_search : Cond.selects yX10_search.cls yX10_search yX10_search ∈ am_T := am_in (i := 1117) (by decide +kernel) (by decide +kernel)
theorem mb_yX10_found : am_mB yX10_found cX10_found 5 (some FieldType.int) 1 := ⟨am_in (i := 67) (by decide +kernel) (by decide +kernel), am_inT (am_ck5 (List.mem_of_getElem? (i := 113) rfl)) rfl, ⟨(by decide +kernel), (by decide +kernel), (by decide +kernel)⟩, by decide⟩
theorem im_yX10_found : Cond.instanceMethod yX10_found ∈ am_T := am_in (i := 1124) (by decide +kernel) (by decide +kernel)
theorem se_yX10_found : Cond.selects yX10_found.cls yX10_found yX10_found ∈ am_T := am_in (i := 1125) (by decide +kernel) (by decide +kernel)
theorem mb_yX10_nearest : am_mB yX10_nearest cX10_nearest 9 (some FieldType.int) 2 := ⟨am_in (i := 67) (by decide +kernel) (by decide +kernel), am_inT (am_ck5 (List.mem_of_getElem? (i := 117) rfl)) rfl, ⟨(by decide +kernel), (by decide +kernel), (by decide +kernel)⟩, by decide⟩
theorem im_yX10_nearest : Cond.instanceMethod yX10_nearest ∈ am_T := am_in (i := 1128) (by decide +kernel) (by decide +kernel)
theorem se_yX10_nearest : Cond.selects yX10_nearest.cls yX10_nearest yX10_nearest ∈ am_T := am_in (i := 1129) (by decide +kernel) (by decide +kernel)
theorem mb_yX10_shapeMany : am_mB yX10_shapeMany cX10_shapeMany 1 (some FieldType.int) 0 := ⟨am_in (i := 67) (by decide +kernel) (by decide +kernel), am_inT (am_ck5 (List.mem_of_getElem? (i := 125) rfl)) rfl, ⟨(by decide +kernel), (by decide +kernel), (by decide +kernel)⟩, by decide⟩
theorem im_yX10_shapeMany : Cond.instanceMethod yX10_shapeMany ∈ am_T := am_in (i := 1137) (by decide +kernel) (by decide +kernel)
theorem se_yX10_shapeMany : Cond.selects yX10_shapeMany.cls yX10_shapeMany yX10_shapeMany ∈ am_T := am_in (i := 52) (by decide +kernel) (by decide +kernel)
theorem mb_yX10_count : am_mB yX10_count cX10_count 2 (some FieldType.int) 1 := ⟨am_in (i := 67) (by decide +kernel) (by decide +kernel), am_inT (am_ck5 (List.mem_of_getElem? (i := 121) rfl)) rfl, ⟨(by decide +kernel), (by decide +kernel), (by decide +kernel)⟩, by decide⟩
theorem im_yX10_count : Cond.instanceMethod yX10_count ∈ am_T := am_in (i := 1132) (by decide +kernel) (by decide +kernel)
theorem se_yX10_count : Cond.selects yX10_count.cls yX10_count yX10_count ∈ am_T := am_in (i := 1133) (by decide +kernel) (by decide +kernel)
theorem mb_yJ13_bitCount_95d88 : am_mB yJ13_bitCount_95d88 cJ13_bitCount_95d88 2 (some FieldType.int) 1 := ⟨am_in (i := 70) (by decide +kernel) (by decide +kernel), am_inT (am_ck3 (List.mem_of_getElem? (i := 39) rfl)) rfl, ⟨(by decide +kernel), (by decide +kernel), (by decide +kernel)⟩, by decide⟩
theorem sm_yJ13_bitCount_95d88 : Cond.static yJ13_bitCount_95d88 ∈ am_T := am_in (i := 571) (by decide +kernel) (by decide +kernel)
theorem mb_yJ9_abs_0f7a4 : am_mB yJ9_abs_0f7a4 cJ9_abs_0f7a4 1 (some FieldType.int) 1 := ⟨am_in (i := 71) (by decide +kernel) (by decide +kernel), am_inT (am_ck3 (List.mem_of_getElem? (i := 104) rfl)) rfl, ⟨(by decide +kernel), (by decide +kernel), (by decide +kernel)⟩, by decide⟩
theorem sm_yJ9_abs_0f7a4 : Cond.static yJ9_abs_0f7a4 ∈ am_T := am_in (i := 636) (by decide +kernel) (by decide +kernel)
theorem mb_yJ9_min_7cf53 : am_mB yJ9_min_7cf53 cJ9_min_7cf53 2 (some FieldType.int) 2 := ⟨am_in (i := 71) (by decide +kernel) (by decide +kernel), am_inT (am_ck3 (List.mem_of_getElem? (i := 131) rfl)) rfl, ⟨(by decide +kernel), (by decide +kernel), (by decide +kernel)⟩, by decide⟩
theorem sm_yJ9_min_7cf53 : Cond.static yJ9_min_7cf53 ∈ am_T := am_in (i := 663) (by decide +kernel) (by decide +kernel)
theorem mb_yJ0_length_8abf5 : am_mB yJ0_length_8abf5 cJ0_length_8abf5 1 (some FieldType.int) 0 := ⟨am_in (i := 63) (by decide +kernel) (by decide +kernel), am_inT (am_ck1 (List.mem_of_getElem? (i := 231) rfl)) rfl, ⟨(by decide +kernel), (by decide +kernel), (by decide +kernel)⟩, by decide⟩
theorem im_yJ0_length_8abf5 : Cond.instanceMethod yJ0_length_8abf5 ∈ am_T := am_in (i := 282) (by decide +kernel) (by decide +kernel)
theorem se_yJ0_length_8abf5 : Cond.selects yJ0_length_8abf5.cls yJ0_length_8abf5 yJ0_length_8abf5 ∈ am_T := am_in (i := 283) (by decide +kernel) (by decide +kernel)
theorem mb_yJ0_charAt_5068e : am_mB yJ0_charAt_5068e cJ0_charAt_5068e 2 (some FieldType.char) 1 := ⟨am_in (i := 63) (by decide +kernel) (by decide +kernel), am_inT (am_ck2 (List.mem_of_getElem? (i := 1) rfl)) rfl, ⟨(by decide +kernel), (by decide +kernel), (by decide +kernel)⟩, by decide⟩
theorem im_yJ0_charAt_5068e : Cond.instanceMethod yJ0_charAt_5068e ∈ am_T := am_in (i := 292) (by decide +kernel) (by decide +kernel)
theorem se_yJ0_charAt_5068e : Cond.selects yJ0_charAt_5068e.cls yJ0_charAt_5068e yJ0_charAt_5068e ∈ am_T := am_in (i := 293) (by decide +kernel) (by decide +kernel)
theorem mb_yJ0_coder_7d493 : am_mB yJ0_coder_7d493 cJ0_coder_7d493 1 (some FieldType.byte) 0 := ⟨am_in (i := 63) (by decide +kernel) (by decide +kernel), am_inT (am_ck1 (List.mem_of_getElem? (i := 235) rfl)) rfl, ⟨(by decide +kernel), (by decide +kernel), (by decide +kernel)⟩, by decide⟩
theorem im_yJ0_coder_7d493 : Cond.instanceMethod yJ0_coder_7d493 ∈ am_T := am_in (i := 286) (by decide +kernel) (by decide +kernel)
theorem se_yJ0_coder_7d493 : Cond.selects yJ0_coder_7d493.cls yJ0_coder_7d493 yJ0_coder_7d493 ∈ am_T := am_in (i := 287) (by decide +kernel) (by decide +kernel)
theorem mb_yJ0_isLatin1_aae02 : am_mB yJ0_isLatin1_aae02 cJ0_isLatin1_aae02 1 (some FieldType.boolean) 0 := ⟨am_in (i := 63) (by decide +kernel) (by decide +kernel), am_inT (am_ck2 (List.mem_of_getElem? (i := 5) rfl)) rfl, ⟨(by decide +kernel), (by decide +kernel), (by decide +kernel)⟩, by decide⟩
theorem im_yJ0_isLatin1_aae02 : Cond.instanceMethod yJ0_isLatin1_aae02 ∈ am_T := am_in (i := 296) (by decide +kernel) (by decide +kernel)
theorem se_yJ0_isLatin1_aae02 : Cond.selects yJ0_isLatin1_aae02.cls yJ0_isLatin1_aae02 yJ0_isLatin1_aae02 ∈ am_T := am_in (i := 297) (by decide +kernel) (by decide +kernel)
theorem mb_yJ0_checkIndex_df160 : am_mB yJ0_checkIndex_df160 cJ0_checkIndex_df160 2 none 2 := ⟨am_in (i := 63) (by decide +kernel) (by decide +kernel), am_inT (am_ck2 (List.mem_of_getElem? (i := 11) rfl)) rfl, ⟨(by decide +kernel), (by decide +kernel), (by decide +kernel)⟩, by decide⟩
theorem sm_yJ0_checkIndex_df160 : Cond.static yJ0_checkIndex_df160 ∈ am_T := am_in (i := 303) (by decide +kernel) (by decide +kernel)
theorem mb_yJ1_charAt_3b067 : am_mB yJ1_charAt_3b067 cJ1_charAt_3b067 2 (some FieldType.char) 2 := ⟨am_in (i := 64) (by decide +kernel) (by decide +kernel), am_inT (am_ck2 (List.mem_of_getElem? (i := 8) rfl)) rfl, ⟨(by decide +kernel), (by decide +kernel), (by decide +kernel)⟩, by decide⟩
theorem sm_yJ1_charAt_3b067 : Cond.static yJ1_charAt_3b067 ∈ am_T := am_in (i := 300) (by decide +kernel) (by decide +kernel)
theorem mb_yJ2_getChar_3b067 : am_mB yJ2_getChar_3b067 cJ2_getChar_3b067 2 (some FieldType.char) 2 := ⟨am_in (i := 66) (by decide +kernel) (by decide +kernel), am_inT (am_ck2 (List.mem_of_getElem? (i := 29) rfl)) rfl, ⟨(by decide +kernel), (by decide +kernel), (by decide +kernel)⟩, by decide⟩
theorem sm_yJ2_getChar_3b067 : Cond.static yJ2_getChar_3b067 ∈ am_T := am_in (i := 321) (by decide +kernel) (by decide +kernel)
theorem mb_yJ2_length_9d52b : am_mB yJ2_length_9d52b cJ2_length_9d52b 1 (some FieldType.int) 1 := ⟨am_in (i := 66) (by decide +kernel) (by decide +kernel), am_inT (am_ck2 (List.mem_of_getElem? (i := 25) rfl)) rfl, ⟨(by decide +kernel), (by decide +kernel), (by decide +kernel)⟩, by decide⟩
theorem sm_yJ2_length_9d52b : Cond.static yJ2_length_9d52b ∈ am_T := am_in (i := 317) (by decide +kernel) (by decide +kernel)
theorem mb_yJ2_charAt_3b067 : am_mB yJ2_charAt_3b067 cJ2_charAt_3b067 2 (some FieldType.char) 2 := ⟨am_in (i := 66) (by decide +kernel) (by decide +kernel), am_inT (am_ck2 (List.mem_of_getElem? (i := 19) rfl)) rfl, ⟨(by decide +kernel), (by decide +kernel), (by decide +kernel)⟩, by decide⟩
theorem sm_yJ2_charAt_3b067 : Cond.static yJ2_charAt_3b067 ∈ am_T := am_in (i := 311) (by decide +kernel) (by decide +kernel)
theorem mb_yJ2_checkIndex_2214a : am_mB yJ2_checkIndex_2214a cJ2_checkIndex_2214a 2 none 2 := ⟨am_in (i := 66) (by decide +kernel) (by decide +kernel), am_inT (am_ck2 (List.mem_of_getElem? (i := 22) rfl)) rfl, ⟨(by decide +kernel), (by decide +kernel), (by decide +kernel)⟩, by decide⟩
theorem sm_yJ2_checkIndex_2214a : Cond.static yJ2_checkIndex_2214a ∈ am_T := am_in (i := 314) (by decide +kernel) (by decide +kernel)
theorem mb_yJ7_fill_d0a16 : am_mB yJ7_fill_d0a16 cJ7_fill_d0a16 5 none 2 := ⟨am_in (i := 69) (by decide +kernel) (by decide +kernel), am_inT (am_ck3 (List.mem_of_getElem? (i := 9) rfl)) rfl, ⟨(by decide +kernel), (by decide +kernel), (by decide +kernel)⟩, by decide⟩
theorem sm_yJ7_fill_d0a16 : Cond.static yJ7_fill_d0a16 ∈ am_T := am_in (i := 541) (by decide +kernel) (by decide +kernel)
theorem mb_yJ7_fill_53178 : am_mB yJ7_fill_53178 cJ7_fill_53178 4 none 2 := ⟨am_in (i := 69) (by decide +kernel) (by decide +kernel), am_inT (am_ck3 (List.mem_of_getElem? (i := 124) rfl)) rfl, ⟨(by decide +kernel), (by decide +kernel), (by decide +kernel)⟩, by decide⟩
theorem sm_yJ7_fill_53178 : Cond.static yJ7_fill_53178 ∈ am_T := am_in (i := 656) (by decide +kernel) (by decide +kernel)
theorem mb_yJ3_checkIndex_8e157 : am_mB yJ3_checkIndex_8e157 cJ3_checkIndex_8e157 3 (some FieldType.int) 3 := ⟨am_in (i := 65) (by decide +kernel) (by decide +kernel), am_inT (am_ck2 (List.mem_of_getElem? (i := 16) rfl)) rfl, ⟨(by decide +kernel), (by decide +kernel), (by decide +kernel)⟩, by decide⟩
theorem sm_yJ3_checkIndex_8e157 : Cond.static yJ3_checkIndex_8e157 ∈ am_T := am_in (i := 308) (by decide +kernel) (by decide +kernel)
theorem iz_8 : Cond.initialized (am_CN 8) ∈ am_T := am_in (i := 54) (by decide +kernel) (by decide +kernel)
theorem iz_6 : Cond.initialized (am_CN 6) ∈ am_T := am_in (i := 55) (by decide +kernel) (by decide +kernel)
theorem iz_0 : Cond.initialized (am_CN 0) ∈ am_T := am_in (i := 56) (by decide +kernel) (by decide +kernel)
theorem iz_2 : Cond.initialized (am_CN 2) ∈ am_T := am_in (i := 57) (by decide +kernel) (by decide +kernel)
theorem iz_1 : Cond.initialized (am_CN 1) ∈ am_T := am_in (i := 58) (by decide +kernel) (by decide +kernel)
theorem iz_7 : Cond.initialized (am_CN 7) ∈ am_T := am_in (i := 59) (by decide +kernel) (by decide +kernel)
theorem iz_4 : Cond.initialized (am_CN 4) ∈ am_T := am_in (i := 60) (by decide +kernel) (by decide +kernel)
theorem iz_5 : Cond.initialized (am_CN 5) ∈ am_T := am_in (i := 61) (by decide +kernel) (by decide +kernel)
theorem iz_3 : Cond.initialized (am_CN 3) ∈ am_T := am_in (i := 62) (by decide +kernel) (by decide +kernel)
theorem iz_9 : Cond.initialized (am_CN 9) ∈ am_T := am_in (i := 67) (by decide +kernel) (by decide +kernel)
theorem cl_RL_7 : Cond.classLink RL 7 RX9 ∈ am_T := am_in (i := 72) (by decide +kernel) (by decide +kernel)
theorem ib_8 : Cond.instantiable (am_CN 8) (am_N 8) ∈ am_T := am_in (i := 73) (by decide +kernel) (by decide +kernel)
theorem ml_RL_9 : Cond.methodLink RL 9 yX9_init ∈ am_T := am_in (i := 74) (by decide +kernel) (by decide +kernel)
theorem ml_RX9_1 : Cond.methodLink RX9 1 objectInit ∈ am_T := am_in (i := 77) (by decide +kernel) (by decide +kernel)
theorem oc_im : Cond.instanceMethod objectInit ∈ am_T := am_in (i := 78) (by decide +kernel) (by decide +kernel)
theorem oc_code : Cond.code objectInit ⟨#[0xb1]⟩ 1 none ∈ am_T := am_inT (am_ck1 (List.mem_of_getElem? (i := 26) rfl)) rfl
theorem cl_RX9_7 : Cond.classLink RX9 7 RX7 ∈ am_T := am_in (i := 80) (by decide +kernel) (by decide +kernel)
theorem ib_6 : Cond.instantiable (am_CN 6) (am_N 6) ∈ am_T := am_in (i := 81) (by decide +kernel) (by decide +kernel)
theorem mn_RX9_9 : (RX9, 9, yX7_init, RX9) ∈ am_Nest := by decide +kernel
theorem ml_RX7_3 : Cond.methodLink RX7 3 objectInit ∈ am_T := am_in (i := 85) (by decide +kernel) (by decide +kernel)
theorem fl_RX7_9 : am_fl RX7 9 6 0 := ⟨am_cf_6, by decide, am_in (i := 86) (by decide +kernel) (by decide +kernel)⟩
theorem fl_RX7_15 : am_fl RX7 15 6 1 := ⟨am_cf_6, by decide, am_in (i := 87) (by decide +kernel) (by decide +kernel)⟩
theorem fl_RX7_19 : am_fl RX7 19 6 2 := ⟨am_cf_6, by decide, am_in (i := 88) (by decide +kernel) (by decide +kernel)⟩
theorem fl_RX9_71 : am_fl RX9 71 6 2 := ⟨am_cf_6, by decide, am_in (i := 89) (by decide +kernel) (by decide +kernel)⟩
theorem fl_RX7_22 : am_fl RX7 22 6 3 := ⟨am_cf_6, by decide, am_in (i := 90) (by decide +kernel) (by decide +kernel)⟩
theorem fl_RX9_56 : am_fl RX9 56 6 3 := ⟨am_cf_6, by decide, am_in (i := 91) (by decide +kernel) (by decide +kernel)⟩
theorem fl_RX7_26 : am_fl RX7 26 6 4 := ⟨am_cf_6, by decide, am_in (i := 92) (by decide +kernel) (by decide +kernel)⟩
theorem fl_RX9_68 : am_fl RX9 68 6 4 := ⟨am_cf_6, by decide, am_in (i := 93) (by decide +kernel) (by decide +kernel)⟩
theorem fl_RX7_35 : am_fl RX7 35 6 5 := ⟨am_cf_6, by decide, am_in (i := 94) (by decide +kernel) (by decide +kernel)⟩
theorem ac_char : Cond.arrayClass .char ∈ am_T := am_in (i := 108) (by decide +kernel) (by decide +kernel)
theorem ac_int : Cond.arrayClass .int ∈ am_T := am_in (i := 109) (by decide +kernel) (by decide +kernel)
theorem cl_RX9_16 : Cond.classLink RX9 16 RX0 ∈ am_T := am_in (i := 110) (by decide +kernel) (by decide +kernel)
theorem ib_0 : Cond.instantiable (am_CN 0) (am_N 0) ∈ am_T := am_in (i := 111) (by decide +kernel) (by decide +kernel)
theorem mn_RX9_18 : (RX9, 18, yX0_init, RX9) ∈ am_Nest := by decide +kernel
theorem ml_RX0_3 : Cond.methodLink RX0 3 objectInit ∈ am_T := am_in (i := 115) (by decide +kernel) (by decide +kernel)
theorem cl_RX0_9 : Cond.classLink RX0 9 RX3 ∈ am_T := am_in (i := 116) (by decide +kernel) (by decide +kernel)
theorem ib_2 : Cond.instantiable (am_CN 2) (am_N 2) ∈ am_T := am_in (i := 117) (by decide +kernel) (by decide +kernel)
theorem mn_RX0_11 : (RX0, 11, yX3_init, RX9) ∈ am_Nest := by decide +kernel
theorem ml_RX3_3 : Cond.methodLink RX3 3 objectInit ∈ am_T := am_in (i := 121) (by decide +kernel) (by decide +kernel)
theorem fl_RX3_9 : am_fl RX3 9 2 0 := ⟨am_cf_2, by decide, am_in (i := 122) (by decide +kernel) (by decide +kernel)⟩
theorem ac_long : Cond.arrayClass .long ∈ am_T := am_in (i := 126) (by decide +kernel) (by decide +kernel)
theorem cl_RX0_24 : Cond.classLink RX0 24 RX2 ∈ am_T := am_in (i := 127) (by decide +kernel) (by decide +kernel)
theorem ib_1 : Cond.instantiable (am_CN 1) (am_N 1) ∈ am_T := am_in (i := 128) (by decide +kernel) (by decide +kernel)
theorem mn_RX0_26 : (RX0, 26, yX2_init, RX9) ∈ am_Nest := by decide +kernel
theorem ml_RX2_3 : Cond.methodLink RX2 3 objectInit ∈ am_T := am_in (i := 132) (by decide +kernel) (by decide +kernel)
theorem fl_RX2_9 : am_fl RX2 9 1 0 := ⟨am_cf_1, by decide, am_in (i := 133) (by decide +kernel) (by decide +kernel)⟩
theorem fl_RX2_15 : am_fl RX2 15 1 1 := ⟨am_cf_1, by decide, am_in (i := 134) (by decide +kernel) (by decide +kernel)⟩
theorem cl_RX0_31 : Cond.classLink RX0 31 RX8 ∈ am_T := am_in (i := 140) (by decide +kernel) (by decide +kernel)
theorem ib_7 : Cond.instantiable (am_CN 7) (am_N 7) ∈ am_T := am_in (i := 141) (by decide +kernel) (by decide +kernel)
theorem mn_RX0_33 : (RX0, 33, yX8_init, RX9) ∈ am_Nest := by decide +kernel
theorem ml_RX8_3 : Cond.methodLink RX8 3 objectInit ∈ am_T := am_in (i := 145) (by decide +kernel) (by decide +kernel)
theorem cl_RX8_9 : Cond.classLink RX8 9 "[[I" ∈ am_T := am_in (i := 146) (by decide +kernel) (by decide +kernel)
theorem fl_RX8_11 : am_fl RX8 11 7 0 := ⟨am_cf_7, by decide, am_in (i := 148) (by decide +kernel) (by decide +kernel)⟩
theorem fl_RX0_12 : am_fl RX0 12 0 0 := ⟨am_cf_0, by decide, am_in (i := 152) (by decide +kernel) (by decide +kernel)⟩
theorem fl_RX9_149 : am_fl RX9 149 0 0 := ⟨am_cf_0, by decide, am_in (i := 153) (by decide +kernel) (by decide +kernel)⟩
theorem fl_RX0_18 : am_fl RX0 18 0 1 := ⟨am_cf_0, by decide, am_in (i := 154) (by decide +kernel) (by decide +kernel)⟩
theorem fl_RX9_222 : am_fl RX9 222 0 1 := ⟨am_cf_0, by decide, am_in (i := 155) (by decide +kernel) (by decide +kernel)⟩
theorem fl_RX0_21 : am_fl RX0 21 0 2 := ⟨am_cf_0, by decide, am_in (i := 156) (by decide +kernel) (by decide +kernel)⟩
theorem fl_RX0_27 : am_fl RX0 27 0 3 := ⟨am_cf_0, by decide, am_in (i := 157) (by decide +kernel) (by decide +kernel)⟩
theorem fl_RX9_190 : am_fl RX9 190 0 3 := ⟨am_cf_0, by decide, am_in (i := 158) (by decide +kernel) (by decide +kernel)⟩
theorem fl_RX0_34 : am_fl RX0 34 0 4 := ⟨am_cf_0, by decide, am_in (i := 159) (by decide +kernel) (by decide +kernel)⟩
theorem fl_RX0_38 : am_fl RX0 38 0 5 := ⟨am_cf_0, by decide, am_in (i := 160) (by decide +kernel) (by decide +kernel)⟩
theorem fl_RX0_42 : am_fl RX0 42 0 6 := ⟨am_cf_0, by decide, am_in (i := 161) (by decide +kernel) (by decide +kernel)⟩
theorem cl_RX9_23 : Cond.classLink RX9 23 RX5 ∈ am_T := am_in (i := 177) (by decide +kernel) (by decide +kernel)
theorem ib_4 : Cond.instantiable (am_CN 4) (am_N 4) ∈ am_T := am_in (i := 178) (by decide +kernel) (by decide +kernel)
theorem ml_RX9_25 : Cond.methodLink RX9 25 yX5_init ∈ am_T := am_in (i := 179) (by decide +kernel) (by decide +kernel)
theorem ml_RX5_3 : Cond.methodLink RX5 3 objectInit ∈ am_T := am_in (i := 182) (by decide +kernel) (by decide +kernel)
theorem cl_RX5_9 : Cond.classLink RX5 9 RX6 ∈ am_T := am_in (i := 183) (by decide +kernel) (by decide +kernel)
theorem ib_5 : Cond.instantiable (am_CN 5) (am_N 5) ∈ am_T := am_in (i := 184) (by decide +kernel) (by decide +kernel)
theorem mn_RX5_11 : (RX5, 11, yX6_init, RX9) ∈ am_Nest := by decide +kernel
theorem ml_RX6_3 : Cond.methodLink RX6 3 objectInit ∈ am_T := am_in (i := 188) (by decide +kernel) (by decide +kernel)
theorem fl_RX6_9 : am_fl RX6 9 5 0 := ⟨am_cf_5, by decide, am_in (i := 189) (by decide +kernel) (by decide +kernel)⟩
theorem fl_RX5_81 : am_fl RX5 81 5 0 := ⟨am_cf_5, by decide, am_in (i := 190) (by decide +kernel) (by decide +kernel)⟩
theorem fl_RX9_210 : am_fl RX9 210 5 0 := ⟨am_cf_5, by decide, am_in (i := 191) (by decide +kernel) (by decide +kernel)⟩
theorem fl_RX6_15 : am_fl RX6 15 5 1 := ⟨am_cf_5, by decide, am_in (i := 192) (by decide +kernel) (by decide +kernel)⟩
theorem fl_RX5_85 : am_fl RX5 85 5 1 := ⟨am_cf_5, by decide, am_in (i := 193) (by decide +kernel) (by decide +kernel)⟩
theorem fl_RX9_213 : am_fl RX9 213 5 1 := ⟨am_cf_5, by decide, am_in (i := 194) (by decide +kernel) (by decide +kernel)⟩
theorem fl_RX6_18 : am_fl RX6 18 5 2 := ⟨am_cf_5, by decide, am_in (i := 195) (by decide +kernel) (by decide +kernel)⟩
theorem fl_RX5_94 : am_fl RX5 94 5 2 := ⟨am_cf_5, by decide, am_in (i := 196) (by decide +kernel) (by decide +kernel)⟩
theorem fl_RX9_216 : am_fl RX9 216 5 2 := ⟨am_cf_5, by decide, am_in (i := 197) (by decide +kernel) (by decide +kernel)⟩
theorem fl_RX6_21 : am_fl RX6 21 5 3 := ⟨am_cf_5, by decide, am_in (i := 198) (by decide +kernel) (by decide +kernel)⟩
theorem fl_RX6_24 : am_fl RX6 24 5 4 := ⟨am_cf_5, by decide, am_in (i := 199) (by decide +kernel) (by decide +kernel)⟩
theorem fl_RX5_45 : am_fl RX5 45 5 4 := ⟨am_cf_5, by decide, am_in (i := 200) (by decide +kernel) (by decide +kernel)⟩
theorem fl_RX7_71 : am_fl RX7 71 5 4 := ⟨am_cf_5, by decide, am_in (i := 201) (by decide +kernel) (by decide +kernel)⟩
theorem fl_RX9_118 : am_fl RX9 118 5 4 := ⟨am_cf_5, by decide, am_in (i := 202) (by decide +kernel) (by decide +kernel)⟩
theorem cl_RX5_18 : Cond.classLink RX5 18 RX4 ∈ am_T := am_in (i := 214) (by decide +kernel) (by decide +kernel)
theorem ib_3 : Cond.instantiable (am_CN 3) (am_N 3) ∈ am_T := am_in (i := 216) (by decide +kernel) (by decide +kernel)
theorem mn_RX5_24 : (RX5, 24, yX4_init, RX9) ∈ am_Nest := by decide +kernel
theorem ml_RX4_1 : Cond.methodLink RX4 1 objectInit ∈ am_T := am_in (i := 220) (by decide +kernel) (by decide +kernel)
theorem fl_RX4_7 : am_fl RX4 7 3 0 := ⟨am_cf_3, by decide, am_in (i := 221) (by decide +kernel) (by decide +kernel)⟩
theorem fl_RX4_13 : am_fl RX4 13 3 1 := ⟨am_cf_3, by decide, am_in (i := 222) (by decide +kernel) (by decide +kernel)⟩
theorem fl_RX4_16 : am_fl RX4 16 3 2 := ⟨am_cf_3, by decide, am_in (i := 223) (by decide +kernel) (by decide +kernel)⟩
theorem fl_RX4_20 : am_fl RX4 20 3 3 := ⟨am_cf_3, by decide, am_in (i := 224) (by decide +kernel) (by decide +kernel)⟩
theorem fl_RX4_23 : am_fl RX4 23 3 4 := ⟨am_cf_3, by decide, am_in (i := 225) (by decide +kernel) (by decide +kernel)⟩
theorem fl_RX4_26 : am_fl RX4 26 3 5 := ⟨am_cf_3, by decide, am_in (i := 226) (by decide +kernel) (by decide +kernel)⟩
theorem ml_RX5_25 : Cond.methodLink RX5 25 yX5_begin ∈ am_T := am_in (i := 240) (by decide +kernel) (by decide +kernel)
theorem fl_RX5_12 : am_fl RX5 12 4 0 := ⟨am_cf_4, by decide, am_in (i := 244) (by decide +kernel) (by decide +kernel)⟩
theorem fl_RX7_67 : am_fl RX7 67 4 0 := ⟨am_cf_4, by decide, am_in (i := 245) (by decide +kernel) (by decide +kernel)⟩
theorem fl_RX9_109 : am_fl RX9 109 4 0 := ⟨am_cf_4, by decide, am_in (i := 246) (by decide +kernel) (by decide +kernel)⟩
theorem fl_RX5_20 : am_fl RX5 20 4 1 := ⟨am_cf_4, by decide, am_in (i := 247) (by decide +kernel) (by decide +kernel)⟩
theorem fl_RX5_42 : am_fl RX5 42 4 2 := ⟨am_cf_4, by decide, am_in (i := 248) (by decide +kernel) (by decide +kernel)⟩
theorem fl_RX7_76 : am_fl RX7 76 4 2 := ⟨am_cf_4, by decide, am_in (i := 249) (by decide +kernel) (by decide +kernel)⟩
theorem fl_RX9_99 : am_fl RX9 99 4 2 := ⟨am_cf_4, by decide, am_in (i := 250) (by decide +kernel) (by decide +kernel)⟩
theorem fl_RX5_29 : am_fl RX5 29 4 3 := ⟨am_cf_4, by decide, am_in (i := 251) (by decide +kernel) (by decide +kernel)⟩
theorem fl_RX0_61 : am_fl RX0 61 4 3 := ⟨am_cf_4, by decide, am_in (i := 252) (by decide +kernel) (by decide +kernel)⟩
theorem fl_RX9_82 : am_fl RX9 82 4 3 := ⟨am_cf_4, by decide, am_in (i := 253) (by decide +kernel) (by decide +kernel)⟩
theorem fl_RX5_33 : am_fl RX5 33 4 4 := ⟨am_cf_4, by decide, am_in (i := 254) (by decide +kernel) (by decide +kernel)⟩
theorem fl_RX0_65 : am_fl RX0 65 4 4 := ⟨am_cf_4, by decide, am_in (i := 255) (by decide +kernel) (by decide +kernel)⟩
theorem fl_RX9_79 : am_fl RX9 79 4 4 := ⟨am_cf_4, by decide, am_in (i := 256) (by decide +kernel) (by decide +kernel)⟩
theorem fl_RX5_36 : am_fl RX5 36 4 5 := ⟨am_cf_4, by decide, am_in (i := 257) (by decide +kernel) (by decide +kernel)⟩
theorem fl_RX8_43 : am_fl RX8 43 4 5 := ⟨am_cf_4, by decide, am_in (i := 258) (by decide +kernel) (by decide +kernel)⟩
theorem fl_RX0_103 : am_fl RX0 103 4 5 := ⟨am_cf_4, by decide, am_in (i := 259) (by decide +kernel) (by decide +kernel)⟩
theorem fl_RX9_85 : am_fl RX9 85 4 5 := ⟨am_cf_4, by decide, am_in (i := 260) (by decide +kernel) (by decide +kernel)⟩
theorem fl_RX5_39 : am_fl RX5 39 4 6 := ⟨am_cf_4, by decide, am_in (i := 261) (by decide +kernel) (by decide +kernel)⟩
theorem fl_RX8_21 : am_fl RX8 21 4 6 := ⟨am_cf_4, by decide, am_in (i := 262) (by decide +kernel) (by decide +kernel)⟩
theorem fl_RX0_86 : am_fl RX0 86 4 6 := ⟨am_cf_4, by decide, am_in (i := 263) (by decide +kernel) (by decide +kernel)⟩
theorem fl_RX9_88 : am_fl RX9 88 4 6 := ⟨am_cf_4, by decide, am_in (i := 264) (by decide +kernel) (by decide +kernel)⟩
theorem ml_RX9_35 : Cond.methodLink RX9 35 yJ0_length_8abf5 ∈ am_T := am_in (i := 281) (by decide +kernel) (by decide +kernel)
theorem ml_RJ0_335 : Cond.methodLink RJ0 335 yJ0_coder_7d493 ∈ am_T := am_in (i := 285) (by decide +kernel) (by decide +kernel)
theorem fw_RJ0_38 : Cond.fieldLink RJ0 38 "java/lang/String" "COMPACT_STRINGS" "Z" ∈ am_T := am_in (i := 289) (by decide +kernel) (by decide +kernel)
theorem ml_RX9_41 : Cond.methodLink RX9 41 yJ0_charAt_5068e ∈ am_T := am_in (i := 291) (by decide +kernel) (by decide +kernel)
theorem ml_RJ0_492 : Cond.methodLink RJ0 492 yJ0_isLatin1_aae02 ∈ am_T := am_in (i := 295) (by decide +kernel) (by decide +kernel)
theorem ml_RJ0_495 : Cond.methodLink RJ0 495 yJ1_charAt_3b067 ∈ am_T := am_in (i := 299) (by decide +kernel) (by decide +kernel)
theorem ml_RJ1_9 : Cond.methodLink RJ1 9 yJ0_checkIndex_df160 ∈ am_T := am_in (i := 302) (by decide +kernel) (by decide +kernel)
theorem fw_RJ0_1053 : Cond.fieldLink RJ0 1053 "jdk/internal/util/Preconditions" "SIOOBE_FORMATTER" "Ljava/util/function/BiFunction;" ∈ am_T := am_in (i := 305) (by decide +kernel) (by decide +kernel)
theorem ml_RJ0_1059 : Cond.methodLink RJ0 1059 yJ3_checkIndex_8e157 ∈ am_T := am_in (i := 307) (by decide +kernel) (by decide +kernel)
theorem ml_RJ0_498 : Cond.methodLink RJ0 498 yJ2_charAt_3b067 ∈ am_T := am_in (i := 310) (by decide +kernel) (by decide +kernel)
theorem ml_RJ2_67 : Cond.methodLink RJ2 67 yJ2_checkIndex_2214a ∈ am_T := am_in (i := 313) (by decide +kernel) (by decide +kernel)
theorem ml_RJ2_48 : Cond.methodLink RJ2 48 yJ2_length_9d52b ∈ am_T := am_in (i := 316) (by decide +kernel) (by decide +kernel)
theorem ml_RJ2_414 : Cond.methodLink RJ2 414 yJ0_checkIndex_df160 ∈ am_T := am_in (i := 319) (by decide +kernel) (by decide +kernel)
theorem ml_RJ2_71 : Cond.methodLink RJ2 71 yJ2_getChar_3b067 ∈ am_T := am_in (i := 320) (by decide +kernel) (by decide +kernel)
theorem fw_RJ2_44 : Cond.fieldLink RJ2 44 "java/lang/StringUTF16" "$assertionsDisabled" "Z" ∈ am_T := am_in (i := 323) (by decide +kernel) (by decide +kernel)
theorem fw_RJ2_59 : Cond.fieldLink RJ2 59 "java/lang/StringUTF16" "HI_BYTE_SHIFT" "I" ∈ am_T := am_in (i := 325) (by decide +kernel) (by decide +kernel)
theorem fw_RJ2_63 : Cond.fieldLink RJ2 63 "java/lang/StringUTF16" "LO_BYTE_SHIFT" "I" ∈ am_T := am_in (i := 327) (by decide +kernel) (by decide +kernel)
theorem ml_RX9_45 : Cond.methodLink RX9 45 yX7_append ∈ am_T := am_in (i := 329) (by decide +kernel) (by decide +kernel)
theorem ml_RX9_49 : Cond.methodLink RX9 49 yX7_readInto ∈ am_T := am_in (i := 333) (by decide +kernel) (by decide +kernel)
theorem ml_RX7_29 : Cond.methodLink RX7 29 yX5_begin ∈ am_T := am_in (i := 337) (by decide +kernel) (by decide +kernel)
theorem ml_RX7_38 : Cond.methodLink RX7 38 yX7_readItem ∈ am_T := am_in (i := 338) (by decide +kernel) (by decide +kernel)
theorem ml_RX7_45 : Cond.methodLink RX7 45 yX7_letterHere ∈ am_T := am_in (i := 342) (by decide +kernel) (by decide +kernel)
theorem ml_RX7_49 : Cond.methodLink RX7 49 yX7_readKind ∈ am_T := am_in (i := 346) (by decide +kernel) (by decide +kernel)
theorem ml_RX7_52 : Cond.methodLink RX7 52 yX7_mayStand ∈ am_T := am_in (i := 350) (by decide +kernel) (by decide +kernel)
theorem ml_RX7_56 : Cond.methodLink RX7 56 yX7_readNumber ∈ am_T := am_in (i := 354) (by decide +kernel) (by decide +kernel)
theorem ml_RX7_79 : Cond.methodLink RX7 79 yX7_isFigure ∈ am_T := am_in (i := 358) (by decide +kernel) (by decide +kernel)
theorem ml_RX7_60 : Cond.methodLink RX7 60 yX7_isTold ∈ am_T := am_in (i := 361) (by decide +kernel) (by decide +kernel)
theorem mn_RX7_83 : (RX7, 83, yX9_isBit, RX9) ∈ am_Nest := by decide +kernel
theorem ml_RX7_87 : Cond.methodLink RX7 87 yX5_side ∈ am_T := am_in (i := 368) (by decide +kernel) (by decide +kernel)
theorem ml_RX7_63 : Cond.methodLink RX7 63 yX7_put ∈ am_T := am_in (i := 372) (by decide +kernel) (by decide +kernel)
theorem ml_RX7_91 : Cond.methodLink RX7 91 yX6_add ∈ am_T := am_in (i := 376) (by decide +kernel) (by decide +kernel)
theorem ml_RX7_95 : Cond.methodLink RX7 95 yX5_addBox ∈ am_T := am_in (i := 380) (by decide +kernel) (by decide +kernel)
theorem ml_RX5_52 : Cond.methodLink RX5 52 yX4_becomeBox ∈ am_T := am_in (i := 384) (by decide +kernel) (by decide +kernel)
theorem ml_RX7_99 : Cond.methodLink RX7 99 yX5_addDisc ∈ am_T := am_in (i := 388) (by decide +kernel) (by decide +kernel)
theorem ml_RX5_56 : Cond.methodLink RX5 56 yX4_becomeDisc ∈ am_T := am_in (i := 392) (by decide +kernel) (by decide +kernel)
theorem ml_RX7_42 : Cond.methodLink RX7 42 yX7_blame ∈ am_T := am_in (i := 396) (by decide +kernel) (by decide +kernel)
theorem ml_RX9_53 : Cond.methodLink RX9 53 yX7_clear ∈ am_T := am_in (i := 400) (by decide +kernel) (by decide +kernel)
theorem fl_RX9_10 : am_fl RX9 10 8 0 := ⟨am_cf_8, by decide, am_in (i := 404) (by decide +kernel) (by decide +kernel)⟩
theorem fl_RX9_19 : am_fl RX9 19 8 1 := ⟨am_cf_8, by decide, am_in (i := 405) (by decide +kernel) (by decide +kernel)⟩
theorem fl_RX9_26 : am_fl RX9 26 8 2 := ⟨am_cf_8, by decide, am_in (i := 406) (by decide +kernel) (by decide +kernel)⟩
theorem fl_RX9_30 : am_fl RX9 30 8 3 := ⟨am_cf_8, by decide, am_in (i := 407) (by decide +kernel) (by decide +kernel)⟩
theorem ac_byte : Cond.arrayClass .byte ∈ am_T := am_in (i := 417) (by decide +kernel) (by decide +kernel)
theorem ml_RL_13 : Cond.methodLink RL 13 yX9_write ∈ am_T := am_in (i := 418) (by decide +kernel) (by decide +kernel)
theorem ml_RL_18 : Cond.methodLink RL 18 yX9_wipe ∈ am_T := am_in (i := 422) (by decide +kernel) (by decide +kernel)
theorem ml_RL_23 : Cond.methodLink RL 23 yX9_fault ∈ am_T := am_in (i := 426) (by decide +kernel) (by decide +kernel)
theorem ml_RL_27 : Cond.methodLink RL 27 yX9_lay ∈ am_T := am_in (i := 430) (by decide +kernel) (by decide +kernel)
theorem ml_RX9_59 : Cond.methodLink RX9 59 yX7_blameEmptiness ∈ am_T := am_in (i := 434) (by decide +kernel) (by decide +kernel)
theorem ml_RX9_62 : Cond.methodLink RX9 62 yX0_forget ∈ am_T := am_in (i := 438) (by decide +kernel) (by decide +kernel)
theorem ml_RX9_65 : Cond.methodLink RX9 65 yX5_side ∈ am_T := am_in (i := 442) (by decide +kernel) (by decide +kernel)
theorem ml_RL_31 : Cond.methodLink RL 31 yX9_cause ∈ am_T := am_in (i := 443) (by decide +kernel) (by decide +kernel)
theorem ml_RL_35 : Cond.methodLink RL 35 yX9_curve ∈ am_T := am_in (i := 447) (by decide +kernel) (by decide +kernel)
theorem ml_RX9_75 : Cond.methodLink RX9 75 yX9_isBit ∈ am_T := am_in (i := 451) (by decide +kernel) (by decide +kernel)
theorem ml_RL_39 : Cond.methodLink RL 39 yX9_levels ∈ am_T := am_in (i := 452) (by decide +kernel) (by decide +kernel)
theorem ml_RL_44 : Cond.methodLink RL 44 yX9_box ∈ am_T := am_in (i := 456) (by decide +kernel) (by decide +kernel)
theorem ml_RX9_91 : Cond.methodLink RX9 91 yX5_hasCell ∈ am_T := am_in (i := 460) (by decide +kernel) (by decide +kernel)
theorem ml_RX5_48 : Cond.methodLink RX5 48 yX5_side ∈ am_T := am_in (i := 464) (by decide +kernel) (by decide +kernel)
theorem ml_RX9_95 : Cond.methodLink RX9 95 yX5_addBox ∈ am_T := am_in (i := 465) (by decide +kernel) (by decide +kernel)
theorem ml_RL_49 : Cond.methodLink RL 49 yX9_disc ∈ am_T := am_in (i := 466) (by decide +kernel) (by decide +kernel)
theorem ml_RX9_102 : Cond.methodLink RX9 102 yX5_addDisc ∈ am_T := am_in (i := 470) (by decide +kernel) (by decide +kernel)
theorem ml_RL_54 : Cond.methodLink RL 54 yX9_drop ∈ am_T := am_in (i := 471) (by decide +kernel) (by decide +kernel)
theorem ml_RX9_106 : Cond.methodLink RX9 106 yX5_removePart ∈ am_T := am_in (i := 475) (by decide +kernel) (by decide +kernel)
theorem ml_RL_58 : Cond.methodLink RL 58 yX9_point ∈ am_T := am_in (i := 479) (by decide +kernel) (by decide +kernel)
theorem ml_RX9_113 : Cond.methodLink RX9 113 yX6_add ∈ am_T := am_in (i := 483) (by decide +kernel) (by decide +kernel)
theorem ml_RL_62 : Cond.methodLink RL 62 yX9_lift ∈ am_T := am_in (i := 484) (by decide +kernel) (by decide +kernel)
theorem ml_RX9_121 : Cond.methodLink RX9 121 yX6_remove ∈ am_T := am_in (i := 488) (by decide +kernel) (by decide +kernel)
theorem ml_RX6_28 : Cond.methodLink RX6 28 yX6_has ∈ am_T := am_in (i := 492) (by decide +kernel) (by decide +kernel)
theorem ml_RL_66 : Cond.methodLink RL 66 yX9_key ∈ am_T := am_in (i := 496) (by decide +kernel) (by decide +kernel)
theorem ml_RX9_124 : Cond.methodLink RX9 124 yX1_keyOf ∈ am_T := am_in (i := 500) (by decide +kernel) (by decide +kernel)
theorem ml_RX1_9 : Cond.methodLink RX1 9 yX1_turnedX ∈ am_T := am_in (i := 503) (by decide +kernel) (by decide +kernel)
theorem ml_RL_70 : Cond.methodLink RL 70 yX9_cell ∈ am_T := am_in (i := 506) (by decide +kernel) (by decide +kernel)
theorem ml_RX9_130 : Cond.methodLink RX9 130 yX5_hasTile ∈ am_T := am_in (i := 510) (by decide +kernel) (by decide +kernel)
theorem ml_RX9_133 : Cond.methodLink RX9 133 yX1_placeOf ∈ am_T := am_in (i := 514) (by decide +kernel) (by decide +kernel)
theorem ml_RX9_137 : Cond.methodLink RX9 137 yX1_half ∈ am_T := am_in (i := 517) (by decide +kernel) (by decide +kernel)
theorem ml_RL_74 : Cond.methodLink RL 74 yX9_tile ∈ am_T := am_in (i := 520) (by decide +kernel) (by decide +kernel)
theorem ml_RX9_141 : Cond.methodLink RX9 141 yX5_tileSize ∈ am_T := am_in (i := 524) (by decide +kernel) (by decide +kernel)
theorem ml_RX9_145 : Cond.methodLink RX9 145 yX0_refresh ∈ am_T := am_in (i := 528) (by decide +kernel) (by decide +kernel)
theorem ml_RX0_45 : Cond.methodLink RX0 45 yX0_findShape ∈ am_T := am_in (i := 532) (by decide +kernel) (by decide +kernel)
theorem ml_RX0_52 : Cond.methodLink RX0 52 yX3_clear ∈ am_T := am_in (i := 536) (by decide +kernel) (by decide +kernel)
theorem ml_RX3_15 : Cond.methodLink RX3 15 yJ7_fill_d0a16 ∈ am_T := am_in (i := 540) (by decide +kernel) (by decide +kernel)
theorem ml_RX0_55 : Cond.methodLink RX0 55 yX5_tileSize ∈ am_T := am_in (i := 543) (by decide +kernel) (by decide +kernel)
theorem ml_RX0_68 : Cond.methodLink RX0 68 yX1_placeOf ∈ am_T := am_in (i := 544) (by decide +kernel) (by decide +kernel)
theorem ml_RX0_74 : Cond.methodLink RX0 74 yX1_half ∈ am_T := am_in (i := 545) (by decide +kernel) (by decide +kernel)
theorem ml_RX0_78 : Cond.methodLink RX0 78 yX5_inShape ∈ am_T := am_in (i := 546) (by decide +kernel) (by decide +kernel)
theorem ml_RX5_60 : Cond.methodLink RX5 60 yX4_has ∈ am_T := am_in (i := 550) (by decide +kernel) (by decide +kernel)
theorem ml_RX5_64 : Cond.methodLink RX5 64 yX4_putsOn ∈ am_T := am_in (i := 554) (by decide +kernel) (by decide +kernel)
theorem ml_RX0_82 : Cond.methodLink RX0 82 yX3_add ∈ am_T := am_in (i := 558) (by decide +kernel) (by decide +kernel)
theorem ml_RX0_49 : Cond.methodLink RX0 49 yX0_findCovers ∈ am_T := am_in (i := 562) (by decide +kernel) (by decide +kernel)
theorem ml_RX0_89 : Cond.methodLink RX0 89 yX3_countIn ∈ am_T := am_in (i := 566) (by decide +kernel) (by decide +kernel)
theorem ml_RX3_25 : Cond.methodLink RX3 25 yJ13_bitCount_95d88 ∈ am_T := am_in (i := 570) (by decide +kernel) (by decide +kernel)
theorem kl_RJ13_314 : Cond.constantLong RJ13 314 6148914691236517205 ∈ am_T := am_in (i := 573) (by decide +kernel) (by decide +kernel)
theorem kl_RJ13_316 : Cond.constantLong RJ13 316 3689348814741910323 ∈ am_T := am_in (i := 574) (by decide +kernel) (by decide +kernel)
theorem kl_RJ13_318 : Cond.constantLong RJ13 318 1085102592571150095 ∈ am_T := am_in (i := 575) (by decide +kernel) (by decide +kernel)
theorem ml_RX0_92 : Cond.methodLink RX0 92 yX3_addAll ∈ am_T := am_in (i := 576) (by decide +kernel) (by decide +kernel)
theorem ml_RX3_21 : Cond.methodLink RX3 21 yX3_add ∈ am_T := am_in (i := 580) (by decide +kernel) (by decide +kernel)
theorem ml_RX9_153 : Cond.methodLink RX9 153 yX3_countIn ∈ am_T := am_in (i := 581) (by decide +kernel) (by decide +kernel)
theorem ml_RX9_158 : Cond.methodLink RX9 158 yX5_pointsIn ∈ am_T := am_in (i := 582) (by decide +kernel) (by decide +kernel)
theorem ml_RX5_68 : Cond.methodLink RX5 68 yX5_pointKey ∈ am_T := am_in (i := 586) (by decide +kernel) (by decide +kernel)
theorem ml_RX5_97 : Cond.methodLink RX5 97 yX1_keyOf ∈ am_T := am_in (i := 590) (by decide +kernel) (by decide +kernel)
theorem ml_RX5_72 : Cond.methodLink RX5 72 yX5_tileAround ∈ am_T := am_in (i := 591) (by decide +kernel) (by decide +kernel)
theorem ml_RL_79 : Cond.methodLink RL 79 yX9_beside ∈ am_T := am_in (i := 595) (by decide +kernel) (by decide +kernel)
theorem ml_RX9_161 : Cond.methodLink RX9 161 yX9_isStep ∈ am_T := am_in (i := 599) (by decide +kernel) (by decide +kernel)
theorem ml_RL_83 : Cond.methodLink RL 83 yX9_common ∈ am_T := am_in (i := 602) (by decide +kernel) (by decide +kernel)
theorem ml_RL_87 : Cond.methodLink RL 87 yX9_leaps ∈ am_T := am_in (i := 606) (by decide +kernel) (by decide +kernel)
theorem ml_RL_91 : Cond.methodLink RL 91 yX9_in ∈ am_T := am_in (i := 610) (by decide +kernel) (by decide +kernel)
theorem ml_RX9_164 : Cond.methodLink RX9 164 yX5_inShape ∈ am_T := am_in (i := 614) (by decide +kernel) (by decide +kernel)
theorem ml_RL_95 : Cond.methodLink RL 95 yX9_cover ∈ am_T := am_in (i := 615) (by decide +kernel) (by decide +kernel)
theorem ml_RX9_167 : Cond.methodLink RX9 167 yX0_keysOf ∈ am_T := am_in (i := 619) (by decide +kernel) (by decide +kernel)
theorem ml_RX9_171 : Cond.methodLink RX9 171 yX0_tileOf ∈ am_T := am_in (i := 623) (by decide +kernel) (by decide +kernel)
theorem ml_RX0_96 : Cond.methodLink RX0 96 yX0_widestAt ∈ am_T := am_in (i := 627) (by decide +kernel) (by decide +kernel)
theorem ml_RX0_100 : Cond.methodLink RX0 100 yX5_tileAround ∈ am_T := am_in (i := 630) (by decide +kernel) (by decide +kernel)
theorem ml_RL_99 : Cond.methodLink RL 99 yX9_rest ∈ am_T := am_in (i := 631) (by decide +kernel) (by decide +kernel)
theorem ml_RX9_175 : Cond.methodLink RX9 175 yJ9_abs_0f7a4 ∈ am_T := am_in (i := 635) (by decide +kernel) (by decide +kernel)
theorem ml_RL_103 : Cond.methodLink RL 103 yX9_best ∈ am_T := am_in (i := 638) (by decide +kernel) (by decide +kernel)
theorem ml_RX9_180 : Cond.methodLink RX9 180 yX0_leastCells ∈ am_T := am_in (i := 642) (by decide +kernel) (by decide +kernel)
theorem ml_RX0_106 : Cond.methodLink RX0 106 yX8_weighWorld ∈ am_T := am_in (i := 646) (by decide +kernel) (by decide +kernel)
theorem ml_RX8_16 : Cond.methodLink RX8 16 yX8_weighTile ∈ am_T := am_in (i := 650) (by decide +kernel) (by decide +kernel)
theorem ml_RX8_27 : Cond.methodLink RX8 27 yX5_tileSize ∈ am_T := am_in (i := 653) (by decide +kernel) (by decide +kernel)
theorem ml_RX8_31 : Cond.methodLink RX8 31 yX3_countIn ∈ am_T := am_in (i := 654) (by decide +kernel) (by decide +kernel)
theorem ml_RX8_37 : Cond.methodLink RX8 37 yJ7_fill_53178 ∈ am_T := am_in (i := 655) (by decide +kernel) (by decide +kernel)
theorem kc_RX8_20 : Cond.constant RX8 20 1000000 ∈ am_T := am_in (i := 658) (by decide +kernel) (by decide +kernel)
theorem ml_RX8_46 : Cond.methodLink RX8 46 yX8_addRow ∈ am_T := am_in (i := 659) (by decide +kernel) (by decide +kernel)
theorem ml_RX8_53 : Cond.methodLink RX8 53 yJ9_min_7cf53 ∈ am_T := am_in (i := 662) (by decide +kernel) (by decide +kernel)
theorem ml_RX8_50 : Cond.methodLink RX8 50 yX8_takeWhole ∈ am_T := am_in (i := 665) (by decide +kernel) (by decide +kernel)
theorem ml_RX0_110 : Cond.methodLink RX0 110 yX8_leastOf ∈ am_T := am_in (i := 668) (by decide +kernel) (by decide +kernel)
theorem kc_RX9_186 : Cond.constant RX9 186 1000000 ∈ am_T := am_in (i := 672) (by decide +kernel) (by decide +kernel)
theorem ml_RL_107 : Cond.methodLink RL 107 yX9_span ∈ am_T := am_in (i := 673) (by decide +kernel) (by decide +kernel)
theorem ml_RX9_187 : Cond.methodLink RX9 187 yX3_runEnd ∈ am_T := am_in (i := 677) (by decide +kernel) (by decide +kernel)
theorem ml_RX3_31 : Cond.methodLink RX3 31 yX3_has ∈ am_T := am_in (i := 681) (by decide +kernel) (by decide +kernel)
theorem ml_RL_111 : Cond.methodLink RL 111 yX9_joined ∈ am_T := am_in (i := 685) (by decide +kernel) (by decide +kernel)
theorem ml_RX9_194 : Cond.methodLink RX9 194 yX2_filledFor ∈ am_T := am_in (i := 689) (by decide +kernel) (by decide +kernel)
theorem ml_RX2_19 : Cond.methodLink RX2 19 yX3_has ∈ am_T := am_in (i := 693) (by decide +kernel) (by decide +kernel)
theorem ml_RX2_25 : Cond.methodLink RX2 25 yX2_filledBy ∈ am_T := am_in (i := 694) (by decide +kernel) (by decide +kernel)
theorem ml_RL_115 : Cond.methodLink RL 115 yX9_at ∈ am_T := am_in (i := 698) (by decide +kernel) (by decide +kernel)
theorem ml_RX9_200 : Cond.methodLink RX9 200 yX6_has ∈ am_T := am_in (i := 702) (by decide +kernel) (by decide +kernel)
theorem ml_RX9_203 : Cond.methodLink RX9 203 yX6_arrange ∈ am_T := am_in (i := 703) (by decide +kernel) (by decide +kernel)
theorem ml_RX6_32 : Cond.methodLink RX6 32 yX1_keyOf ∈ am_T := am_in (i := 707) (by decide +kernel) (by decide +kernel)
theorem ml_RX9_207 : Cond.methodLink RX9 207 yX6_rankOf ∈ am_T := am_in (i := 708) (by decide +kernel) (by decide +kernel)
theorem ml_RL_119 : Cond.methodLink RL 119 yX9_ordered ∈ am_T := am_in (i := 712) (by decide +kernel) (by decide +kernel)
theorem ml_RL_123 : Cond.methodLink RL 123 yX9_search ∈ am_T := am_in (i := 716) (by decide +kernel) (by decide +kernel)
theorem ml_RX9_219 : Cond.methodLink RX9 219 yX5_pointsInShape ∈ am_T := am_in (i := 720) (by decide +kernel) (by decide +kernel)
theorem ml_RX5_88 : Cond.methodLink RX5 88 yX5_inShape ∈ am_T := am_in (i := 724) (by decide +kernel) (by decide +kernel)
theorem ml_RX9_225 : Cond.methodLink RX9 225 yX5_pointsAmong ∈ am_T := am_in (i := 725) (by decide +kernel) (by decide +kernel)
theorem ml_RX5_76 : Cond.methodLink RX5 76 yX3_has ∈ am_T := am_in (i := 729) (by decide +kernel) (by decide +kernel)
theorem ml_RL_127 : Cond.methodLink RL 127 yX9_found ∈ am_T := am_in (i := 730) (by decide +kernel) (by decide +kernel)
theorem ml_RX9_229 : Cond.methodLink RX9 229 yX5_pointInShape ∈ am_T := am_in (i := 734) (by decide +kernel) (by decide +kernel)
theorem ml_RX5_91 : Cond.methodLink RX5 91 yX6_arrange ∈ am_T := am_in (i := 738) (by decide +kernel) (by decide +kernel)
theorem ml_RL_131 : Cond.methodLink RL 131 yX9_nearest ∈ am_T := am_in (i := 739) (by decide +kernel) (by decide +kernel)
theorem ml_RX9_232 : Cond.methodLink RX9 232 yX6_nearestTo ∈ am_T := am_in (i := 743) (by decide +kernel) (by decide +kernel)
theorem ml_RL_135 : Cond.methodLink RL 135 yX9_count ∈ am_T := am_in (i := 747) (by decide +kernel) (by decide +kernel)
theorem cl_RL_10 : Cond.classLink RL 10 RX10 ∈ am_T := am_in (i := 751) (by decide +kernel) (by decide +kernel)
theorem ib_9 : Cond.instantiable (am_CN 9) (am_N 9) ∈ am_T := am_in (i := 752) (by decide +kernel) (by decide +kernel)
theorem ml_RL_12 : Cond.methodLink RL 12 yX10_init ∈ am_T := am_in (i := 753) (by decide +kernel) (by decide +kernel)
theorem ml_RX10_1 : Cond.methodLink RX10 1 objectInit ∈ am_T := am_in (i := 756) (by decide +kernel) (by decide +kernel)
theorem fl_RX10_7 : am_fl RX10 7 9 0 := ⟨am_cf_9, by decide, am_in (i := 757) (by decide +kernel) (by decide +kernel)⟩
theorem fl_RX10_13 : am_fl RX10 13 9 1 := ⟨am_cf_9, by decide, am_in (i := 758) (by decide +kernel) (by decide +kernel)⟩
theorem fl_RX10_105 : am_fl RX10 105 9 2 := ⟨am_cf_9, by decide, am_in (i := 759) (by decide +kernel) (by decide +kernel)⟩
theorem fl_RX10_16 : am_fl RX10 16 9 3 := ⟨am_cf_9, by decide, am_in (i := 760) (by decide +kernel) (by decide +kernel)⟩
theorem fl_RX10_19 : am_fl RX10 19 9 4 := ⟨am_cf_9, by decide, am_in (i := 761) (by decide +kernel) (by decide +kernel)⟩
theorem fl_RX10_22 : am_fl RX10 22 9 5 := ⟨am_cf_9, by decide, am_in (i := 762) (by decide +kernel) (by decide +kernel)⟩
theorem fl_RX10_26 : am_fl RX10 26 9 6 := ⟨am_cf_9, by decide, am_in (i := 763) (by decide +kernel) (by decide +kernel)⟩
theorem fl_RX10_29 : am_fl RX10 29 9 7 := ⟨am_cf_9, by decide, am_in (i := 764) (by decide +kernel) (by decide +kernel)⟩
theorem fl_RX10_32 : am_fl RX10 32 9 8 := ⟨am_cf_9, by decide, am_in (i := 765) (by decide +kernel) (by decide +kernel)⟩
theorem fl_RX10_35 : am_fl RX10 35 9 9 := ⟨am_cf_9, by decide, am_in (i := 766) (by decide +kernel) (by decide +kernel)⟩
theorem fl_RX10_70 : am_fl RX10 70 9 10 := ⟨am_cf_9, by decide, am_in (i := 767) (by decide +kernel) (by decide +kernel)⟩
theorem fl_RX10_79 : am_fl RX10 79 9 11 := ⟨am_cf_9, by decide, am_in (i := 768) (by decide +kernel) (by decide +kernel)⟩
theorem fl_RX10_38 : am_fl RX10 38 9 12 := ⟨am_cf_9, by decide, am_in (i := 769) (by decide +kernel) (by decide +kernel)⟩
theorem fl_RX10_73 : am_fl RX10 73 9 13 := ⟨am_cf_9, by decide, am_in (i := 770) (by decide +kernel) (by decide +kernel)⟩
theorem fl_RX10_96 : am_fl RX10 96 9 14 := ⟨am_cf_9, by decide, am_in (i := 771) (by decide +kernel) (by decide +kernel)⟩
theorem fl_RX10_102 : am_fl RX10 102 9 15 := ⟨am_cf_9, by decide, am_in (i := 772) (by decide +kernel) (by decide +kernel)⟩
theorem fl_RX10_99 : am_fl RX10 99 9 16 := ⟨am_cf_9, by decide, am_in (i := 773) (by decide +kernel) (by decide +kernel)⟩
theorem fl_RX10_93 : am_fl RX10 93 9 17 := ⟨am_cf_9, by decide, am_in (i := 774) (by decide +kernel) (by decide +kernel)⟩
theorem fl_RX10_41 : am_fl RX10 41 9 18 := ⟨am_cf_9, by decide, am_in (i := 775) (by decide +kernel) (by decide +kernel)⟩
theorem fl_RX10_147 : am_fl RX10 147 9 19 := ⟨am_cf_9, by decide, am_in (i := 776) (by decide +kernel) (by decide +kernel)⟩
theorem fl_RX10_150 : am_fl RX10 150 9 20 := ⟨am_cf_9, by decide, am_in (i := 777) (by decide +kernel) (by decide +kernel)⟩
theorem fl_RX10_44 : am_fl RX10 44 9 21 := ⟨am_cf_9, by decide, am_in (i := 778) (by decide +kernel) (by decide +kernel)⟩
theorem fl_RX10_47 : am_fl RX10 47 9 22 := ⟨am_cf_9, by decide, am_in (i := 779) (by decide +kernel) (by decide +kernel)⟩
theorem fl_RX10_195 : am_fl RX10 195 9 23 := ⟨am_cf_9, by decide, am_in (i := 780) (by decide +kernel) (by decide +kernel)⟩
theorem fl_RX10_198 : am_fl RX10 198 9 24 := ⟨am_cf_9, by decide, am_in (i := 781) (by decide +kernel) (by decide +kernel)⟩
theorem fl_RX10_50 : am_fl RX10 50 9 25 := ⟨am_cf_9, by decide, am_in (i := 782) (by decide +kernel) (by decide +kernel)⟩
theorem fl_RX10_53 : am_fl RX10 53 9 26 := ⟨am_cf_9, by decide, am_in (i := 783) (by decide +kernel) (by decide +kernel)⟩
theorem fl_RX10_56 : am_fl RX10 56 9 27 := ⟨am_cf_9, by decide, am_in (i := 784) (by decide +kernel) (by decide +kernel)⟩
theorem fl_RX10_59 : am_fl RX10 59 9 28 := ⟨am_cf_9, by decide, am_in (i := 785) (by decide +kernel) (by decide +kernel)⟩
theorem fl_RX10_223 : am_fl RX10 223 9 29 := ⟨am_cf_9, by decide, am_in (i := 786) (by decide +kernel) (by decide +kernel)⟩
theorem ml_RL_17 : Cond.methodLink RL 17 yX10_write ∈ am_T := am_in (i := 848) (by decide +kernel) (by decide +kernel)
theorem ml_RX10_66 : Cond.methodLink RX10 66 yX10_isIn ∈ am_T := am_in (i := 852) (by decide +kernel) (by decide +kernel)
theorem ml_RL_22 : Cond.methodLink RL 22 yX10_wipe ∈ am_T := am_in (i := 855) (by decide +kernel) (by decide +kernel)
theorem ml_RL_26 : Cond.methodLink RL 26 yX10_fault ∈ am_T := am_in (i := 859) (by decide +kernel) (by decide +kernel)
theorem ml_RX10_136 : Cond.methodLink RX10 136 yX10_goesThrough ∈ am_T := am_in (i := 863) (by decide +kernel) (by decide +kernel)
theorem ml_RX10_132 : Cond.methodLink RX10 132 yX10_readsItem ∈ am_T := am_in (i := 867) (by decide +kernel) (by decide +kernel)
theorem ml_RX10_76 : Cond.methodLink RX10 76 yX10_here ∈ am_T := am_in (i := 871) (by decide +kernel) (by decide +kernel)
theorem ml_RX10_112 : Cond.methodLink RX10 112 yX10_begins ∈ am_T := am_in (i := 875) (by decide +kernel) (by decide +kernel)
theorem ml_RX10_115 : Cond.methodLink RX10 115 yX10_mayBegin ∈ am_T := am_in (i := 879) (by decide +kernel) (by decide +kernel)
theorem ml_RX10_86 : Cond.methodLink RX10 86 yX10_causes ∈ am_T := am_in (i := 883) (by decide +kernel) (by decide +kernel)
theorem ml_RX10_119 : Cond.methodLink RX10 119 yX10_readsWorld ∈ am_T := am_in (i := 887) (by decide +kernel) (by decide +kernel)
theorem ml_RX10_89 : Cond.methodLink RX10 89 yX10_number ∈ am_T := am_in (i := 891) (by decide +kernel) (by decide +kernel)
theorem ml_RX10_82 : Cond.methodLink RX10 82 yX10_isFigure ∈ am_T := am_in (i := 895) (by decide +kernel) (by decide +kernel)
theorem ml_RX10_122 : Cond.methodLink RX10 122 yX10_readsBox ∈ am_T := am_in (i := 899) (by decide +kernel) (by decide +kernel)
theorem ml_RX10_125 : Cond.methodLink RX10 125 yX10_readsDisc ∈ am_T := am_in (i := 903) (by decide +kernel) (by decide +kernel)
theorem ml_RX10_128 : Cond.methodLink RX10 128 yX10_lays ∈ am_T := am_in (i := 907) (by decide +kernel) (by decide +kernel)
theorem ml_RX10_108 : Cond.methodLink RX10 108 yX10_puts ∈ am_T := am_in (i := 911) (by decide +kernel) (by decide +kernel)
theorem ml_RL_30 : Cond.methodLink RL 30 yX10_lay ∈ am_T := am_in (i := 915) (by decide +kernel) (by decide +kernel)
theorem ml_RX10_62 : Cond.methodLink RX10 62 yX10_side ∈ am_T := am_in (i := 919) (by decide +kernel) (by decide +kernel)
theorem ml_RL_34 : Cond.methodLink RL 34 yX10_cause ∈ am_T := am_in (i := 923) (by decide +kernel) (by decide +kernel)
theorem ml_RL_38 : Cond.methodLink RL 38 yX10_curve ∈ am_T := am_in (i := 927) (by decide +kernel) (by decide +kernel)
theorem ml_RL_43 : Cond.methodLink RL 43 yX10_levels ∈ am_T := am_in (i := 931) (by decide +kernel) (by decide +kernel)
theorem ml_RL_48 : Cond.methodLink RL 48 yX10_box ∈ am_T := am_in (i := 935) (by decide +kernel) (by decide +kernel)
theorem ml_RX10_140 : Cond.methodLink RX10 140 yX10_isCell ∈ am_T := am_in (i := 939) (by decide +kernel) (by decide +kernel)
theorem ml_RX10_143 : Cond.methodLink RX10 143 yX10_more ∈ am_T := am_in (i := 943) (by decide +kernel) (by decide +kernel)
theorem ml_RL_53 : Cond.methodLink RL 53 yX10_disc ∈ am_T := am_in (i := 947) (by decide +kernel) (by decide +kernel)
theorem ml_RL_57 : Cond.methodLink RL 57 yX10_drop ∈ am_T := am_in (i := 951) (by decide +kernel) (by decide +kernel)
theorem ml_RL_61 : Cond.methodLink RL 61 yX10_point ∈ am_T := am_in (i := 955) (by decide +kernel) (by decide +kernel)
theorem ml_RL_65 : Cond.methodLink RL 65 yX10_lift ∈ am_T := am_in (i := 959) (by decide +kernel) (by decide +kernel)
theorem ml_RL_69 : Cond.methodLink RL 69 yX10_key ∈ am_T := am_in (i := 963) (by decide +kernel) (by decide +kernel)
theorem ml_RX10_153 : Cond.methodLink RX10 153 yX10_keyOf ∈ am_T := am_in (i := 967) (by decide +kernel) (by decide +kernel)
theorem ml_RL_73 : Cond.methodLink RL 73 yX10_cell ∈ am_T := am_in (i := 971) (by decide +kernel) (by decide +kernel)
theorem ml_RX10_157 : Cond.methodLink RX10 157 yX10_cells ∈ am_T := am_in (i := 975) (by decide +kernel) (by decide +kernel)
theorem ml_RX10_160 : Cond.methodLink RX10 160 yX10_setCell ∈ am_T := am_in (i := 979) (by decide +kernel) (by decide +kernel)
theorem ml_RL_78 : Cond.methodLink RL 78 yX10_tile ∈ am_T := am_in (i := 983) (by decide +kernel) (by decide +kernel)
theorem ml_RX10_174 : Cond.methodLink RX10 174 yX10_isTile ∈ am_T := am_in (i := 987) (by decide +kernel) (by decide +kernel)
theorem ml_RX10_170 : Cond.methodLink RX10 170 yX10_sizeOf ∈ am_T := am_in (i := 991) (by decide +kernel) (by decide +kernel)
theorem ml_RX10_177 : Cond.methodLink RX10 177 yX10_sideOf ∈ am_T := am_in (i := 995) (by decide +kernel) (by decide +kernel)
theorem ml_RX10_180 : Cond.methodLink RX10 180 yX10_setShape ∈ am_T := am_in (i := 999) (by decide +kernel) (by decide +kernel)
theorem ml_RX10_167 : Cond.methodLink RX10 167 yX10_isShape ∈ am_T := am_in (i := 1003) (by decide +kernel) (by decide +kernel)
theorem ml_RX10_164 : Cond.methodLink RX10 164 yX10_has ∈ am_T := am_in (i := 1007) (by decide +kernel) (by decide +kernel)
theorem ml_RX10_183 : Cond.methodLink RX10 183 yX10_shapeIn ∈ am_T := am_in (i := 1011) (by decide +kernel) (by decide +kernel)
theorem ml_RX10_186 : Cond.methodLink RX10 186 yX10_pointsIn ∈ am_T := am_in (i := 1015) (by decide +kernel) (by decide +kernel)
theorem ml_RL_82 : Cond.methodLink RL 82 yX10_beside ∈ am_T := am_in (i := 1019) (by decide +kernel) (by decide +kernel)
theorem ml_RL_86 : Cond.methodLink RL 86 yX10_common ∈ am_T := am_in (i := 1023) (by decide +kernel) (by decide +kernel)
theorem ml_RL_90 : Cond.methodLink RL 90 yX10_leaps ∈ am_T := am_in (i := 1027) (by decide +kernel) (by decide +kernel)
theorem ml_RL_94 : Cond.methodLink RL 94 yX10_in ∈ am_T := am_in (i := 1031) (by decide +kernel) (by decide +kernel)
theorem ml_RL_98 : Cond.methodLink RL 98 yX10_cover ∈ am_T := am_in (i := 1035) (by decide +kernel) (by decide +kernel)
theorem ml_RX10_201 : Cond.methodLink RX10 201 yX10_isAsked ∈ am_T := am_in (i := 1039) (by decide +kernel) (by decide +kernel)
theorem ml_RX10_204 : Cond.methodLink RX10 204 yX10_setCover ∈ am_T := am_in (i := 1042) (by decide +kernel) (by decide +kernel)
theorem ml_RX10_207 : Cond.methodLink RX10 207 yX10_tiles ∈ am_T := am_in (i := 1046) (by decide +kernel) (by decide +kernel)
theorem ml_RX10_192 : Cond.methodLink RX10 192 yX10_levelAt ∈ am_T := am_in (i := 1050) (by decide +kernel) (by decide +kernel)
theorem ml_RX10_189 : Cond.methodLink RX10 189 yX10_isWhole ∈ am_T := am_in (i := 1054) (by decide +kernel) (by decide +kernel)
theorem ml_RL_102 : Cond.methodLink RL 102 yX10_rest ∈ am_T := am_in (i := 1058) (by decide +kernel) (by decide +kernel)
theorem ml_RL_106 : Cond.methodLink RL 106 yX10_best ∈ am_T := am_in (i := 1062) (by decide +kernel) (by decide +kernel)
theorem ml_RX10_211 : Cond.methodLink RX10 211 yX10_clears ∈ am_T := am_in (i := 1066) (by decide +kernel) (by decide +kernel)
theorem ml_RX10_214 : Cond.methodLink RX10 214 yX10_setLeaf ∈ am_T := am_in (i := 1070) (by decide +kernel) (by decide +kernel)
theorem kc_RX10_210 : Cond.constant RX10 210 1000000 ∈ am_T := am_in (i := 1074) (by decide +kernel) (by decide +kernel)
theorem ml_RX10_217 : Cond.methodLink RX10 217 yX10_comes ∈ am_T := am_in (i := 1075) (by decide +kernel) (by decide +kernel)
theorem ml_RX10_220 : Cond.methodLink RX10 220 yX10_closes ∈ am_T := am_in (i := 1079) (by decide +kernel) (by decide +kernel)
theorem ml_RL_110 : Cond.methodLink RL 110 yX10_span ∈ am_T := am_in (i := 1083) (by decide +kernel) (by decide +kernel)
theorem ml_RX10_226 : Cond.methodLink RX10 226 yX10_spans ∈ am_T := am_in (i := 1087) (by decide +kernel) (by decide +kernel)
theorem ml_RL_114 : Cond.methodLink RL 114 yX10_joined ∈ am_T := am_in (i := 1091) (by decide +kernel) (by decide +kernel)
theorem ml_RL_118 : Cond.methodLink RL 118 yX10_at ∈ am_T := am_in (i := 1095) (by decide +kernel) (by decide +kernel)
theorem ml_RX10_229 : Cond.methodLink RX10 229 yX10_isPoint ∈ am_T := am_in (i := 1099) (by decide +kernel) (by decide +kernel)
theorem ml_RX10_232 : Cond.methodLink RX10 232 yX10_placeOf ∈ am_T := am_in (i := 1103) (by decide +kernel) (by decide +kernel)
theorem ml_RL_122 : Cond.methodLink RL 122 yX10_ordered ∈ am_T := am_in (i := 1107) (by decide +kernel) (by decide +kernel)
theorem ml_RX10_235 : Cond.methodLink RX10 235 yX10_orderedAt ∈ am_T := am_in (i := 1111) (by decide +kernel) (by decide +kernel)
theorem ml_RL_126 : Cond.methodLink RL 126 yX10_search ∈ am_T := am_in (i := 1115) (by decide +kernel) (by decide +kernel)
theorem ml_RX10_238 : Cond.methodLink RX10 238 yX10_isFound ∈ am_T := am_in (i := 1119) (by decide +kernel) (by decide +kernel)
theorem ml_RL_130 : Cond.methodLink RL 130 yX10_found ∈ am_T := am_in (i := 1123) (by decide +kernel) (by decide +kernel)
theorem ml_RL_134 : Cond.methodLink RL 134 yX10_nearest ∈ am_T := am_in (i := 1127) (by decide +kernel) (by decide +kernel)
theorem ml_RL_138 : Cond.methodLink RL 138 yX10_count ∈ am_T := am_in (i := 1131) (by decide +kernel) (by decide +kernel)
theorem ml_RX10_241 : Cond.methodLink RX10 241 yX10_shapeMany ∈ am_T := am_in (i := 1135) (by decide +kernel) (by decide +kernel)
theorem fw_RJ0_9 : Cond.fieldLink RJ0 9 "java/lang/String" "value" "[B" ∈ am_T := am_in (i := 1139) (by decide +kernel) (by decide +kernel)
theorem fw_RJ0_15 : Cond.fieldLink RJ0 15 "java/lang/String" "coder" "B" ∈ am_T := am_in (i := 1140) (by decide +kernel) (by decide +kernel)
