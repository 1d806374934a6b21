def fL_law_1088 (G : am_G) (k18 : (Nat × Nat × Int32 × am_M) → Option (Int32 × am_M)) (x1 : Nat) (x2 : Nat) (x3 : Int32) (M : am_M) : Option (Int32 × am_M) := k18 (x1, x2, x3 + (6), M)
def fL_law_18 (G : am_G) : ((Nat × Nat × Int32 × am_M) → Option (Int32 × am_M)) → (Nat × Nat × Int32 × am_M) → Option (Int32 × am_M) := fun k18 q0 => match q0 with
  | (x1, x2, x3, M) => if (Int32.ofNat G.2.2.2.2.2.1) - 6 < x3 then some (1, M) else if x3 < 0 ∨ G.2.2.2.2.2.1 ≤ x3.toNatClampNeg then none else if (G.2.2.2.2.2.2.1 (x3.toNatClampNeg)) &&& 31 = 0 then if x3 + 1 < 0 ∨ G.2.2.2.2.2.1 ≤ (x3 + 1).toNatClampNeg then none else (fX9_write x1 (G.2.2.2.2.2.2.1 ((x3 + 1).toNatClampNeg)) M).bind fun p20 => if x3 + 1 < 0 ∨ G.2.2.2.2.2.1 ≤ (x3 + 1).toNatClampNeg then none else (fX10_write x2 (G.2.2.2.2.2.2.1 ((x3 + 1).toNatClampNeg)) p20.2).bind fun p27 => if p20.1 = p27.1 then fL_law_1088 G k18 x1 x2 x3 p27.2 else some (0, p27.2) else if (G.2.2.2.2.2.2.1 (x3.toNatClampNeg)) &&& 31 = 1 then (fX9_wipe x1 M).bind fun p35 => (fX10_wipe x2 p35.2).bind fun p41 => if p35.1 = p41.1 then fL_law_1088 G k18 x1 x2 x3 p41.2 else some (0, p41.2) else if (G.2.2.2.2.2.2.1 (x3.toNatClampNeg)) &&& 31 = 2 then (fX9_fault x1 M).bind fun p49 => (fX10_fault x2 p49.2).bind fun p55 => if p49.1 = p55.1 then fL_law_1088 G k18 x1 x2 x3 p55.2 else some (0, p55.2) else if (G.2.2.2.2.2.2.1 (x3.toNatClampNeg)) &&& 31 = 3 then (fX9_lay x1 M).bind fun p63 => (fX10_lay x2 p63.2).bind fun p69 => if p63.1 = p69.1 then fL_law_1088 G k18 x1 x2 x3 p69.2 else some (0, p69.2) else if (G.2.2.2.2.2.2.1 (x3.toNatClampNeg)) &&& 31 = 4 then if x3 + 1 < 0 ∨ G.2.2.2.2.2.1 ≤ (x3 + 1).toNatClampNeg then none else (fX9_cause x1 (G.2.2.2.2.2.2.1 ((x3 + 1).toNatClampNeg)) M).bind fun p78 => if x3 + 1 < 0 ∨ G.2.2.2.2.2.1 ≤ (x3 + 1).toNatClampNeg then none else (fX10_cause x2 (G.2.2.2.2.2.2.1 ((x3 + 1).toNatClampNeg)) p78.2).bind fun p85 => if p78.1 = p85.1 then fL_law_1088 G k18 x1 x2 x3 p85.2 else some (0, p85.2) else if (G.2.2.2.2.2.2.1 (x3.toNatClampNeg)) &&& 31 = 5 then if x3 + 1 < 0 ∨ G.2.2.2.2.2.1 ≤ (x3 + 1).toNatClampNeg then none else (fX9_curve x1 (G.2.2.2.2.2.2.1 ((x3 + 1).toNatClampNeg)) M).bind fun p94 => if x3 + 1 < 0 ∨ G.2.2.2.2.2.1 ≤ (x3 + 1).toNatClampNeg then none else (fX10_curve x2 (G.2.2.2.2.2.2.1 ((x3 + 1).toNatClampNeg)) p94.2).bind fun p101 => if p94.1 = p101.1 then fL_law_1088 G k18 x1 x2 x3 p101.2 else some (0, p101.2) else if (G.2.2.2.2.2.2.1 (x3.toNatClampNeg)) &&& 31 = 6 then if x3 + 1 < 0 ∨ G.2.2.2.2.2.1 ≤ (x3 + 1).toNatClampNeg then none else if x3 + 2 < 0 ∨ G.2.2.2.2.2.1 ≤ (x3 + 2).toNatClampNeg then none else (fX9_levels x1 (G.2.2.2.2.2.2.1 ((x3 + 1).toNatClampNeg)) (G.2.2.2.2.2.2.1 ((x3 + 2).toNatClampNeg)) M).bind fun p111 => if x3 + 1 < 0 ∨ G.2.2.2.2.2.1 ≤ (x3 + 1).toNatClampNeg then none else if x3 + 2 < 0 ∨ G.2.2.2.2.2.1 ≤ (x3 + 2).toNatClampNeg then none else (fX10_levels x2 (G.2.2.2.2.2.2.1 ((x3 + 1).toNatClampNeg)) (G.2.2.2.2.2.2.1 ((x3 + 2).toNatClampNeg)) p111.2).bind fun p119 => if p111.1 = p119.1 then fL_law_1088 G k18 x1 x2 x3 p119.2 else some (0, p119.2) else if (G.2.2.2.2.2.2.1 (x3.toNatClampNeg)) &&& 31 = 7 then if x3 + 1 < 0 ∨ G.2.2.2.2.2.1 ≤ (x3 + 1).toNatClampNeg then none else if x3 + 2 < 0 ∨ G.2.2.2.2.2.1 ≤ (x3 + 2).toNatClampNeg then none else if x3 + 3 < 0 ∨ G.2.2.2.2.2.1 ≤ (x3 + 3).toNatClampNeg then none else if x3 + 4 < 0 ∨ G.2.2.2.2.2.1 ≤ (x3 + 4).toNatClampNeg then none else if x3 + 5 < 0 ∨ G.2.2.2.2.2.1 ≤ (x3 + 5).toNatClampNeg then none else (fX9_box x1 (G.2.2.2.2.2.2.1 ((x3 + 1).toNatClampNeg)) (G.2.2.2.2.2.2.1 ((x3 + 2).toNatClampNeg)) (G.2.2.2.2.2.2.1 ((x3 + 3).toNatClampNeg)) (G.2.2.2.2.2.2.1 ((x3 + 4).toNatClampNeg)) (G.2.2.2.2.2.2.1 ((x3 + 5).toNatClampNeg)) M).bind fun p132 => if x3 + 1 < 0 ∨ G.2.2.2.2.2.1 ≤ (x3 + 1).toNatClampNeg then none else if x3 + 2 < 0 ∨ G.2.2.2.2.2.1 ≤ (x3 + 2).toNatClampNeg then none else if x3 + 3 < 0 ∨ G.2.2.2.2.2.1 ≤ (x3 + 3).toNatClampNeg then none else if x3 + 4 < 0 ∨ G.2.2.2.2.2.1 ≤ (x3 + 4).toNatClampNeg then none else if x3 + 5 < 0 ∨ G.2.2.2.2.2.1 ≤ (x3 + 5).toNatClampNeg then none else (fX10_box x2 (G.2.2.2.2.2.2.1 ((x3 + 1).toNatClampNeg)) (G.2.2.2.2.2.2.1 ((x3 + 2).toNatClampNeg)) (G.2.2.2.2.2.2.1 ((x3 + 3).toNatClampNeg)) (G.2.2.2.2.2.2.1 ((x3 + 4).toNatClampNeg)) (G.2.2.2.2.2.2.1 ((x3 + 5).toNatClampNeg)) p132.2).bind fun p143 => if p132.1 = p143.1 then fL_law_1088 G k18 x1 x2 x3 p143.2 else some (0, p143.2) else if (G.2.2.2.2.2.2.1 (x3.toNatClampNeg)) &&& 31 = 8 then if x3 + 1 < 0 ∨ G.2.2.2.2.2.1 ≤ (x3 + 1).toNatClampNeg then none else if x3 + 2 < 0 ∨ G.2.2.2.2.2.1 ≤ (x3 + 2).toNatClampNeg then none else if x3 + 3 < 0 ∨ G.2.2.2.2.2.1 ≤ (x3 + 3).toNatClampNeg then none else if x3 + 4 < 0 ∨ G.2.2.2.2.2.1 ≤ (x3 + 4).toNatClampNeg then none else (fX9_disc x1 (G.2.2.2.2.2.2.1 ((x3 + 1).toNatClampNeg)) (G.2.2.2.2.2.2.1 ((x3 + 2).toNatClampNeg)) (G.2.2.2.2.2.2.1 ((x3 + 3).toNatClampNeg)) (G.2.2.2.2.2.2.1 ((x3 + 4).toNatClampNeg)) M).bind fun p155 => if x3 + 1 < 0 ∨ G.2.2.2.2.2.1 ≤ (x3 + 1).toNatClampNeg then none else if x3 + 2 < 0 ∨ G.2.2.2.2.2.1 ≤ (x3 + 2).toNatClampNeg then none else if x3 + 3 < 0 ∨ G.2.2.2.2.2.1 ≤ (x3 + 3).toNatClampNeg then none else if x3 + 4 < 0 ∨ G.2.2.2.2.2.1 ≤ (x3 + 4).toNatClampNeg then none else (fX10_disc x2 (G.2.2.2.2.2.2.1 ((x3 + 1).toNatClampNeg)) (G.2.2.2.2.2.2.1 ((x3 + 2).toNatClampNeg)) (G.2.2.2.2.2.2.1 ((x3 + 3).toNatClampNeg)) (G.2.2.2.2.2.2.1 ((x3 + 4).toNatClampNeg)) p155.2).bind fun p165 => if p155.1 = p165.1 then fL_law_1088 G k18 x1 x2 x3 p165.2 else some (0, p165.2) else if (G.2.2.2.2.2.2.1 (x3.toNatClampNeg)) &&& 31 = 9 then if x3 + 1 < 0 ∨ G.2.2.2.2.2.1 ≤ (x3 + 1).toNatClampNeg then none else (fX9_drop x1 (G.2.2.2.2.2.2.1 ((x3 + 1).toNatClampNeg)) M).bind fun p174 => if x3 + 1 < 0 ∨ G.2.2.2.2.2.1 ≤ (x3 + 1).toNatClampNeg then none else (fX10_drop x2 (G.2.2.2.2.2.2.1 ((x3 + 1).toNatClampNeg)) p174.2).bind fun p181 => if p174.1 = p181.1 then fL_law_1088 G k18 x1 x2 x3 p181.2 else some (0, p181.2) else if (G.2.2.2.2.2.2.1 (x3.toNatClampNeg)) &&& 31 = 10 then if x3 + 1 < 0 ∨ G.2.2.2.2.2.1 ≤ (x3 + 1).toNatClampNeg then none else if x3 + 2 < 0 ∨ G.2.2.2.2.2.1 ≤ (x3 + 2).toNatClampNeg then none else (fX9_point x1 (G.2.2.2.2.2.2.1 ((x3 + 1).toNatClampNeg)) (G.2.2.2.2.2.2.1 ((x3 + 2).toNatClampNeg)) M).bind fun p191 => if x3 + 1 < 0 ∨ G.2.2.2.2.2.1 ≤ (x3 + 1).toNatClampNeg then none else if x3 + 2 < 0 ∨ G.2.2.2.2.2.1 ≤ (x3 + 2).toNatClampNeg then none else (fX10_point x2 (G.2.2.2.2.2.2.1 ((x3 + 1).toNatClampNeg)) (G.2.2.2.2.2.2.1 ((x3 + 2).toNatClampNeg)) p191.2).bind fun p199 => if p191.1 = p199.1 then fL_law_1088 G k18 x1 x2 x3 p199.2 else some (0, p199.2) else if (G.2.2.2.2.2.2.1 (x3.toNatClampNeg)) &&& 31 = 11 then if x3 + 1 < 0 ∨ G.2.2.2.2.2.1 ≤ (x3 + 1).toNatClampNeg then none else (fX9_lift x1 (G.2.2.2.2.2.2.1 ((x3 + 1).toNatClampNeg)) M).bind fun p208 => if x3 + 1 < 0 ∨ G.2.2.2.2.2.1 ≤ (x3 + 1).toNatClampNeg then none else (fX10_lift x2 (G.2.2.2.2.2.2.1 ((x3 + 1).toNatClampNeg)) p208.2).bind fun p215 => if p208.1 = p215.1 then fL_law_1088 G k18 x1 x2 x3 p215.2 else some (0, p215.2) else if (G.2.2.2.2.2.2.1 (x3.toNatClampNeg)) &&& 31 = 12 then if x3 + 1 < 0 ∨ G.2.2.2.2.2.1 ≤ (x3 + 1).toNatClampNeg then none else if x3 + 2 < 0 ∨ G.2.2.2.2.2.1 ≤ (x3 + 2).toNatClampNeg then none else (fX9_key x1 (G.2.2.2.2.2.2.1 ((x3 + 1).toNatClampNeg)) (G.2.2.2.2.2.2.1 ((x3 + 2).toNatClampNeg)) M).bind fun p225 => if x3 + 1 < 0 ∨ G.2.2.2.2.2.1 ≤ (x3 + 1).toNatClampNeg then none else if x3 + 2 < 0 ∨ G.2.2.2.2.2.1 ≤ (x3 + 2).toNatClampNeg then none else (fX10_key x2 (G.2.2.2.2.2.2.1 ((x3 + 1).toNatClampNeg)) (G.2.2.2.2.2.2.1 ((x3 + 2).toNatClampNeg)) p225.2).bind fun p233 => if p225.1 = p233.1 then fL_law_1088 G k18 x1 x2 x3 p233.2 else some (0, p233.2) else if (G.2.2.2.2.2.2.1 (x3.toNatClampNeg)) &&& 31 = 13 then if x3 + 1 < 0 ∨ G.2.2.2.2.2.1 ≤ (x3 + 1).toNatClampNeg then none else if x3 + 2 < 0 ∨ G.2.2.2.2.2.1 ≤ (x3 + 2).toNatClampNeg then none else (fX9_cell x1 (G.2.2.2.2.2.2.1 ((x3 + 1).toNatClampNeg)) (G.2.2.2.2.2.2.1 ((x3 + 2).toNatClampNeg)) M).bind fun p243 => if x3 + 1 < 0 ∨ G.2.2.2.2.2.1 ≤ (x3 + 1).toNatClampNeg then none else if x3 + 2 < 0 ∨ G.2.2.2.2.2.1 ≤ (x3 + 2).toNatClampNeg then none else (fX10_cell x2 (G.2.2.2.2.2.2.1 ((x3 + 1).toNatClampNeg)) (G.2.2.2.2.2.2.1 ((x3 + 2).toNatClampNeg)) p243.2).bind fun p251 => if p243.1 = p251.1 then fL_law_1088 G k18 x1 x2 x3 p251.2 else some (0, p251.2) else if (G.2.2.2.2.2.2.1 (x3.toNatClampNeg)) &&& 31 = 14 then if x3 + 1 < 0 ∨ G.2.2.2.2.2.1 ≤ (x3 + 1).toNatClampNeg then none else if x3 + 2 < 0 ∨ G.2.2.2.2.2.1 ≤ (x3 + 2).toNatClampNeg then none else if x3 + 3 < 0 ∨ G.2.2.2.2.2.1 ≤ (x3 + 3).toNatClampNeg then none else (fX9_tile x1 (G.2.2.2.2.2.2.1 ((x3 + 1).toNatClampNeg)) (G.2.2.2.2.2.2.1 ((x3 + 2).toNatClampNeg)) (G.2.2.2.2.2.2.1 ((x3 + 3).toNatClampNeg)) M).bind fun p262 => if x3 + 1 < 0 ∨ G.2.2.2.2.2.1 ≤ (x3 + 1).toNatClampNeg then none else if x3 + 2 < 0 ∨ G.2.2.2.2.2.1 ≤ (x3 + 2).toNatClampNeg then none else if x3 + 3 < 0 ∨ G.2.2.2.2.2.1 ≤ (x3 + 3).toNatClampNeg then none else (fX10_tile x2 (G.2.2.2.2.2.2.1 ((x3 + 1).toNatClampNeg)) (G.2.2.2.2.2.2.1 ((x3 + 2).toNatClampNeg)) (G.2.2.2.2.2.2.1 ((x3 + 3).toNatClampNeg)) p262.2).bind fun p271 => if p262.1 = p271.1 then fL_law_1088 G k18 x1 x2 x3 p271.2 else some (0, p271.2) else if (G.2.2.2.2.2.2.1 (x3.toNatClampNeg)) &&& 31 = 15 then if x3 + 1 < 0 ∨ G.2.2.2.2.2.1 ≤ (x3 + 1).toNatClampNeg then none else if x3 + 2 < 0 ∨ G.2.2.2.2.2.1 ≤ (x3 + 2).toNatClampNeg then none else if x3 + 3 < 0 ∨ G.2.2.2.2.2.1 ≤ (x3 + 3).toNatClampNeg then none else if x3 + 4 < 0 ∨ G.2.2.2.2.2.1 ≤ (x3 + 4).toNatClampNeg then none else (fX9_beside x1 (G.2.2.2.2.2.2.1 ((x3 + 1).toNatClampNeg)) (G.2.2.2.2.2.2.1 ((x3 + 2).toNatClampNeg)) (G.2.2.2.2.2.2.1 ((x3 + 3).toNatClampNeg)) (G.2.2.2.2.2.2.1 ((x3 + 4).toNatClampNeg)) M).bind fun p283 => if x3 + 1 < 0 ∨ G.2.2.2.2.2.1 ≤ (x3 + 1).toNatClampNeg then none else if x3 + 2 < 0 ∨ G.2.2.2.2.2.1 ≤ (x3 + 2).toNatClampNeg then none else if x3 + 3 < 0 ∨ G.2.2.2.2.2.1 ≤ (x3 + 3).toNatClampNeg then none else if x3 + 4 < 0 ∨ G.2.2.2.2.2.1 ≤ (x3 + 4).toNatClampNeg then none else (fX10_beside x2 (G.2.2.2.2.2.2.1 ((x3 + 1).toNatClampNeg)) (G.2.2.2.2.2.2.1 ((x3 + 2).toNatClampNeg)) (G.2.2.2.2.2.2.1 ((x3 + 3).toNatClampNeg)) (G.2.2.2.2.2.2.1 ((x3 + 4).toNatClampNeg)) p283.2).bind fun p293 => if p283.1 = p293.1 then fL_law_1088 G k18 x1 x2 x3 p293.2 else some (0, p293.2) else if (G.2.2.2.2.2.2.1 (x3.toNatClampNeg)) &&& 31 = 16 then if x3 + 1 < 0 ∨ G.2.2.2.2.2.1 ≤ (x3 + 1).toNatClampNeg then none else if x3 + 2 < 0 ∨ G.2.2.2.2.2.1 ≤ (x3 + 2).toNatClampNeg then none else if x3 + 3 < 0 ∨ G.2.2.2.2.2.1 ≤ (x3 + 3).toNatClampNeg then none else if x3 + 4 < 0 ∨ G.2.2.2.2.2.1 ≤ (x3 + 4).toNatClampNeg then none else (fX9_common x1 (G.2.2.2.2.2.2.1 ((x3 + 1).toNatClampNeg)) (G.2.2.2.2.2.2.1 ((x3 + 2).toNatClampNeg)) (G.2.2.2.2.2.2.1 ((x3 + 3).toNatClampNeg)) (G.2.2.2.2.2.2.1 ((x3 + 4).toNatClampNeg)) M).bind fun p305 => if x3 + 1 < 0 ∨ G.2.2.2.2.2.1 ≤ (x3 + 1).toNatClampNeg then none else if x3 + 2 < 0 ∨ G.2.2.2.2.2.1 ≤ (x3 + 2).toNatClampNeg then none else if x3 + 3 < 0 ∨ G.2.2.2.2.2.1 ≤ (x3 + 3).toNatClampNeg then none else if x3 + 4 < 0 ∨ G.2.2.2.2.2.1 ≤ (x3 + 4).toNatClampNeg then none else (fX10_common x2 (G.2.2.2.2.2.2.1 ((x3 + 1).toNatClampNeg)) (G.2.2.2.2.2.2.1 ((x3 + 2).toNatClampNeg)) (G.2.2.2.2.2.2.1 ((x3 + 3).toNatClampNeg)) (G.2.2.2.2.2.2.1 ((x3 + 4).toNatClampNeg)) p305.2).bind fun p315 => if p305.1 = p315.1 then fL_law_1088 G k18 x1 x2 x3 p315.2 else some (0, p315.2) else if (G.2.2.2.2.2.2.1 (x3.toNatClampNeg)) &&& 31 = 17 then (fX9_leaps x1 M).bind fun p323 => (fX10_leaps x2 p323.2).bind fun p329 => if p323.1 = p329.1 then fL_law_1088 G k18 x1 x2 x3 p329.2 else some (0, p329.2) else if (G.2.2.2.2.2.2.1 (x3.toNatClampNeg)) &&& 31 = 18 then if x3 + 1 < 0 ∨ G.2.2.2.2.2.1 ≤ (x3 + 1).toNatClampNeg then none else if x3 + 2 < 0 ∨ G.2.2.2.2.2.1 ≤ (x3 + 2).toNatClampNeg then none else (fX9_in x1 (G.2.2.2.2.2.2.1 ((x3 + 1).toNatClampNeg)) (G.2.2.2.2.2.2.1 ((x3 + 2).toNatClampNeg)) M).bind fun p339 => if x3 + 1 < 0 ∨ G.2.2.2.2.2.1 ≤ (x3 + 1).toNatClampNeg then none else if x3 + 2 < 0 ∨ G.2.2.2.2.2.1 ≤ (x3 + 2).toNatClampNeg then none else (fX10_in x2 (G.2.2.2.2.2.2.1 ((x3 + 1).toNatClampNeg)) (G.2.2.2.2.2.2.1 ((x3 + 2).toNatClampNeg)) p339.2).bind fun p347 => if p339.1 = p347.1 then fL_law_1088 G k18 x1 x2 x3 p347.2 else some (0, p347.2) else if (G.2.2.2.2.2.2.1 (x3.toNatClampNeg)) &&& 31 = 19 then if x3 + 1 < 0 ∨ G.2.2.2.2.2.1 ≤ (x3 + 1).toNatClampNeg then none else if x3 + 2 < 0 ∨ G.2.2.2.2.2.1 ≤ (x3 + 2).toNatClampNeg then none else if x3 + 3 < 0 ∨ G.2.2.2.2.2.1 ≤ (x3 + 3).toNatClampNeg then none else (fX9_cover x1 (G.2.2.2.2.2.2.1 ((x3 + 1).toNatClampNeg)) (G.2.2.2.2.2.2.1 ((x3 + 2).toNatClampNeg)) (G.2.2.2.2.2.2.1 ((x3 + 3).toNatClampNeg)) M).bind fun p358 => if x3 + 1 < 0 ∨ G.2.2.2.2.2.1 ≤ (x3 + 1).toNatClampNeg then none else if x3 + 2 < 0 ∨ G.2.2.2.2.2.1 ≤ (x3 + 2).toNatClampNeg then none else if x3 + 3 < 0 ∨ G.2.2.2.2.2.1 ≤ (x3 + 3).toNatClampNeg then none else (fX10_cover x2 (G.2.2.2.2.2.2.1 ((x3 + 1).toNatClampNeg)) (G.2.2.2.2.2.2.1 ((x3 + 2).toNatClampNeg)) (G.2.2.2.2.2.2.1 ((x3 + 3).toNatClampNeg)) p358.2).bind fun p367 => if p358.1 = p367.1 then fL_law_1088 G k18 x1 x2 x3 p367.2 else some (0, p367.2) else if (G.2.2.2.2.2.2.1 (x3.toNatClampNeg)) &&& 31 = 20 then if x3 + 1 < 0 ∨ G.2.2.2.2.2.1 ≤ (x3 + 1).toNatClampNeg then none else (fX9_rest x1 (G.2.2.2.2.2.2.1 ((x3 + 1).toNatClampNeg)) M).bind fun p376 => if x3 + 1 < 0 ∨ G.2.2.2.2.2.1 ≤ (x3 + 1).toNatClampNeg then none else (fX10_rest x2 (G.2.2.2.2.2.2.1 ((x3 + 1).toNatClampNeg)) p376.2).bind fun p383 => if p376.1 = p383.1 then fL_law_1088 G k18 x1 x2 x3 p383.2 else some (0, p383.2) else if (G.2.2.2.2.2.2.1 (x3.toNatClampNeg)) &&& 31 = 21 then if x3 + 1 < 0 ∨ G.2.2.2.2.2.1 ≤ (x3 + 1).toNatClampNeg then none else (fX9_best x1 (G.2.2.2.2.2.2.1 ((x3 + 1).toNatClampNeg)) M).bind fun p392 => if x3 + 1 < 0 ∨ G.2.2.2.2.2.1 ≤ (x3 + 1).toNatClampNeg then none else (fX10_best x2 (G.2.2.2.2.2.2.1 ((x3 + 1).toNatClampNeg)) p392.2).bind fun p399 => if p392.1 = p399.1 then fL_law_1088 G k18 x1 x2 x3 p399.2 else some (0, p399.2) else if (G.2.2.2.2.2.2.1 (x3.toNatClampNeg)) &&& 31 = 22 then if x3 + 1 < 0 ∨ G.2.2.2.2.2.1 ≤ (x3 + 1).toNatClampNeg then none else if x3 + 2 < 0 ∨ G.2.2.2.2.2.1 ≤ (x3 + 2).toNatClampNeg then none else if x3 + 3 < 0 ∨ G.2.2.2.2.2.1 ≤ (x3 + 3).toNatClampNeg then none else (fX9_span x1 (G.2.2.2.2.2.2.1 ((x3 + 1).toNatClampNeg)) (G.2.2.2.2.2.2.1 ((x3 + 2).toNatClampNeg)) (G.2.2.2.2.2.2.1 ((x3 + 3).toNatClampNeg)) M).bind fun p410 => if x3 + 1 < 0 ∨ G.2.2.2.2.2.1 ≤ (x3 + 1).toNatClampNeg then none else if x3 + 2 < 0 ∨ G.2.2.2.2.2.1 ≤ (x3 + 2).toNatClampNeg then none else if x3 + 3 < 0 ∨ G.2.2.2.2.2.1 ≤ (x3 + 3).toNatClampNeg then none else (fX10_span x2 (G.2.2.2.2.2.2.1 ((x3 + 1).toNatClampNeg)) (G.2.2.2.2.2.2.1 ((x3 + 2).toNatClampNeg)) (G.2.2.2.2.2.2.1 ((x3 + 3).toNatClampNeg)) p410.2).bind fun p419 => if p410.1 = p419.1 then fL_law_1088 G k18 x1 x2 x3 p419.2 else some (0, p419.2) else if (G.2.2.2.2.2.2.1 (x3.toNatClampNeg)) &&& 31 = 23 then if x3 + 1 < 0 ∨ G.2.2.2.2.2.1 ≤ (x3 + 1).toNatClampNeg then none else if x3 + 2 < 0 ∨ G.2.2.2.2.2.1 ≤ (x3 + 2).toNatClampNeg then none else (fX9_joined x1 (G.2.2.2.2.2.2.1 ((x3 + 1).toNatClampNeg)) (G.2.2.2.2.2.2.1 ((x3 + 2).toNatClampNeg)) M).bind fun p429 => if x3 + 1 < 0 ∨ G.2.2.2.2.2.1 ≤ (x3 + 1).toNatClampNeg then none else if x3 + 2 < 0 ∨ G.2.2.2.2.2.1 ≤ (x3 + 2).toNatClampNeg then none else (fX10_joined x2 (G.2.2.2.2.2.2.1 ((x3 + 1).toNatClampNeg)) (G.2.2.2.2.2.2.1 ((x3 + 2).toNatClampNeg)) p429.2).bind fun p437 => if p429.1 = p437.1 then fL_law_1088 G k18 x1 x2 x3 p437.2 else some (0, p437.2) else if (G.2.2.2.2.2.2.1 (x3.toNatClampNeg)) &&& 31 = 24 then if x3 + 1 < 0 ∨ G.2.2.2.2.2.1 ≤ (x3 + 1).toNatClampNeg then none else if x3 + 2 < 0 ∨ G.2.2.2.2.2.1 ≤ (x3 + 2).toNatClampNeg then none else (fX9_at x1 (G.2.2.2.2.2.2.1 ((x3 + 1).toNatClampNeg)) (G.2.2.2.2.2.2.1 ((x3 + 2).toNatClampNeg)) M).bind fun p447 => if x3 + 1 < 0 ∨ G.2.2.2.2.2.1 ≤ (x3 + 1).toNatClampNeg then none else if x3 + 2 < 0 ∨ G.2.2.2.2.2.1 ≤ (x3 + 2).toNatClampNeg then none else (fX10_at x2 (G.2.2.2.2.2.2.1 ((x3 + 1).toNatClampNeg)) (G.2.2.2.2.2.2.1 ((x3 + 2).toNatClampNeg)) p447.2).bind fun p455 => if p447.1 = p455.1 then fL_law_1088 G k18 x1 x2 x3 p455.2 else some (0, p455.2) else if (G.2.2.2.2.2.2.1 (x3.toNatClampNeg)) &&& 31 = 25 then if x3 + 1 < 0 ∨ G.2.2.2.2.2.1 ≤ (x3 + 1).toNatClampNeg then none else (fX9_ordered x1 (G.2.2.2.2.2.2.1 ((x3 + 1).toNatClampNeg)) M).bind fun p464 => if x3 + 1 < 0 ∨ G.2.2.2.2.2.1 ≤ (x3 + 1).toNatClampNeg then none else (fX10_ordered x2 (G.2.2.2.2.2.2.1 ((x3 + 1).toNatClampNeg)) p464.2).bind fun p471 => if p464.1 = p471.1 then fL_law_1088 G k18 x1 x2 x3 p471.2 else some (0, p471.2) else if (G.2.2.2.2.2.2.1 (x3.toNatClampNeg)) &&& 31 = 26 then if x3 + 1 < 0 ∨ G.2.2.2.2.2.1 ≤ (x3 + 1).toNatClampNeg then none else (fX9_search x1 (G.2.2.2.2.2.2.1 ((x3 + 1).toNatClampNeg)) M).bind fun p480 => if x3 + 1 < 0 ∨ G.2.2.2.2.2.1 ≤ (x3 + 1).toNatClampNeg then none else (fX10_search x2 (G.2.2.2.2.2.2.1 ((x3 + 1).toNatClampNeg)) p480.2).bind fun p487 => if p480.1 = p487.1 then fL_law_1088 G k18 x1 x2 x3 p487.2 else some (0, p487.2) else if (G.2.2.2.2.2.2.1 (x3.toNatClampNeg)) &&& 31 = 27 then if x3 + 1 < 0 ∨ G.2.2.2.2.2.1 ≤ (x3 + 1).toNatClampNeg then none else (fX9_found x1 (G.2.2.2.2.2.2.1 ((x3 + 1).toNatClampNeg)) M).bind fun p496 => if x3 + 1 < 0 ∨ G.2.2.2.2.2.1 ≤ (x3 + 1).toNatClampNeg then none else (fX10_found x2 (G.2.2.2.2.2.2.1 ((x3 + 1).toNatClampNeg)) p496.2).bind fun p503 => if p496.1 = p503.1 then fL_law_1088 G k18 x1 x2 x3 p503.2 else some (0, p503.2) else if (G.2.2.2.2.2.2.1 (x3.toNatClampNeg)) &&& 31 = 28 then if x3 + 1 < 0 ∨ G.2.2.2.2.2.1 ≤ (x3 + 1).toNatClampNeg then none else if x3 + 2 < 0 ∨ G.2.2.2.2.2.1 ≤ (x3 + 2).toNatClampNeg then none else (fX9_nearest x1 (G.2.2.2.2.2.2.1 ((x3 + 1).toNatClampNeg)) (G.2.2.2.2.2.2.1 ((x3 + 2).toNatClampNeg)) M).bind fun p513 => if x3 + 1 < 0 ∨ G.2.2.2.2.2.1 ≤ (x3 + 1).toNatClampNeg then none else if x3 + 2 < 0 ∨ G.2.2.2.2.2.1 ≤ (x3 + 2).toNatClampNeg then none else (fX10_nearest x2 (G.2.2.2.2.2.2.1 ((x3 + 1).toNatClampNeg)) (G.2.2.2.2.2.2.1 ((x3 + 2).toNatClampNeg)) p513.2).bind fun p521 => if p513.1 = p521.1 then fL_law_1088 G k18 x1 x2 x3 p521.2 else some (0, p521.2) else if (G.2.2.2.2.2.2.1 (x3.toNatClampNeg)) &&& 31 = 29 then if x3 + 1 < 0 ∨ G.2.2.2.2.2.1 ≤ (x3 + 1).toNatClampNeg then none else (fX9_count x1 (G.2.2.2.2.2.2.1 ((x3 + 1).toNatClampNeg)) M).bind fun p530 => if x3 + 1 < 0 ∨ G.2.2.2.2.2.1 ≤ (x3 + 1).toNatClampNeg then none else (fX10_count x2 (G.2.2.2.2.2.2.1 ((x3 + 1).toNatClampNeg)) p530.2).bind fun p537 => if p530.1 = p537.1 then fL_law_1088 G k18 x1 x2 x3 p537.2 else some (0, p537.2) else fL_law_1088 G k18 x1 x2 x3 M
def fL_law_11 (G : am_G) (x1 : Nat) (s0 : Nat) (M : am_M) : Option (Int32 × am_M) := (fX10_init s0 M).bind fun M7 => am_loop (fL_law_18 G) 100000 (x1, s0, 0, M7)
def fL_law_3 (G : am_G) (s0 : Nat) (M : am_M) : Option (Int32 × am_M) := (fX9_init s0 M).bind fun M2 => fL_law_11 G s0 (am_n M2) (am_new M2 (5 + 9) (am_N 9))
def fL_law (G : am_G) (M : am_M) : Option (Int32 × am_M) := fL_law_3 G (am_n M) (am_new M (5 + 8) (am_N 8))
set_option maxRecDepth 100000 in
set_option maxHeartbeats 4000000 in
theorem sL_law_1088 (G : am_G) (hfm : G.2.2.2.2.2.2.2.2.2 = .null ∨ ∃ t, G.2.2.2.2.2.2.2.2.2 = .retAddr t) (k18 : (Nat × Nat × Int32 × am_M) → Option (Int32 × am_M)) (hk18 : ∀ q : (Nat × Nat × Int32 × am_M), (match q with | (x1, x2, x3, M) => am_sh M x1 13 ∧ am_sh M x2 14) → match q with | (x1, x2, x3, M) => am_S am_ei G 17 yL_law.cls yL_law.name cL_law 4 (some FieldType.boolean) 18 [(0, .retAddr G.2.2.2.2.1), (1, .ref x1), (2, .ref x2), (3, .int x3)] [] M (k18 (x1, x2, x3, M))) (x1 : Nat) (x2 : Nat) (x3 : Int32) (M : am_M) (h_x1 : am_sh M x1 13) (h_x2 : am_sh M x2 14) : am_S am_ei G 17 yL_law.cls yL_law.name cL_law 4 (some FieldType.boolean) 1088 [(0, .retAddr G.2.2.2.2.1), (1, .ref x1), (2, .ref x2), (3, .int x3)] [] M (fL_law_1088 G k18 x1 x2 x3 M) := by
  show am_S am_ei G 17 yL_law.cls yL_law.name cL_law 4 (some FieldType.boolean) 1088 [(0, .retAddr G.2.2.2.2.1), (1, .ref x1), (2, .ref x2), (3, .int x3)] [] M (k18 (x1, x2, x3 + (6), M))
  refine am_iinc (L' := [(3, .int (x3 + (6))), (0, .retAddr G.2.2.2.2.1), (1, .ref x1), (2, .ref x2)]) 3 dL_law_1088 rfl (by rfl) (by decide) rfl ?_
  refine am_goto (tgt := 18) dL_law_1091 (by decide) ?_
  refine am_sub [1, 2, 3, 0] rfl ?_
  exact hk18 (x1, x2, x3 + (6), M) ⟨h_x1, h_x2⟩
set_option maxRecDepth 100000 in
set_option maxHeartbeats 4000000 in
theorem sL_law_18 (G : am_G) (hfm : G.2.2.2.2.2.2.2.2.2 = .null ∨ ∃ t, G.2.2.2.2.2.2.2.2.2 = .retAddr t) (k18 : (Nat × Nat × Int32 × am_M) → Option (Int32 × am_M)) (hk18 : ∀ q : (Nat × Nat × Int32 × am_M), (match q with | (x1, x2, x3, M) => am_sh M x1 13 ∧ am_sh M x2 14) → match q with | (x1, x2, x3, M) => am_S am_ei G 17 yL_law.cls yL_law.name cL_law 4 (some FieldType.boolean) 18 [(0, .retAddr G.2.2.2.2.1), (1, .ref x1), (2, .ref x2), (3, .int x3)] [] M (k18 (x1, x2, x3, M))) (x1 : Nat) (x2 : Nat) (x3 : Int32) (M : am_M) (h_x1 : am_sh M x1 13) (h_x2 : am_sh M x2 14) : am_S am_ei G 17 yL_law.cls yL_law.name cL_law 4 (some FieldType.boolean) 18 [(0, .retAddr G.2.2.2.2.1), (1, .ref x1), (2, .ref x2), (3, .int x3)] [] M (fL_law_18 G k18 (x1, x2, x3, M)) := by
  show am_S am_ei G 17 yL_law.cls yL_law.name cL_law 4 (some FieldType.boolean) 18 [(0, .retAddr G.2.2.2.2.1), (1, .ref x1), (2, .ref x2), (3, .int x3)] [] M (if (Int32.ofNat G.2.2.2.2.2.1) - 6 < x3 then some (1, M) else if x3 < 0 ∨ G.2.2.2.2.2.1 ≤ x3.toNatClampNeg then none else if (G.2.2.2.2.2.2.1 (x3.toNatClampNeg)) &&& 31 = 0 then if x3 + 1 < 0 ∨ G.2.2.2.2.2.1 ≤ (x3 + 1).toNatClampNeg then none else (fX9_write x1 (G.2.2.2.2.2.2.1 ((x3 + 1).toNatClampNeg)) M).bind fun p20 => if x3 + 1 < 0 ∨ G.2.2.2.2.2.1 ≤ (x3 + 1).toNatClampNeg then none else (fX10_write x2 (G.2.2.2.2.2.2.1 ((x3 + 1).toNatClampNeg)) p20.2).bind fun p27 => if p20.1 = p27.1 then fL_law_1088 G k18 x1 x2 x3 p27.2 else some (0, p27.2) else if (G.2.2.2.2.2.2.1 (x3.toNatClampNeg)) &&& 31 = 1 then (fX9_wipe x1 M).bind fun p35 => (fX10_wipe x2 p35.2).bind fun p41 => if p35.1 = p41.1 then fL_law_1088 G k18 x1 x2 x3 p41.2 else some (0, p41.2) else if (G.2.2.2.2.2.2.1 (x3.toNatClampNeg)) &&& 31 = 2 then (fX9_fault x1 M).bind fun p49 => (fX10_fault x2 p49.2).bind fun p55 => if p49.1 = p55.1 then fL_law_1088 G k18 x1 x2 x3 p55.2 else some (0, p55.2) else if (G.2.2.2.2.2.2.1 (x3.toNatClampNeg)) &&& 31 = 3 then (fX9_lay x1 M).bind fun p63 => (fX10_lay x2 p63.2).bind fun p69 => if p63.1 = p69.1 then fL_law_1088 G k18 x1 x2 x3 p69.2 else some (0, p69.2) else if (G.2.2.2.2.2.2.1 (x3.toNatClampNeg)) &&& 31 = 4 then if x3 + 1 < 0 ∨ G.2.2.2.2.2.1 ≤ (x3 + 1).toNatClampNeg then none else (fX9_cause x1 (G.2.2.2.2.2.2.1 ((x3 + 1).toNatClampNeg)) M).bind fun p78 => if x3 + 1 < 0 ∨ G.2.2.2.2.2.1 ≤ (x3 + 1).toNatClampNeg then none else (fX10_cause x2 (G.2.2.2.2.2.2.1 ((x3 + 1).toNatClampNeg)) p78.2).bind fun p85 => if p78.1 = p85.1 then fL_law_1088 G k18 x1 x2 x3 p85.2 else some (0, p85.2) else if (G.2.2.2.2.2.2.1 (x3.toNatClampNeg)) &&& 31 = 5 then if x3 + 1 < 0 ∨ G.2.2.2.2.2.1 ≤ (x3 + 1).toNatClampNeg then none else (fX9_curve x1 (G.2.2.2.2.2.2.1 ((x3 + 1).toNatClampNeg)) M).bind fun p94 => if x3 + 1 < 0 ∨ G.2.2.2.2.2.1 ≤ (x3 + 1).toNatClampNeg then none else (fX10_curve x2 (G.2.2.2.2.2.2.1 ((x3 + 1).toNatClampNeg)) p94.2).bind fun p101 => if p94.1 = p101.1 then fL_law_1088 G k18 x1 x2 x3 p101.2 else some (0, p101.2) else if (G.2.2.2.2.2.2.1 (x3.toNatClampNeg)) &&& 31 = 6 then if x3 + 1 < 0 ∨ G.2.2.2.2.2.1 ≤ (x3 + 1).toNatClampNeg then none else if x3 + 2 < 0 ∨ G.2.2.2.2.2.1 ≤ (x3 + 2).toNatClampNeg then none else (fX9_levels x1 (G.2.2.2.2.2.2.1 ((x3 + 1).toNatClampNeg)) (G.2.2.2.2.2.2.1 ((x3 + 2).toNatClampNeg)) M).bind fun p111 => if x3 + 1 < 0 ∨ G.2.2.2.2.2.1 ≤ (x3 + 1).toNatClampNeg then none else if x3 + 2 < 0 ∨ G.2.2.2.2.2.1 ≤ (x3 + 2).toNatClampNeg then none else (fX10_levels x2 (G.2.2.2.2.2.2.1 ((x3 + 1).toNatClampNeg)) (G.2.2.2.2.2.2.1 ((x3 + 2).toNatClampNeg)) p111.2).bind fun p119 => if p111.1 = p119.1 then fL_law_1088 G k18 x1 x2 x3 p119.2 else some (0, p119.2) else if (G.2.2.2.2.2.2.1 (x3.toNatClampNeg)) &&& 31 = 7 then if x3 + 1 < 0 ∨ G.2.2.2.2.2.1 ≤ (x3 + 1).toNatClampNeg then none else if x3 + 2 < 0 ∨ G.2.2.2.2.2.1 ≤ (x3 + 2).toNatClampNeg then none else if x3 + 3 < 0 ∨ G.2.2.2.2.2.1 ≤ (x3 + 3).toNatClampNeg then none else if x3 + 4 < 0 ∨ G.2.2.2.2.2.1 ≤ (x3 + 4).toNatClampNeg then none else if x3 + 5 < 0 ∨ G.2.2.2.2.2.1 ≤ (x3 + 5).toNatClampNeg then none else (fX9_box x1 (G.2.2.2.2.2.2.1 ((x3 + 1).toNatClampNeg)) (G.2.2.2.2.2.2.1 ((x3 + 2).toNatClampNeg)) (G.2.2.2.2.2.2.1 ((x3 + 3).toNatClampNeg)) (G.2.2.2.2.2.2.1 ((x3 + 4).toNatClampNeg)) (G.2.2.2.2.2.2.1 ((x3 + 5).toNatClampNeg)) M).bind fun p132 => if x3 + 1 < 0 ∨ G.2.2.2.2.2.1 ≤ (x3 + 1).toNatClampNeg then none else if x3 + 2 < 0 ∨ G.2.2.2.2.2.1 ≤ (x3 + 2).toNatClampNeg then none else if x3 + 3 < 0 ∨ G.2.2.2.2.2.1 ≤ (x3 + 3).toNatClampNeg then none else if x3 + 4 < 0 ∨ G.2.2.2.2.2.1 ≤ (x3 + 4).toNatClampNeg then none else if x3 + 5 < 0 ∨ G.2.2.2.2.2.1 ≤ (x3 + 5).toNatClampNeg then none else (fX10_box x2 (G.2.2.2.2.2.2.1 ((x3 + 1).toNatClampNeg)) (G.2.2.2.2.2.2.1 ((x3 + 2).toNatClampNeg)) (G.2.2.2.2.2.2.1 ((x3 + 3).toNatClampNeg)) (G.2.2.2.2.2.2.1 ((x3 + 4).toNatClampNeg)) (G.2.2.2.2.2.2.1 ((x3 + 5).toNatClampNeg)) p132.2).bind fun p143 => if p132.1 = p143.1 then fL_law_1088 G k18 x1 x2 x3 p143.2 else some (0, p143.2) else if (G.2.2.2.2.2.2.1 (x3.toNatClampNeg)) &&& 31 = 8 then if x3 + 1 < 0 ∨ G.2.2.2.2.2.1 ≤ (x3 + 1).toNatClampNeg then none else if x3 + 2 < 0 ∨ G.2.2.2.2.2.1 ≤ (x3 + 2).toNatClampNeg then none else if x3 + 3 < 0 ∨ G.2.2.2.2.2.1 ≤ (x3 + 3).toNatClampNeg then none else if x3 + 4 < 0 ∨ G.2.2.2.2.2.1 ≤ (x3 + 4).toNatClampNeg then none else (fX9_disc x1 (G.2.2.2.2.2.2.1 ((x3 + 1).toNatClampNeg)) (G.2.2.2.2.2.2.1 ((x3 + 2).toNatClampNeg)) (G.2.2.2.2.2.2.1 ((x3 + 3).toNatClampNeg)) (G.2.2.2.2.2.2.1 ((x3 + 4).toNatClampNeg)) M).bind fun p155 => if x3 + 1 < 0 ∨ G.2.2.2.2.2.1 ≤ (x3 + 1).toNatClampNeg then none else if x3 + 2 < 0 ∨ G.2.2.2.2.2.1 ≤ (x3 + 2).toNatClampNeg then none else if x3 + 3 < 0 ∨ G.2.2.2.2.2.1 ≤ (x3 + 3).toNatClampNeg then none else if x3 + 4 < 0 ∨ G.2.2.2.2.2.1 ≤ (x3 + 4).toNatClampNeg then none else (fX10_disc x2 (G.2.2.2.2.2.2.1 ((x3 + 1).toNatClampNeg)) (G.2.2.2.2.2.2.1 ((x3 + 2).toNatClampNeg)) (G.2.2.2.2.2.2.1 ((x3 + 3).toNatClampNeg)) (G.2.2.2.2.2.2.1 ((x3 + 4).toNatClampNeg)) p155.2).bind fun p165 => if p155.1 = p165.1 then fL_law_1088 G k18 x1 x2 x3 p165.2 else some (0, p165.2) else if (G.2.2.2.2.2.2.1 (x3.toNatClampNeg)) &&& 31 = 9 then if x3 + 1 < 0 ∨ G.2.2.2.2.2.1 ≤ (x3 + 1).toNatClampNeg then none else (fX9_drop x1 (G.2.2.2.2.2.2.1 ((x3 + 1).toNatClampNeg)) M).bind fun p174 => if x3 + 1 < 0 ∨ G.2.2.2.2.2.1 ≤ (x3 + 1).toNatClampNeg then none else (fX10_drop x2 (G.2.2.2.2.2.2.1 ((x3 + 1).toNatClampNeg)) p174.2).bind fun p181 => if p174.1 = p181.1 then fL_law_1088 G k18 x1 x2 x3 p181.2 else some (0, p181.2) else if (G.2.2.2.2.2.2.1 (x3.toNatClampNeg)) &&& 31 = 10 then if x3 + 1 < 0 ∨ G.2.2.2.2.2.1 ≤ (x3 + 1).toNatClampNeg then none else if x3 + 2 < 0 ∨ G.2.2.2.2.2.1 ≤ (x3 + 2).toNatClampNeg then none else (fX9_point x1 (G.2.2.2.2.2.2.1 ((x3 + 1).toNatClampNeg)) (G.2.2.2.2.2.2.1 ((x3 + 2).toNatClampNeg)) M).bind fun p191 => if x3 + 1 < 0 ∨ G.2.2.2.2.2.1 ≤ (x3 + 1).toNatClampNeg then none else if x3 + 2 < 0 ∨ G.2.2.2.2.2.1 ≤ (x3 + 2).toNatClampNeg then none else (fX10_point x2 (G.2.2.2.2.2.2.1 ((x3 + 1).toNatClampNeg)) (G.2.2.2.2.2.2.1 ((x3 + 2).toNatClampNeg)) p191.2).bind fun p199 => if p191.1 = p199.1 then fL_law_1088 G k18 x1 x2 x3 p199.2 else some (0, p199.2) else if (G.2.2.2.2.2.2.1 (x3.toNatClampNeg)) &&& 31 = 11 then if x3 + 1 < 0 ∨ G.2.2.2.2.2.1 ≤ (x3 + 1).toNatClampNeg then none else (fX9_lift x1 (G.2.2.2.2.2.2.1 ((x3 + 1).toNatClampNeg)) M).bind fun p208 => if x3 + 1 < 0 ∨ G.2.2.2.2.2.1 ≤ (x3 + 1).toNatClampNeg then none else (fX10_lift x2 (G.2.2.2.2.2.2.1 ((x3 + 1).toNatClampNeg)) p208.2).bind fun p215 => if p208.1 = p215.1 then fL_law_1088 G k18 x1 x2 x3 p215.2 else some (0, p215.2) else if (G.2.2.2.2.2.2.1 (x3.toNatClampNeg)) &&& 31 = 12 then if x3 + 1 < 0 ∨ G.2.2.2.2.2.1 ≤ (x3 + 1).toNatClampNeg then none else if x3 + 2 < 0 ∨ G.2.2.2.2.2.1 ≤ (x3 + 2).toNatClampNeg then none else (fX9_key x1 (G.2.2.2.2.2.2.1 ((x3 + 1).toNatClampNeg)) (G.2.2.2.2.2.2.1 ((x3 + 2).toNatClampNeg)) M).bind fun p225 => if x3 + 1 < 0 ∨ G.2.2.2.2.2.1 ≤ (x3 + 1).toNatClampNeg then none else if x3 + 2 < 0 ∨ G.2.2.2.2.2.1 ≤ (x3 + 2).toNatClampNeg then none else (fX10_key x2 (G.2.2.2.2.2.2.1 ((x3 + 1).toNatClampNeg)) (G.2.2.2.2.2.2.1 ((x3 + 2).toNatClampNeg)) p225.2).bind fun p233 => if p225.1 = p233.1 then fL_law_1088 G k18 x1 x2 x3 p233.2 else some (0, p233.2) else if (G.2.2.2.2.2.2.1 (x3.toNatClampNeg)) &&& 31 = 13 then if x3 + 1 < 0 ∨ G.2.2.2.2.2.1 ≤ (x3 + 1).toNatClampNeg then none else if x3 + 2 < 0 ∨ G.2.2.2.2.2.1 ≤ (x3 + 2).toNatClampNeg then none else (fX9_cell x1 (G.2.2.2.2.2.2.1 ((x3 + 1).toNatClampNeg)) (G.2.2.2.2.2.2.1 ((x3 + 2).toNatClampNeg)) M).bind fun p243 => if x3 + 1 < 0 ∨ G.2.2.2.2.2.1 ≤ (x3 + 1).toNatClampNeg then none else if x3 + 2 < 0 ∨ G.2.2.2.2.2.1 ≤ (x3 + 2).toNatClampNeg then none else (fX10_cell x2 (G.2.2.2.2.2.2.1 ((x3 + 1).toNatClampNeg)) (G.2.2.2.2.2.2.1 ((x3 + 2).toNatClampNeg)) p243.2).bind fun p251 => if p243.1 = p251.1 then fL_law_1088 G k18 x1 x2 x3 p251.2 else some (0, p251.2) else if (G.2.2.2.2.2.2.1 (x3.toNatClampNeg)) &&& 31 = 14 then if x3 + 1 < 0 ∨ G.2.2.2.2.2.1 ≤ (x3 + 1).toNatClampNeg then none else if x3 + 2 < 0 ∨ G.2.2.2.2.2.1 ≤ (x3 + 2).toNatClampNeg then none else if x3 + 3 < 0 ∨ G.2.2.2.2.2.1 ≤ (x3 + 3).toNatClampNeg then none else (fX9_tile x1 (G.2.2.2.2.2.2.1 ((x3 + 1).toNatClampNeg)) (G.2.2.2.2.2.2.1 ((x3 + 2).toNatClampNeg)) (G.2.2.2.2.2.2.1 ((x3 + 3).toNatClampNeg)) M).bind fun p262 => if x3 + 1 < 0 ∨ G.2.2.2.2.2.1 ≤ (x3 + 1).toNatClampNeg then none else if x3 + 2 < 0 ∨ G.2.2.2.2.2.1 ≤ (x3 + 2).toNatClampNeg then none else if x3 + 3 < 0 ∨ G.2.2.2.2.2.1 ≤ (x3 + 3).toNatClampNeg then none else (fX10_tile x2 (G.2.2.2.2.2.2.1 ((x3 + 1).toNatClampNeg)) (G.2.2.2.2.2.2.1 ((x3 + 2).toNatClampNeg)) (G.2.2.2.2.2.2.1 ((x3 + 3).toNatClampNeg)) p262.2).bind fun p271 => if p262.1 = p271.1 then fL_law_1088 G k18 x1 x2 x3 p271.2 else some (0, p271.2) else if (G.2.2.2.2.2.2.1 (x3.toNatClampNeg)) &&& 31 = 15 then if x3 + 1 < 0 ∨ G.2.2.2.2.2.1 ≤ (x3 + 1).toNatClampNeg then none else if x3 + 2 < 0 ∨ G.2.2.2.2.2.1 ≤ (x3 + 2).toNatClampNeg then none else if x3 + 3 < 0 ∨ G.2.2.2.2.2.1 ≤ (x3 + 3).toNatClampNeg then none else if x3 + 4 < 0 ∨ G.2.2.2.2.2.1 ≤ (x3 + 4).toNatClampNeg then none else (fX9_beside x1 (G.2.2.2.2.2.2.1 ((x3 + 1).toNatClampNeg)) (G.2.2.2.2.2.2.1 ((x3 + 2).toNatClampNeg)) (G.2.2.2.2.2.2.1 ((x3 + 3).toNatClampNeg)) (G.2.2.2.2.2.2.1 ((x3 + 4).toNatClampNeg)) M).bind fun p283 => if x3 + 1 < 0 ∨ G.2.2.2.2.2.1 ≤ (x3 + 1).toNatClampNeg then none else if x3 + 2 < 0 ∨ G.2.2.2.2.2.1 ≤ (x3 + 2).toNatClampNeg then none else if x3 + 3 < 0 ∨ G.2.2.2.2.2.1 ≤ (x3 + 3).toNatClampNeg then none else if x3 + 4 < 0 ∨ G.2.2.2.2.2.1 ≤ (x3 + 4).toNatClampNeg then none else (fX10_beside x2 (G.2.2.2.2.2.2.1 ((x3 + 1).toNatClampNeg)) (G.2.2.2.2.2.2.1 ((x3 + 2).toNatClampNeg)) (G.2.2.2.2.2.2.1 ((x3 + 3).toNatClampNeg)) (G.2.2.2.2.2.2.1 ((x3 + 4).toNatClampNeg)) p283.2).bind fun p293 => if p283.1 = p293.1 then fL_law_1088 G k18 x1 x2 x3 p293.2 else some (0, p293.2) else if (G.2.2.2.2.2.2.1 (x3.toNatClampNeg)) &&& 31 = 16 then if x3 + 1 < 0 ∨ G.2.2.2.2.2.1 ≤ (x3 + 1).toNatClampNeg then none else if x3 + 2 < 0 ∨ G.2.2.2.2.2.1 ≤ (x3 + 2).toNatClampNeg then none else if x3 + 3 < 0 ∨ G.2.2.2.2.2.1 ≤ (x3 + 3).toNatClampNeg then none else if x3 + 4 < 0 ∨ G.2.2.2.2.2.1 ≤ (x3 + 4).toNatClampNeg then none else (fX9_common x1 (G.2.2.2.2.2.2.1 ((x3 + 1).toNatClampNeg)) (G.2.2.2.2.2.2.1 ((x3 + 2).toNatClampNeg)) (G.2.2.2.2.2.2.1 ((x3 + 3).toNatClampNeg)) (G.2.2.2.2.2.2.1 ((x3 + 4).toNatClampNeg)) M).bind fun p305 => if x3 + 1 < 0 ∨ G.2.2.2.2.2.1 ≤ (x3 + 1).toNatClampNeg then none else if x3 + 2 < 0 ∨ G.2.2.2.2.2.1 ≤ (x3 + 2).toNatClampNeg then none else if x3 + 3 < 0 ∨ G.2.2.2.2.2.1 ≤ (x3 + 3).toNatClampNeg then none else if x3 + 4 < 0 ∨ G.2.2.2.2.2.1 ≤ (x3 + 4).toNatClampNeg then none else (fX10_common x2 (G.2.2.2.2.2.2.1 ((x3 + 1).toNatClampNeg)) (G.2.2.2.2.2.2.1 ((x3 + 2).toNatClampNeg)) (G.2.2.2.2.2.2.1 ((x3 + 3).toNatClampNeg)) (G.2.2.2.2.2.2.1 ((x3 + 4).toNatClampNeg)) p305.2).bind fun p315 => if p305.1 = p315.1 then fL_law_1088 G k18 x1 x2 x3 p315.2 else some (0, p315.2) else if (G.2.2.2.2.2.2.1 (x3.toNatClampNeg)) &&& 31 = 17 then (fX9_leaps x1 M).bind fun p323 => (fX10_leaps x2 p323.2).bind fun p329 => if p323.1 = p329.1 then fL_law_1088 G k18 x1 x2 x3 p329.2 else some (0, p329.2) else if (G.2.2.2.2.2.2.1 (x3.toNatClampNeg)) &&& 31 = 18 then if x3 + 1 < 0 ∨ G.2.2.2.2.2.1 ≤ (x3 + 1).toNatClampNeg then none else if x3 + 2 < 0 ∨ G.2.2.2.2.2.1 ≤ (x3 + 2).toNatClampNeg then none else (fX9_in x1 (G.2.2.2.2.2.2.1 ((x3 + 1).toNatClampNeg)) (G.2.2.2.2.2.2.1 ((x3 + 2).toNatClampNeg)) M).bind fun p339 => if x3 + 1 < 0 ∨ G.2.2.2.2.2.1 ≤ (x3 + 1).toNatClampNeg then none else if x3 + 2 < 0 ∨ G.2.2.2.2.2.1 ≤ (x3 + 2).toNatClampNeg then none else (fX10_in x2 (G.2.2.2.2.2.2.1 ((x3 + 1).toNatClampNeg)) (G.2.2.2.2.2.2.1 ((x3 + 2).toNatClampNeg)) p339.2).bind fun p347 => if p339.1 = p347.1 then fL_law_1088 G k18 x1 x2 x3 p347.2 else some (0, p347.2) else if (G.2.2.2.2.2.2.1 (x3.toNatClampNeg)) &&& 31 = 19 then if x3 + 1 < 0 ∨ G.2.2.2.2.2.1 ≤ (x3 + 1).toNatClampNeg then none else if x3 + 2 < 0 ∨ G.2.2.2.2.2.1 ≤ (x3 + 2).toNatClampNeg then none else if x3 + 3 < 0 ∨ G.2.2.2.2.2.1 ≤ (x3 + 3).toNatClampNeg then none else (fX9_cover x1 (G.2.2.2.2.2.2.1 ((x3 + 1).toNatClampNeg)) (G.2.2.2.2.2.2.1 ((x3 + 2).toNatClampNeg)) (G.2.2.2.2.2.2.1 ((x3 + 3).toNatClampNeg)) M).bind fun p358 => if x3 + 1 < 0 ∨ G.2.2.2.2.2.1 ≤ (x3 + 1).toNatClampNeg then none else if x3 + 2 < 0 ∨ G.2.2.2.2.2.1 ≤ (x3 + 2).toNatClampNeg then none else if x3 + 3 < 0 ∨ G.2.2.2.2.2.1 ≤ (x3 + 3).toNatClampNeg then none else (fX10_cover x2 (G.2.2.2.2.2.2.1 ((x3 + 1).toNatClampNeg)) (G.2.2.2.2.2.2.1 ((x3 + 2).toNatClampNeg)) (G.2.2.2.2.2.2.1 ((x3 + 3).toNatClampNeg)) p358.2).bind fun p367 => if p358.1 = p367.1 then fL_law_1088 G k18 x1 x2 x3 p367.2 else some (0, p367.2) else if (G.2.2.2.2.2.2.1 (x3.toNatClampNeg)) &&& 31 = 20 then if x3 + 1 < 0 ∨ G.2.2.2.2.2.1 ≤ (x3 + 1).toNatClampNeg then none else (fX9_rest x1 (G.2.2.2.2.2.2.1 ((x3 + 1).toNatClampNeg)) M).bind fun p376 => if x3 + 1 < 0 ∨ G.2.2.2.2.2.1 ≤ (x3 + 1).toNatClampNeg then none else (fX10_rest x2 (G.2.2.2.2.2.2.1 ((x3 + 1).toNatClampNeg)) p376.2).bind fun p383 => if p376.1 = p383.1 then fL_law_1088 G k18 x1 x2 x3 p383.2 else some (0, p383.2) else if (G.2.2.2.2.2.2.1 (x3.toNatClampNeg)) &&& 31 = 21 then if x3 + 1 < 0 ∨ G.2.2.2.2.2.1 ≤ (x3 + 1).toNatClampNeg then none else (fX9_best x1 (G.2.2.2.2.2.2.1 ((x3 + 1).toNatClampNeg)) M).bind fun p392 => if x3 + 1 < 0 ∨ G.2.2.2.2.2.1 ≤ (x3 + 1).toNatClampNeg then none else (fX10_best x2 (G.2.2.2.2.2.2.1 ((x3 + 1).toNatClampNeg)) p392.2).bind fun p399 => if p392.1 = p399.1 then fL_law_1088 G k18 x1 x2 x3 p399.2 else some (0, p399.2) else if (G.2.2.2.2.2.2.1 (x3.toNatClampNeg)) &&& 31 = 22 then if x3 + 1 < 0 ∨ G.2.2.2.2.2.1 ≤ (x3 + 1).toNatClampNeg then none else if x3 + 2 < 0 ∨ G.2.2.2.2.2.1 ≤ (x3 + 2).toNatClampNeg then none else if x3 + 3 < 0 ∨ G.2.2.2.2.2.1 ≤ (x3 + 3).toNatClampNeg then none else (fX9_span x1 (G.2.2.2.2.2.2.1 ((x3 + 1).toNatClampNeg)) (G.2.2.2.2.2.2.1 ((x3 + 2).toNatClampNeg)) (G.2.2.2.2.2.2.1 ((x3 + 3).toNatClampNeg)) M).bind fun p410 => if x3 + 1 < 0 ∨ G.2.2.2.2.2.1 ≤ (x3 + 1).toNatClampNeg then none else if x3 + 2 < 0 ∨ G.2.2.2.2.2.1 ≤ (x3 + 2).toNatClampNeg then none else if x3 + 3 < 0 ∨ G.2.2.2.2.2.1 ≤ (x3 + 3).toNatClampNeg then none else (fX10_span x2 (G.2.2.2.2.2.2.1 ((x3 + 1).toNatClampNeg)) (G.2.2.2.2.2.2.1 ((x3 + 2).toNatClampNeg)) (G.2.2.2.2.2.2.1 ((x3 + 3).toNatClampNeg)) p410.2).bind fun p419 => if p410.1 = p419.1 then fL_law_1088 G k18 x1 x2 x3 p419.2 else some (0, p419.2) else if (G.2.2.2.2.2.2.1 (x3.toNatClampNeg)) &&& 31 = 23 then if x3 + 1 < 0 ∨ G.2.2.2.2.2.1 ≤ (x3 + 1).toNatClampNeg then none else if x3 + 2 < 0 ∨ G.2.2.2.2.2.1 ≤ (x3 + 2).toNatClampNeg then none else (fX9_joined x1 (G.2.2.2.2.2.2.1 ((x3 + 1).toNatClampNeg)) (G.2.2.2.2.2.2.1 ((x3 + 2).toNatClampNeg)) M).bind fun p429 => if x3 + 1 < 0 ∨ G.2.2.2.2.2.1 ≤ (x3 + 1).toNatClampNeg then none else if x3 + 2 < 0 ∨ G.2.2.2.2.2.1 ≤ (x3 + 2).toNatClampNeg then none else (fX10_joined x2 (G.2.2.2.2.2.2.1 ((x3 + 1).toNatClampNeg)) (G.2.2.2.2.2.2.1 ((x3 + 2).toNatClampNeg)) p429.2).bind fun p437 => if p429.1 = p437.1 then fL_law_1088 G k18 x1 x2 x3 p437.2 else some (0, p437.2) else if (G.2.2.2.2.2.2.1 (x3.toNatClampNeg)) &&& 31 = 24 then if x3 + 1 < 0 ∨ G.2.2.2.2.2.1 ≤ (x3 + 1).toNatClampNeg then none else if x3 + 2 < 0 ∨ G.2.2.2.2.2.1 ≤ (x3 + 2).toNatClampNeg then none else (fX9_at x1 (G.2.2.2.2.2.2.1 ((x3 + 1).toNatClampNeg)) (G.2.2.2.2.2.2.1 ((x3 + 2).toNatClampNeg)) M).bind fun p447 => if x3 + 1 < 0 ∨ G.2.2.2.2.2.1 ≤ (x3 + 1).toNatClampNeg then none else if x3 + 2 < 0 ∨ G.2.2.2.2.2.1 ≤ (x3 + 2).toNatClampNeg then none else (fX10_at x2 (G.2.2.2.2.2.2.1 ((x3 + 1).toNatClampNeg)) (G.2.2.2.2.2.2.1 ((x3 + 2).toNatClampNeg)) p447.2).bind fun p455 => if p447.1 = p455.1 then fL_law_1088 G k18 x1 x2 x3 p455.2 else some (0, p455.2) else if (G.2.2.2.2.2.2.1 (x3.toNatClampNeg)) &&& 31 = 25 then if x3 + 1 < 0 ∨ G.2.2.2.2.2.1 ≤ (x3 + 1).toNatClampNeg then none else (fX9_ordered x1 (G.2.2.2.2.2.2.1 ((x3 + 1).toNatClampNeg)) M).bind fun p464 => if x3 + 1 < 0 ∨ G.2.2.2.2.2.1 ≤ (x3 + 1).toNatClampNeg then none else (fX10_ordered x2 (G.2.2.2.2.2.2.1 ((x3 + 1).toNatClampNeg)) p464.2).bind fun p471 => if p464.1 = p471.1 then fL_law_1088 G k18 x1 x2 x3 p471.2 else some (0, p471.2) else if (G.2.2.2.2.2.2.1 (x3.toNatClampNeg)) &&& 31 = 26 then if x3 + 1 < 0 ∨ G.2.2.2.2.2.1 ≤ (x3 + 1).toNatClampNeg then none else (fX9_search x1 (G.2.2.2.2.2.2.1 ((x3 + 1).toNatClampNeg)) M).bind fun p480 => if x3 + 1 < 0 ∨ G.2.2.2.2.2.1 ≤ (x3 + 1).toNatClampNeg then none else (fX10_search x2 (G.2.2.2.2.2.2.1 ((x3 + 1).toNatClampNeg)) p480.2).bind fun p487 => if p480.1 = p487.1 then fL_law_1088 G k18 x1 x2 x3 p487.2 else some (0, p487.2) else if (G.2.2.2.2.2.2.1 (x3.toNatClampNeg)) &&& 31 = 27 then if x3 + 1 < 0 ∨ G.2.2.2.2.2.1 ≤ (x3 + 1).toNatClampNeg then none else (fX9_found x1 (G.2.2.2.2.2.2.1 ((x3 + 1).toNatClampNeg)) M).bind fun p496 => if x3 + 1 < 0 ∨ G.2.2.2.2.2.1 ≤ (x3 + 1).toNatClampNeg then none else (fX10_found x2 (G.2.2.2.2.2.2.1 ((x3 + 1).toNatClampNeg)) p496.2).bind fun p503 => if p496.1 = p503.1 then fL_law_1088 G k18 x1 x2 x3 p503.2 else some (0, p503.2) else if (G.2.2.2.2.2.2.1 (x3.toNatClampNeg)) &&& 31 = 28 then if x3 + 1 < 0 ∨ G.2.2.2.2.2.1 ≤ (x3 + 1).toNatClampNeg then none else if x3 + 2 < 0 ∨ G.2.2.2.2.2.1 ≤ (x3 + 2).toNatClampNeg then none else (fX9_nearest x1 (G.2.2.2.2.2.2.1 ((x3 + 1).toNatClampNeg)) (G.2.2.2.2.2.2.1 ((x3 + 2).toNatClampNeg)) M).bind fun p513 => if x3 + 1 < 0 ∨ G.2.2.2.2.2.1 ≤ (x3 + 1).toNatClampNeg then none else if x3 + 2 < 0 ∨ G.2.2.2.2.2.1 ≤ (x3 + 2).toNatClampNeg then none else (fX10_nearest x2 (G.2.2.2.2.2.2.1 ((x3 + 1).toNatClampNeg)) (G.2.2.2.2.2.2.1 ((x3 + 2).toNatClampNeg)) p513.2).bind fun p521 => if p513.1 = p521.1 then fL_law_1088 G k18 x1 x2 x3 p521.2 else some (0, p521.2) else if (G.2.2.2.2.2.2.1 (x3.toNatClampNeg)) &&& 31 = 29 then if x3 + 1 < 0 ∨ G.2.2.2.2.2.1 ≤ (x3 + 1).toNatClampNeg then none else (fX9_count x1 (G.2.2.2.2.2.2.1 ((x3 + 1).toNatClampNeg)) M).bind fun p530 => if x3 + 1 < 0 ∨ G.2.2.2.2.2.1 ≤ (x3 + 1).toNatClampNeg then none else (fX10_count x2 (G.2.2.2.2.2.2.1 ((x3 + 1).toNatClampNeg)) p530.2).bind fun p537 => if p530.1 = p537.1 then fL_law_1088 G k18 x1 x2 x3 p537.2 else some (0, p537.2) else fL_law_1088 G k18 x1 x2 x3 M)
  refine am_iload_n 3 dL_law_18 rfl rfl ?_
  refine am_rload_n 0 dL_law_19 rfl rfl ?_
  refine am_slen dL_law_20 ?_
  refine am_bipush (x := 6) dL_law_21 (by decide) ?_
  refine am_isub dL_law_23 ?_
  refine am_icmp_gt (tgt := 1094) dL_law_24 (by decide) (fun c11 => ?_) (fun c11 => ?_)
  · refine am_iconst dL_law_1094 am_kc_1 ?_
    exact am_zret1 dL_law_1095
  · refine am_rload_n 0 dL_law_27 rfl rfl ?_
    refine am_iload_n 3 dL_law_28 rfl rfl ?_
    refine am_sld dL_law_29 (fun b12 => ?_)
    refine am_bipush (x := 31) dL_law_30 (by decide) ?_
    refine am_iand dL_law_32 ?_
    refine am_case (fun c13 => ?_) (fun c13 => ?_)
    · have e_c13 : ((G.2.2.2.2.2.2.1 (x3.toNatClampNeg)) &&& 31).toInt = 0 := by rw [c13]; decide
      refine am_swIn (off := 135) (tgt := 168) dL_law_33 (by omega) (by omega) (by rw [e_c13]; rfl) (by decide) ?_
      refine am_aload_n 1 dL_law_168 rfl rfl ?_
      refine am_rload_n 0 dL_law_169 rfl rfl ?_
      refine am_iload_n 3 dL_law_170 rfl rfl ?_
      refine am_iconst dL_law_171 am_kc_1 ?_
      refine am_iadd dL_law_172 ?_
      refine am_sld dL_law_173 (fun b14 => ?_)
      refine am_callVi 8 [.int (G.2.2.2.2.2.2.1 ((x3 + 1).toNatClampNeg))] (CX9_write G x1 (G.2.2.2.2.2.2.1 ((x3 + 1).toNatClampNeg)) M h_x1) dL_law_174 mb_yX9_write ⟨ml_RL_13, im_yX9_write, se_yX9_write⟩ rfl h_x1 (by decide) rfl rfl (Nat.le_of_ble_eq_true rfl) (fun v19 M16 q15 w18 l17 => ?_)
      refine am_aload_n 2 dL_law_177 rfl rfl ?_
      refine am_rload_n 0 dL_law_178 rfl rfl ?_
      refine am_iload_n 3 dL_law_179 rfl rfl ?_
      refine am_iconst dL_law_180 am_kc_1 ?_
      refine am_iadd dL_law_181 ?_
      refine am_sld dL_law_182 (fun b21 => ?_)
      refine am_callVi 9 [.int (G.2.2.2.2.2.2.1 ((x3 + 1).toNatClampNeg))] (CX10_write G x2 (G.2.2.2.2.2.2.1 ((x3 + 1).toNatClampNeg)) M16 (am_sh.mono l17 h_x2)) dL_law_183 mb_yX10_write ⟨ml_RL_17, im_yX10_write, se_yX10_write⟩ rfl (am_sh.mono l17 h_x2) (by decide) rfl rfl (Nat.le_of_ble_eq_true rfl) (fun v26 M23 q22 w25 l24 => ?_)
      refine am_icmp_eq (tgt := 1088) dL_law_186 (by decide) (fun c28 => ?_) (fun c28 => ?_)
      · exact sL_law_1088 G hfm k18 hk18 x1 x2 x3 M23 (am_sh.mono l24 (am_sh.mono l17 h_x1)) (am_sh.mono l24 (am_sh.mono l17 h_x2))
      · refine am_iconst dL_law_189 am_kc_0 ?_
        exact am_zret0 dL_law_190
    refine am_case (fun c29 => ?_) (fun c29 => ?_)
    · have e_c29 : ((G.2.2.2.2.2.2.1 (x3.toNatClampNeg)) &&& 31).toInt = 1 := by rw [c29]; decide
      refine am_swIn (off := 158) (tgt := 191) dL_law_33 (by omega) (by omega) (by rw [e_c29]; rfl) (by decide) ?_
      refine am_aload_n 1 dL_law_191 rfl rfl ?_
      refine am_callVi 8 [] (CX9_wipe G x1 M h_x1) dL_law_192 mb_yX9_wipe ⟨ml_RL_18, im_yX9_wipe, se_yX9_wipe⟩ rfl h_x1 (by decide) rfl rfl (Nat.le_of_ble_eq_true rfl) (fun v34 M31 q30 w33 l32 => ?_)
      refine am_aload_n 2 dL_law_195 rfl rfl ?_
      refine am_callVi 9 [] (CX10_wipe G x2 M31 (am_sh.mono l32 h_x2)) dL_law_196 mb_yX10_wipe ⟨ml_RL_22, im_yX10_wipe, se_yX10_wipe⟩ rfl (am_sh.mono l32 h_x2) (by decide) rfl rfl (Nat.le_of_ble_eq_true rfl) (fun v40 M37 q36 w39 l38 => ?_)
      refine am_icmp_eq (tgt := 1088) dL_law_199 (by decide) (fun c42 => ?_) (fun c42 => ?_)
      · exact sL_law_1088 G hfm k18 hk18 x1 x2 x3 M37 (am_sh.mono l38 (am_sh.mono l32 h_x1)) (am_sh.mono l38 (am_sh.mono l32 h_x2))
      · refine am_iconst dL_law_202 am_kc_0 ?_
        exact am_zret0 dL_law_203
    refine am_case (fun c43 => ?_) (fun c43 => ?_)
    · have e_c43 : ((G.2.2.2.2.2.2.1 (x3.toNatClampNeg)) &&& 31).toInt = 2 := by rw [c43]; decide
      refine am_swIn (off := 171) (tgt := 204) dL_law_33 (by omega) (by omega) (by rw [e_c43]; rfl) (by decide) ?_
      refine am_aload_n 1 dL_law_204 rfl rfl ?_
      refine am_callVi 8 [] (CX9_fault G x1 M h_x1) dL_law_205 mb_yX9_fault ⟨ml_RL_23, im_yX9_fault, se_yX9_fault⟩ rfl h_x1 (by decide) rfl rfl (Nat.le_of_ble_eq_true rfl) (fun v48 M45 q44 w47 l46 => ?_)
      refine am_aload_n 2 dL_law_208 rfl rfl ?_
      refine am_callVi 9 [] (CX10_fault G x2 M45 (am_sh.mono l46 h_x2)) dL_law_209 mb_yX10_fault ⟨ml_RL_26, im_yX10_fault, se_yX10_fault⟩ rfl (am_sh.mono l46 h_x2) (by decide) rfl rfl (Nat.le_of_ble_eq_true rfl) (fun v54 M51 q50 w53 l52 => ?_)
      refine am_icmp_eq (tgt := 1088) dL_law_212 (by decide) (fun c56 => ?_) (fun c56 => ?_)
      · exact sL_law_1088 G hfm k18 hk18 x1 x2 x3 M51 (am_sh.mono l52 (am_sh.mono l46 h_x1)) (am_sh.mono l52 (am_sh.mono l46 h_x2))
      · refine am_iconst dL_law_215 am_kc_0 ?_
        exact am_zret0 dL_law_216
    refine am_case (fun c57 => ?_) (fun c57 => ?_)
    · have e_c57 : ((G.2.2.2.2.2.2.1 (x3.toNatClampNeg)) &&& 31).toInt = 3 := by rw [c57]; decide
      refine am_swIn (off := 184) (tgt := 217) dL_law_33 (by omega) (by omega) (by rw [e_c57]; rfl) (by decide) ?_
      refine am_aload_n 1 dL_law_217 rfl rfl ?_
      refine am_callVi 8 [] (CX9_lay G x1 M h_x1) dL_law_218 mb_yX9_lay ⟨ml_RL_27, im_yX9_lay, se_yX9_lay⟩ rfl h_x1 (by decide) rfl rfl (Nat.le_of_ble_eq_true rfl) (fun v62 M59 q58 w61 l60 => ?_)
      refine am_aload_n 2 dL_law_221 rfl rfl ?_
      refine am_callVi 9 [] (CX10_lay G x2 M59 (am_sh.mono l60 h_x2)) dL_law_222 mb_yX10_lay ⟨ml_RL_30, im_yX10_lay, se_yX10_lay⟩ rfl (am_sh.mono l60 h_x2) (by decide) rfl rfl (Nat.le_of_ble_eq_true rfl) (fun v68 M65 q64 w67 l66 => ?_)
      refine am_icmp_eq (tgt := 1088) dL_law_225 (by decide) (fun c70 => ?_) (fun c70 => ?_)
      · exact sL_law_1088 G hfm k18 hk18 x1 x2 x3 M65 (am_sh.mono l66 (am_sh.mono l60 h_x1)) (am_sh.mono l66 (am_sh.mono l60 h_x2))
      · refine am_iconst dL_law_228 am_kc_0 ?_
        exact am_zret0 dL_law_229
    refine am_case (fun c71 => ?_) (fun c71 => ?_)
    · have e_c71 : ((G.2.2.2.2.2.2.1 (x3.toNatClampNeg)) &&& 31).toInt = 4 := by rw [c71]; decide
      refine am_swIn (off := 197) (tgt := 230) dL_law_33 (by omega) (by omega) (by rw [e_c71]; rfl) (by decide) ?_
      refine am_aload_n 1 dL_law_230 rfl rfl ?_
      refine am_rload_n 0 dL_law_231 rfl rfl ?_
      refine am_iload_n 3 dL_law_232 rfl rfl ?_
      refine am_iconst dL_law_233 am_kc_1 ?_
      refine am_iadd dL_law_234 ?_
      refine am_sld dL_law_235 (fun b72 => ?_)
      refine am_callVi 8 [.int (G.2.2.2.2.2.2.1 ((x3 + 1).toNatClampNeg))] (CX9_cause G x1 (G.2.2.2.2.2.2.1 ((x3 + 1).toNatClampNeg)) M h_x1) dL_law_236 mb_yX9_cause ⟨ml_RL_31, im_yX9_cause, se_yX9_cause⟩ rfl h_x1 (by decide) rfl rfl (Nat.le_of_ble_eq_true rfl) (fun v77 M74 q73 w76 l75 => ?_)
      refine am_aload_n 2 dL_law_239 rfl rfl ?_
      refine am_rload_n 0 dL_law_240 rfl rfl ?_
      refine am_iload_n 3 dL_law_241 rfl rfl ?_
      refine am_iconst dL_law_242 am_kc_1 ?_
      refine am_iadd dL_law_243 ?_
      refine am_sld dL_law_244 (fun b79 => ?_)
      refine am_callVi 9 [.int (G.2.2.2.2.2.2.1 ((x3 + 1).toNatClampNeg))] (CX10_cause G x2 (G.2.2.2.2.2.2.1 ((x3 + 1).toNatClampNeg)) M74 (am_sh.mono l75 h_x2)) dL_law_245 mb_yX10_cause ⟨ml_RL_34, im_yX10_cause, se_yX10_cause⟩ rfl (am_sh.mono l75 h_x2) (by decide) rfl rfl (Nat.le_of_ble_eq_true rfl) (fun v84 M81 q80 w83 l82 => ?_)
      refine am_icmp_eq (tgt := 1088) dL_law_248 (by decide) (fun c86 => ?_) (fun c86 => ?_)
      · exact sL_law_1088 G hfm k18 hk18 x1 x2 x3 M81 (am_sh.mono l82 (am_sh.mono l75 h_x1)) (am_sh.mono l82 (am_sh.mono l75 h_x2))
      · refine am_iconst dL_law_251 am_kc_0 ?_
        exact am_zret0 dL_law_252
    refine am_case (fun c87 => ?_) (fun c87 => ?_)
    · have e_c87 : ((G.2.2.2.2.2.2.1 (x3.toNatClampNeg)) &&& 31).toInt = 5 := by rw [c87]; decide
      refine am_swIn (off := 220) (tgt := 253) dL_law_33 (by omega) (by omega) (by rw [e_c87]; rfl) (by decide) ?_
      refine am_aload_n 1 dL_law_253 rfl rfl ?_
      refine am_rload_n 0 dL_law_254 rfl rfl ?_
      refine am_iload_n 3 dL_law_255 rfl rfl ?_
      refine am_iconst dL_law_256 am_kc_1 ?_
      refine am_iadd dL_law_257 ?_
      refine am_sld dL_law_258 (fun b88 => ?_)
      refine am_callVi 8 [.int (G.2.2.2.2.2.2.1 ((x3 + 1).toNatClampNeg))] (CX9_curve G x1 (G.2.2.2.2.2.2.1 ((x3 + 1).toNatClampNeg)) M h_x1) dL_law_259 mb_yX9_curve ⟨ml_RL_35, im_yX9_curve, se_yX9_curve⟩ rfl h_x1 (by decide) rfl rfl (Nat.le_of_ble_eq_true rfl) (fun v93 M90 q89 w92 l91 => ?_)
      refine am_aload_n 2 dL_law_262 rfl rfl ?_
      refine am_rload_n 0 dL_law_263 rfl rfl ?_
      refine am_iload_n 3 dL_law_264 rfl rfl ?_
      refine am_iconst dL_law_265 am_kc_1 ?_
      refine am_iadd dL_law_266 ?_
      refine am_sld dL_law_267 (fun b95 => ?_)
      refine am_callVi 9 [.int (G.2.2.2.2.2.2.1 ((x3 + 1).toNatClampNeg))] (CX10_curve G x2 (G.2.2.2.2.2.2.1 ((x3 + 1).toNatClampNeg)) M90 (am_sh.mono l91 h_x2)) dL_law_268 mb_yX10_curve ⟨ml_RL_38, im_yX10_curve, se_yX10_curve⟩ rfl (am_sh.mono l91 h_x2) (by decide) rfl rfl (Nat.le_of_ble_eq_true rfl) (fun v100 M97 q96 w99 l98 => ?_)
      refine am_icmp_eq (tgt := 1088) dL_law_271 (by decide) (fun c102 => ?_) (fun c102 => ?_)
      · exact sL_law_1088 G hfm k18 hk18 x1 x2 x3 M97 (am_sh.mono l98 (am_sh.mono l91 h_x1)) (am_sh.mono l98 (am_sh.mono l91 h_x2))
      · refine am_iconst dL_law_274 am_kc_0 ?_
        exact am_zret0 dL_law_275
    refine am_case (fun c103 => ?_) (fun c103 => ?_)
    · have e_c103 : ((G.2.2.2.2.2.2.1 (x3.toNatClampNeg)) &&& 31).toInt = 6 := by rw [c103]; decide
      refine am_swIn (off := 243) (tgt := 276) dL_law_33 (by omega) (by omega) (by rw [e_c103]; rfl) (by decide) ?_
      refine am_aload_n 1 dL_law_276 rfl rfl ?_
      refine am_rload_n 0 dL_law_277 rfl rfl ?_
      refine am_iload_n 3 dL_law_278 rfl rfl ?_
      refine am_iconst dL_law_279 am_kc_1 ?_
      refine am_iadd dL_law_280 ?_
      refine am_sld dL_law_281 (fun b104 => ?_)
      refine am_rload_n 0 dL_law_282 rfl rfl ?_
      refine am_iload_n 3 dL_law_283 rfl rfl ?_
      refine am_iconst dL_law_284 am_kc_2 ?_
      refine am_iadd dL_law_285 ?_
      refine am_sld dL_law_286 (fun b105 => ?_)
      refine am_callVi 8 [.int (G.2.2.2.2.2.2.1 ((x3 + 1).toNatClampNeg)), .int (G.2.2.2.2.2.2.1 ((x3 + 2).toNatClampNeg))] (CX9_levels G x1 (G.2.2.2.2.2.2.1 ((x3 + 1).toNatClampNeg)) (G.2.2.2.2.2.2.1 ((x3 + 2).toNatClampNeg)) M h_x1) dL_law_287 mb_yX9_levels ⟨ml_RL_39, im_yX9_levels, se_yX9_levels⟩ rfl h_x1 (by decide) rfl rfl (Nat.le_of_ble_eq_true rfl) (fun v110 M107 q106 w109 l108 => ?_)
      refine am_aload_n 2 dL_law_290 rfl rfl ?_
      refine am_rload_n 0 dL_law_291 rfl rfl ?_
      refine am_iload_n 3 dL_law_292 rfl rfl ?_
      refine am_iconst dL_law_293 am_kc_1 ?_
      refine am_iadd dL_law_294 ?_
      refine am_sld dL_law_295 (fun b112 => ?_)
      refine am_rload_n 0 dL_law_296 rfl rfl ?_
      refine am_iload_n 3 dL_law_297 rfl rfl ?_
      refine am_iconst dL_law_298 am_kc_2 ?_
      refine am_iadd dL_law_299 ?_
      refine am_sld dL_law_300 (fun b113 => ?_)
      refine am_callVi 9 [.int (G.2.2.2.2.2.2.1 ((x3 + 1).toNatClampNeg)), .int (G.2.2.2.2.2.2.1 ((x3 + 2).toNatClampNeg))] (CX10_levels G x2 (G.2.2.2.2.2.2.1 ((x3 + 1).toNatClampNeg)) (G.2.2.2.2.2.2.1 ((x3 + 2).toNatClampNeg)) M107 (am_sh.mono l108 h_x2)) dL_law_301 mb_yX10_levels ⟨ml_RL_43, im_yX10_levels, se_yX10_levels⟩ rfl (am_sh.mono l108 h_x2) (by decide) rfl rfl (Nat.le_of_ble_eq_true rfl) (fun v118 M115 q114 w117 l116 => ?_)
      refine am_icmp_eq (tgt := 1088) dL_law_304 (by decide) (fun c120 => ?_) (fun c120 => ?_)
      · exact sL_law_1088 G hfm k18 hk18 x1 x2 x3 M115 (am_sh.mono l116 (am_sh.mono l108 h_x1)) (am_sh.mono l116 (am_sh.mono l108 h_x2))
      · refine am_iconst dL_law_307 am_kc_0 ?_
        exact am_zret0 dL_law_308
    refine am_case (fun c121 => ?_) (fun c121 => ?_)
    · have e_c121 : ((G.2.2.2.2.2.2.1 (x3.toNatClampNeg)) &&& 31).toInt = 7 := by rw [c121]; decide
      refine am_swIn (off := 276) (tgt := 309) dL_law_33 (by omega) (by omega) (by rw [e_c121]; rfl) (by decide) ?_
      refine am_aload_n 1 dL_law_309 rfl rfl ?_
      refine am_rload_n 0 dL_law_310 rfl rfl ?_
      refine am_iload_n 3 dL_law_311 rfl rfl ?_
      refine am_iconst dL_law_312 am_kc_1 ?_
      refine am_iadd dL_law_313 ?_
      refine am_sld dL_law_314 (fun b122 => ?_)
      refine am_rload_n 0 dL_law_315 rfl rfl ?_
      refine am_iload_n 3 dL_law_316 rfl rfl ?_
      refine am_iconst dL_law_317 am_kc_2 ?_
      refine am_iadd dL_law_318 ?_
      refine am_sld dL_law_319 (fun b123 => ?_)
      refine am_rload_n 0 dL_law_320 rfl rfl ?_
      refine am_iload_n 3 dL_law_321 rfl rfl ?_
      refine am_iconst dL_law_322 am_kc_3 ?_
      refine am_iadd dL_law_323 ?_
      refine am_sld dL_law_324 (fun b124 => ?_)
      refine am_rload_n 0 dL_law_325 rfl rfl ?_
      refine am_iload_n 3 dL_law_326 rfl rfl ?_
      refine am_iconst dL_law_327 am_kc_4 ?_
      refine am_iadd dL_law_328 ?_
      refine am_sld dL_law_329 (fun b125 => ?_)
      refine am_rload_n 0 dL_law_330 rfl rfl ?_
      refine am_iload_n 3 dL_law_331 rfl rfl ?_
      refine am_iconst dL_law_332 am_kc_5 ?_
      refine am_iadd dL_law_333 ?_
      refine am_sld dL_law_334 (fun b126 => ?_)
      refine am_callVi 8 [.int (G.2.2.2.2.2.2.1 ((x3 + 1).toNatClampNeg)), .int (G.2.2.2.2.2.2.1 ((x3 + 2).toNatClampNeg)), .int (G.2.2.2.2.2.2.1 ((x3 + 3).toNatClampNeg)), .int (G.2.2.2.2.2.2.1 ((x3 + 4).toNatClampNeg)), .int (G.2.2.2.2.2.2.1 ((x3 + 5).toNatClampNeg))] (CX9_box G x1 (G.2.2.2.2.2.2.1 ((x3 + 1).toNatClampNeg)) (G.2.2.2.2.2.2.1 ((x3 + 2).toNatClampNeg)) (G.2.2.2.2.2.2.1 ((x3 + 3).toNatClampNeg)) (G.2.2.2.2.2.2.1 ((x3 + 4).toNatClampNeg)) (G.2.2.2.2.2.2.1 ((x3 + 5).toNatClampNeg)) M h_x1) dL_law_335 mb_yX9_box ⟨ml_RL_44, im_yX9_box, se_yX9_box⟩ rfl h_x1 (by decide) rfl rfl (Nat.le_of_ble_eq_true rfl) (fun v131 M128 q127 w130 l129 => ?_)
      refine am_aload_n 2 dL_law_338 rfl rfl ?_
      refine am_rload_n 0 dL_law_339 rfl rfl ?_
      refine am_iload_n 3 dL_law_340 rfl rfl ?_
      refine am_iconst dL_law_341 am_kc_1 ?_
      refine am_iadd dL_law_342 ?_
      refine am_sld dL_law_343 (fun b133 => ?_)
      refine am_rload_n 0 dL_law_344 rfl rfl ?_
      refine am_iload_n 3 dL_law_345 rfl rfl ?_
      refine am_iconst dL_law_346 am_kc_2 ?_
      refine am_iadd dL_law_347 ?_
      refine am_sld dL_law_348 (fun b134 => ?_)
      refine am_rload_n 0 dL_law_349 rfl rfl ?_
      refine am_iload_n 3 dL_law_350 rfl rfl ?_
      refine am_iconst dL_law_351 am_kc_3 ?_
      refine am_iadd dL_law_352 ?_
      refine am_sld dL_law_353 (fun b135 => ?_)
      refine am_rload_n 0 dL_law_354 rfl rfl ?_
      refine am_iload_n 3 dL_law_355 rfl rfl ?_
      refine am_iconst dL_law_356 am_kc_4 ?_
      refine am_iadd dL_law_357 ?_
      refine am_sld dL_law_358 (fun b136 => ?_)
      refine am_rload_n 0 dL_law_359 rfl rfl ?_
      refine am_iload_n 3 dL_law_360 rfl rfl ?_
      refine am_iconst dL_law_361 am_kc_5 ?_
      refine am_iadd dL_law_362 ?_
      refine am_sld dL_law_363 (fun b137 => ?_)
      refine am_callVi 9 [.int (G.2.2.2.2.2.2.1 ((x3 + 1).toNatClampNeg)), .int (G.2.2.2.2.2.2.1 ((x3 + 2).toNatClampNeg)), .int (G.2.2.2.2.2.2.1 ((x3 + 3).toNatClampNeg)), .int (G.2.2.2.2.2.2.1 ((x3 + 4).toNatClampNeg)), .int (G.2.2.2.2.2.2.1 ((x3 + 5).toNatClampNeg))] (CX10_box G x2 (G.2.2.2.2.2.2.1 ((x3 + 1).toNatClampNeg)) (G.2.2.2.2.2.2.1 ((x3 + 2).toNatClampNeg)) (G.2.2.2.2.2.2.1 ((x3 + 3).toNatClampNeg)) (G.2.2.2.2.2.2.1 ((x3 + 4).toNatClampNeg)) (G.2.2.2.2.2.2.1 ((x3 + 5).toNatClampNeg)) M128 (am_sh.mono l129 h_x2)) dL_law_364 mb_yX10_box ⟨ml_RL_48, im_yX10_box, se_yX10_box⟩ rfl (am_sh.mono l129 h_x2) (by decide) rfl rfl (Nat.le_of_ble_eq_true rfl) (fun v142 M139 q138 w141 l140 => ?_)
      refine am_icmp_eq (tgt := 1088) dL_law_367 (by decide) (fun c144 => ?_) (fun c144 => ?_)
      · exact sL_law_1088 G hfm k18 hk18 x1 x2 x3 M139 (am_sh.mono l140 (am_sh.mono l129 h_x1)) (am_sh.mono l140 (am_sh.mono l129 h_x2))
      · refine am_iconst dL_law_370 am_kc_0 ?_
        exact am_zret0 dL_law_371
    refine am_case (fun c145 => ?_) (fun c145 => ?_)
    · have e_c145 : ((G.2.2.2.2.2.2.1 (x3.toNatClampNeg)) &&& 31).toInt = 8 := by rw [c145]; decide
      refine am_swIn (off := 339) (tgt := 372) dL_law_33 (by omega) (by omega) (by rw [e_c145]; rfl) (by decide) ?_
      refine am_aload_n 1 dL_law_372 rfl rfl ?_
      refine am_rload_n 0 dL_law_373 rfl rfl ?_
      refine am_iload_n 3 dL_law_374 rfl rfl ?_
      refine am_iconst dL_law_375 am_kc_1 ?_
      refine am_iadd dL_law_376 ?_
      refine am_sld dL_law_377 (fun b146 => ?_)
      refine am_rload_n 0 dL_law_378 rfl rfl ?_
      refine am_iload_n 3 dL_law_379 rfl rfl ?_
      refine am_iconst dL_law_380 am_kc_2 ?_
      refine am_iadd dL_law_381 ?_
      refine am_sld dL_law_382 (fun b147 => ?_)
      refine am_rload_n 0 dL_law_383 rfl rfl ?_
      refine am_iload_n 3 dL_law_384 rfl rfl ?_
      refine am_iconst dL_law_385 am_kc_3 ?_
      refine am_iadd dL_law_386 ?_
      refine am_sld dL_law_387 (fun b148 => ?_)
      refine am_rload_n 0 dL_law_388 rfl rfl ?_
      refine am_iload_n 3 dL_law_389 rfl rfl ?_
      refine am_iconst dL_law_390 am_kc_4 ?_
      refine am_iadd dL_law_391 ?_
      refine am_sld dL_law_392 (fun b149 => ?_)
      refine am_callVi 8 [.int (G.2.2.2.2.2.2.1 ((x3 + 1).toNatClampNeg)), .int (G.2.2.2.2.2.2.1 ((x3 + 2).toNatClampNeg)), .int (G.2.2.2.2.2.2.1 ((x3 + 3).toNatClampNeg)), .int (G.2.2.2.2.2.2.1 ((x3 + 4).toNatClampNeg))] (CX9_disc G x1 (G.2.2.2.2.2.2.1 ((x3 + 1).toNatClampNeg)) (G.2.2.2.2.2.2.1 ((x3 + 2).toNatClampNeg)) (G.2.2.2.2.2.2.1 ((x3 + 3).toNatClampNeg)) (G.2.2.2.2.2.2.1 ((x3 + 4).toNatClampNeg)) M h_x1) dL_law_393 mb_yX9_disc ⟨ml_RL_49, im_yX9_disc, se_yX9_disc⟩ rfl h_x1 (by decide) rfl rfl (Nat.le_of_ble_eq_true rfl) (fun v154 M151 q150 w153 l152 => ?_)
      refine am_aload_n 2 dL_law_396 rfl rfl ?_
      refine am_rload_n 0 dL_law_397 rfl rfl ?_
      refine am_iload_n 3 dL_law_398 rfl rfl ?_
      refine am_iconst dL_law_399 am_kc_1 ?_
      refine am_iadd dL_law_400 ?_
      refine am_sld dL_law_401 (fun b156 => ?_)
      refine am_rload_n 0 dL_law_402 rfl rfl ?_
      refine am_iload_n 3 dL_law_403 rfl rfl ?_
      refine am_iconst dL_law_404 am_kc_2 ?_
      refine am_iadd dL_law_405 ?_
      refine am_sld dL_law_406 (fun b157 => ?_)
      refine am_rload_n 0 dL_law_407 rfl rfl ?_
      refine am_iload_n 3 dL_law_408 rfl rfl ?_
      refine am_iconst dL_law_409 am_kc_3 ?_
      refine am_iadd dL_law_410 ?_
      refine am_sld dL_law_411 (fun b158 => ?_)
      refine am_rload_n 0 dL_law_412 rfl rfl ?_
      refine am_iload_n 3 dL_law_413 rfl rfl ?_
      refine am_iconst dL_law_414 am_kc_4 ?_
      refine am_iadd dL_law_415 ?_
      refine am_sld dL_law_416 (fun b159 => ?_)
      refine am_callVi 9 [.int (G.2.2.2.2.2.2.1 ((x3 + 1).toNatClampNeg)), .int (G.2.2.2.2.2.2.1 ((x3 + 2).toNatClampNeg)), .int (G.2.2.2.2.2.2.1 ((x3 + 3).toNatClampNeg)), .int (G.2.2.2.2.2.2.1 ((x3 + 4).toNatClampNeg))] (CX10_disc G x2 (G.2.2.2.2.2.2.1 ((x3 + 1).toNatClampNeg)) (G.2.2.2.2.2.2.1 ((x3 + 2).toNatClampNeg)) (G.2.2.2.2.2.2.1 ((x3 + 3).toNatClampNeg)) (G.2.2.2.2.2.2.1 ((x3 + 4).toNatClampNeg)) M151 (am_sh.mono l152 h_x2)) dL_law_417 mb_yX10_disc ⟨ml_RL_53, im_yX10_disc, se_yX10_disc⟩ rfl (am_sh.mono l152 h_x2) (by decide) rfl rfl (Nat.le_of_ble_eq_true rfl) (fun v164 M161 q160 w163 l162 => ?_)
      refine am_icmp_eq (tgt := 1088) dL_law_420 (by decide) (fun c166 => ?_) (fun c166 => ?_)
      · exact sL_law_1088 G hfm k18 hk18 x1 x2 x3 M161 (am_sh.mono l162 (am_sh.mono l152 h_x1)) (am_sh.mono l162 (am_sh.mono l152 h_x2))
      · refine am_iconst dL_law_423 am_kc_0 ?_
        exact am_zret0 dL_law_424
    refine am_case (fun c167 => ?_) (fun c167 => ?_)
    · have e_c167 : ((G.2.2.2.2.2.2.1 (x3.toNatClampNeg)) &&& 31).toInt = 9 := by rw [c167]; decide
      refine am_swIn (off := 392) (tgt := 425) dL_law_33 (by omega) (by omega) (by rw [e_c167]; rfl) (by decide) ?_
      refine am_aload_n 1 dL_law_425 rfl rfl ?_
      refine am_rload_n 0 dL_law_426 rfl rfl ?_
      refine am_iload_n 3 dL_law_427 rfl rfl ?_
      refine am_iconst dL_law_428 am_kc_1 ?_
      refine am_iadd dL_law_429 ?_
      refine am_sld dL_law_430 (fun b168 => ?_)
      refine am_callVi 8 [.int (G.2.2.2.2.2.2.1 ((x3 + 1).toNatClampNeg))] (CX9_drop G x1 (G.2.2.2.2.2.2.1 ((x3 + 1).toNatClampNeg)) M h_x1) dL_law_431 mb_yX9_drop ⟨ml_RL_54, im_yX9_drop, se_yX9_drop⟩ rfl h_x1 (by decide) rfl rfl (Nat.le_of_ble_eq_true rfl) (fun v173 M170 q169 w172 l171 => ?_)
      refine am_aload_n 2 dL_law_434 rfl rfl ?_
      refine am_rload_n 0 dL_law_435 rfl rfl ?_
      refine am_iload_n 3 dL_law_436 rfl rfl ?_
      refine am_iconst dL_law_437 am_kc_1 ?_
      refine am_iadd dL_law_438 ?_
      refine am_sld dL_law_439 (fun b175 => ?_)
      refine am_callVi 9 [.int (G.2.2.2.2.2.2.1 ((x3 + 1).toNatClampNeg))] (CX10_drop G x2 (G.2.2.2.2.2.2.1 ((x3 + 1).toNatClampNeg)) M170 (am_sh.mono l171 h_x2)) dL_law_440 mb_yX10_drop ⟨ml_RL_57, im_yX10_drop, se_yX10_drop⟩ rfl (am_sh.mono l171 h_x2) (by decide) rfl rfl (Nat.le_of_ble_eq_true rfl) (fun v180 M177 q176 w179 l178 => ?_)
      refine am_icmp_eq (tgt := 1088) dL_law_443 (by decide) (fun c182 => ?_) (fun c182 => ?_)
      · exact sL_law_1088 G hfm k18 hk18 x1 x2 x3 M177 (am_sh.mono l178 (am_sh.mono l171 h_x1)) (am_sh.mono l178 (am_sh.mono l171 h_x2))
      · refine am_iconst dL_law_446 am_kc_0 ?_
        exact am_zret0 dL_law_447
    refine am_case (fun c183 => ?_) (fun c183 => ?_)
    · have e_c183 : ((G.2.2.2.2.2.2.1 (x3.toNatClampNeg)) &&& 31).toInt = 10 := by rw [c183]; decide
      refine am_swIn (off := 415) (tgt := 448) dL_law_33 (by omega) (by omega) (by rw [e_c183]; rfl) (by decide) ?_
      refine am_aload_n 1 dL_law_448 rfl rfl ?_
      refine am_rload_n 0 dL_law_449 rfl rfl ?_
      refine am_iload_n 3 dL_law_450 rfl rfl ?_
      refine am_iconst dL_law_451 am_kc_1 ?_
      refine am_iadd dL_law_452 ?_
      refine am_sld dL_law_453 (fun b184 => ?_)
      refine am_rload_n 0 dL_law_454 rfl rfl ?_
      refine am_iload_n 3 dL_law_455 rfl rfl ?_
      refine am_iconst dL_law_456 am_kc_2 ?_
      refine am_iadd dL_law_457 ?_
      refine am_sld dL_law_458 (fun b185 => ?_)
      refine am_callVi 8 [.int (G.2.2.2.2.2.2.1 ((x3 + 1).toNatClampNeg)), .int (G.2.2.2.2.2.2.1 ((x3 + 2).toNatClampNeg))] (CX9_point G x1 (G.2.2.2.2.2.2.1 ((x3 + 1).toNatClampNeg)) (G.2.2.2.2.2.2.1 ((x3 + 2).toNatClampNeg)) M h_x1) dL_law_459 mb_yX9_point ⟨ml_RL_58, im_yX9_point, se_yX9_point⟩ rfl h_x1 (by decide) rfl rfl (Nat.le_of_ble_eq_true rfl) (fun v190 M187 q186 w189 l188 => ?_)
      refine am_aload_n 2 dL_law_462 rfl rfl ?_
      refine am_rload_n 0 dL_law_463 rfl rfl ?_
      refine am_iload_n 3 dL_law_464 rfl rfl ?_
      refine am_iconst dL_law_465 am_kc_1 ?_
      refine am_iadd dL_law_466 ?_
      refine am_sld dL_law_467 (fun b192 => ?_)
      refine am_rload_n 0 dL_law_468 rfl rfl ?_
      refine am_iload_n 3 dL_law_469 rfl rfl ?_
      refine am_iconst dL_law_470 am_kc_2 ?_
      refine am_iadd dL_law_471 ?_
      refine am_sld dL_law_472 (fun b193 => ?_)
      refine am_callVi 9 [.int (G.2.2.2.2.2.2.1 ((x3 + 1).toNatClampNeg)), .int (G.2.2.2.2.2.2.1 ((x3 + 2).toNatClampNeg))] (CX10_point G x2 (G.2.2.2.2.2.2.1 ((x3 + 1).toNatClampNeg)) (G.2.2.2.2.2.2.1 ((x3 + 2).toNatClampNeg)) M187 (am_sh.mono l188 h_x2)) dL_law_473 mb_yX10_point ⟨ml_RL_61, im_yX10_point, se_yX10_point⟩ rfl (am_sh.mono l188 h_x2) (by decide) rfl rfl (Nat.le_of_ble_eq_true rfl) (fun v198 M195 q194 w197 l196 => ?_)
      refine am_icmp_eq (tgt := 1088) dL_law_476 (by decide) (fun c200 => ?_) (fun c200 => ?_)
      · exact sL_law_1088 G hfm k18 hk18 x1 x2 x3 M195 (am_sh.mono l196 (am_sh.mono l188 h_x1)) (am_sh.mono l196 (am_sh.mono l188 h_x2))
      · refine am_iconst dL_law_479 am_kc_0 ?_
        exact am_zret0 dL_law_480
    refine am_case (fun c201 => ?_) (fun c201 => ?_)
    · have e_c201 : ((G.2.2.2.2.2.2.1 (x3.toNatClampNeg)) &&& 31).toInt = 11 := by rw [c201]; decide
      refine am_swIn (off := 448) (tgt := 481) dL_law_33 (by omega) (by omega) (by rw [e_c201]; rfl) (by decide) ?_
      refine am_aload_n 1 dL_law_481 rfl rfl ?_
      refine am_rload_n 0 dL_law_482 rfl rfl ?_
      refine am_iload_n 3 dL_law_483 rfl rfl ?_
      refine am_iconst dL_law_484 am_kc_1 ?_
      refine am_iadd dL_law_485 ?_
      refine am_sld dL_law_486 (fun b202 => ?_)
      refine am_callVi 8 [.int (G.2.2.2.2.2.2.1 ((x3 + 1).toNatClampNeg))] (CX9_lift G x1 (G.2.2.2.2.2.2.1 ((x3 + 1).toNatClampNeg)) M h_x1) dL_law_487 mb_yX9_lift ⟨ml_RL_62, im_yX9_lift, se_yX9_lift⟩ rfl h_x1 (by decide) rfl rfl (Nat.le_of_ble_eq_true rfl) (fun v207 M204 q203 w206 l205 => ?_)
      refine am_aload_n 2 dL_law_490 rfl rfl ?_
      refine am_rload_n 0 dL_law_491 rfl rfl ?_
      refine am_iload_n 3 dL_law_492 rfl rfl ?_
      refine am_iconst dL_law_493 am_kc_1 ?_
      refine am_iadd dL_law_494 ?_
      refine am_sld dL_law_495 (fun b209 => ?_)
      refine am_callVi 9 [.int (G.2.2.2.2.2.2.1 ((x3 + 1).toNatClampNeg))] (CX10_lift G x2 (G.2.2.2.2.2.2.1 ((x3 + 1).toNatClampNeg)) M204 (am_sh.mono l205 h_x2)) dL_law_496 mb_yX10_lift ⟨ml_RL_65, im_yX10_lift, se_yX10_lift⟩ rfl (am_sh.mono l205 h_x2) (by decide) rfl rfl (Nat.le_of_ble_eq_true rfl) (fun v214 M211 q210 w213 l212 => ?_)
      refine am_icmp_eq (tgt := 1088) dL_law_499 (by decide) (fun c216 => ?_) (fun c216 => ?_)
      · exact sL_law_1088 G hfm k18 hk18 x1 x2 x3 M211 (am_sh.mono l212 (am_sh.mono l205 h_x1)) (am_sh.mono l212 (am_sh.mono l205 h_x2))
      · refine am_iconst dL_law_502 am_kc_0 ?_
        exact am_zret0 dL_law_503
    refine am_case (fun c217 => ?_) (fun c217 => ?_)
    · have e_c217 : ((G.2.2.2.2.2.2.1 (x3.toNatClampNeg)) &&& 31).toInt = 12 := by rw [c217]; decide
      refine am_swIn (off := 471) (tgt := 504) dL_law_33 (by omega) (by omega) (by rw [e_c217]; rfl) (by decide) ?_
      refine am_aload_n 1 dL_law_504 rfl rfl ?_
      refine am_rload_n 0 dL_law_505 rfl rfl ?_
      refine am_iload_n 3 dL_law_506 rfl rfl ?_
      refine am_iconst dL_law_507 am_kc_1 ?_
      refine am_iadd dL_law_508 ?_
      refine am_sld dL_law_509 (fun b218 => ?_)
      refine am_rload_n 0 dL_law_510 rfl rfl ?_
      refine am_iload_n 3 dL_law_511 rfl rfl ?_
      refine am_iconst dL_law_512 am_kc_2 ?_
      refine am_iadd dL_law_513 ?_
      refine am_sld dL_law_514 (fun b219 => ?_)
      refine am_callVi 8 [.int (G.2.2.2.2.2.2.1 ((x3 + 1).toNatClampNeg)), .int (G.2.2.2.2.2.2.1 ((x3 + 2).toNatClampNeg))] (CX9_key G x1 (G.2.2.2.2.2.2.1 ((x3 + 1).toNatClampNeg)) (G.2.2.2.2.2.2.1 ((x3 + 2).toNatClampNeg)) M h_x1) dL_law_515 mb_yX9_key ⟨ml_RL_66, im_yX9_key, se_yX9_key⟩ rfl h_x1 (by decide) rfl rfl (Nat.le_of_ble_eq_true rfl) (fun v224 M221 q220 w223 l222 => ?_)
      refine am_aload_n 2 dL_law_518 rfl rfl ?_
      refine am_rload_n 0 dL_law_519 rfl rfl ?_
      refine am_iload_n 3 dL_law_520 rfl rfl ?_
      refine am_iconst dL_law_521 am_kc_1 ?_
      refine am_iadd dL_law_522 ?_
      refine am_sld dL_law_523 (fun b226 => ?_)
      refine am_rload_n 0 dL_law_524 rfl rfl ?_
      refine am_iload_n 3 dL_law_525 rfl rfl ?_
      refine am_iconst dL_law_526 am_kc_2 ?_
      refine am_iadd dL_law_527 ?_
      refine am_sld dL_law_528 (fun b227 => ?_)
      refine am_callVi 9 [.int (G.2.2.2.2.2.2.1 ((x3 + 1).toNatClampNeg)), .int (G.2.2.2.2.2.2.1 ((x3 + 2).toNatClampNeg))] (CX10_key G x2 (G.2.2.2.2.2.2.1 ((x3 + 1).toNatClampNeg)) (G.2.2.2.2.2.2.1 ((x3 + 2).toNatClampNeg)) M221 (am_sh.mono l222 h_x2)) dL_law_529 mb_yX10_key ⟨ml_RL_69, im_yX10_key, se_yX10_key⟩ rfl (am_sh.mono l222 h_x2) (by decide) rfl rfl (Nat.le_of_ble_eq_true rfl) (fun v232 M229 q228 w231 l230 => ?_)
      refine am_icmp_eq (tgt := 1088) dL_law_532 (by decide) (fun c234 => ?_) (fun c234 => ?_)
      · exact sL_law_1088 G hfm k18 hk18 x1 x2 x3 M229 (am_sh.mono l230 (am_sh.mono l222 h_x1)) (am_sh.mono l230 (am_sh.mono l222 h_x2))
      · refine am_iconst dL_law_535 am_kc_0 ?_
        exact am_zret0 dL_law_536
    refine am_case (fun c235 => ?_) (fun c235 => ?_)
    · have e_c235 : ((G.2.2.2.2.2.2.1 (x3.toNatClampNeg)) &&& 31).toInt = 13 := by rw [c235]; decide
      refine am_swIn (off := 504) (tgt := 537) dL_law_33 (by omega) (by omega) (by rw [e_c235]; rfl) (by decide) ?_
      refine am_aload_n 1 dL_law_537 rfl rfl ?_
      refine am_rload_n 0 dL_law_538 rfl rfl ?_
      refine am_iload_n 3 dL_law_539 rfl rfl ?_
      refine am_iconst dL_law_540 am_kc_1 ?_
      refine am_iadd dL_law_541 ?_
      refine am_sld dL_law_542 (fun b236 => ?_)
      refine am_rload_n 0 dL_law_543 rfl rfl ?_
      refine am_iload_n 3 dL_law_544 rfl rfl ?_
      refine am_iconst dL_law_545 am_kc_2 ?_
      refine am_iadd dL_law_546 ?_
      refine am_sld dL_law_547 (fun b237 => ?_)
      refine am_callVi 8 [.int (G.2.2.2.2.2.2.1 ((x3 + 1).toNatClampNeg)), .int (G.2.2.2.2.2.2.1 ((x3 + 2).toNatClampNeg))] (CX9_cell G x1 (G.2.2.2.2.2.2.1 ((x3 + 1).toNatClampNeg)) (G.2.2.2.2.2.2.1 ((x3 + 2).toNatClampNeg)) M h_x1) dL_law_548 mb_yX9_cell ⟨ml_RL_70, im_yX9_cell, se_yX9_cell⟩ rfl h_x1 (by decide) rfl rfl (Nat.le_of_ble_eq_true rfl) (fun v242 M239 q238 w241 l240 => ?_)
      refine am_aload_n 2 dL_law_551 rfl rfl ?_
      refine am_rload_n 0 dL_law_552 rfl rfl ?_
      refine am_iload_n 3 dL_law_553 rfl rfl ?_
      refine am_iconst dL_law_554 am_kc_1 ?_
      refine am_iadd dL_law_555 ?_
      refine am_sld dL_law_556 (fun b244 => ?_)
      refine am_rload_n 0 dL_law_557 rfl rfl ?_
      refine am_iload_n 3 dL_law_558 rfl rfl ?_
      refine am_iconst dL_law_559 am_kc_2 ?_
      refine am_iadd dL_law_560 ?_
      refine am_sld dL_law_561 (fun b245 => ?_)
      refine am_callVi 9 [.int (G.2.2.2.2.2.2.1 ((x3 + 1).toNatClampNeg)), .int (G.2.2.2.2.2.2.1 ((x3 + 2).toNatClampNeg))] (CX10_cell G x2 (G.2.2.2.2.2.2.1 ((x3 + 1).toNatClampNeg)) (G.2.2.2.2.2.2.1 ((x3 + 2).toNatClampNeg)) M239 (am_sh.mono l240 h_x2)) dL_law_562 mb_yX10_cell ⟨ml_RL_73, im_yX10_cell, se_yX10_cell⟩ rfl (am_sh.mono l240 h_x2) (by decide) rfl rfl (Nat.le_of_ble_eq_true rfl) (fun v250 M247 q246 w249 l248 => ?_)
      refine am_icmp_eq (tgt := 1088) dL_law_565 (by decide) (fun c252 => ?_) (fun c252 => ?_)
      · exact sL_law_1088 G hfm k18 hk18 x1 x2 x3 M247 (am_sh.mono l248 (am_sh.mono l240 h_x1)) (am_sh.mono l248 (am_sh.mono l240 h_x2))
      · refine am_iconst dL_law_568 am_kc_0 ?_
        exact am_zret0 dL_law_569
    refine am_case (fun c253 => ?_) (fun c253 => ?_)
    · have e_c253 : ((G.2.2.2.2.2.2.1 (x3.toNatClampNeg)) &&& 31).toInt = 14 := by rw [c253]; decide
      refine am_swIn (off := 537) (tgt := 570) dL_law_33 (by omega) (by omega) (by rw [e_c253]; rfl) (by decide) ?_
      refine am_aload_n 1 dL_law_570 rfl rfl ?_
      refine am_rload_n 0 dL_law_571 rfl rfl ?_
      refine am_iload_n 3 dL_law_572 rfl rfl ?_
      refine am_iconst dL_law_573 am_kc_1 ?_
      refine am_iadd dL_law_574 ?_
      refine am_sld dL_law_575 (fun b254 => ?_)
      refine am_rload_n 0 dL_law_576 rfl rfl ?_
      refine am_iload_n 3 dL_law_577 rfl rfl ?_
      refine am_iconst dL_law_578 am_kc_2 ?_
      refine am_iadd dL_law_579 ?_
      refine am_sld dL_law_580 (fun b255 => ?_)
      refine am_rload_n 0 dL_law_581 rfl rfl ?_
      refine am_iload_n 3 dL_law_582 rfl rfl ?_
      refine am_iconst dL_law_583 am_kc_3 ?_
      refine am_iadd dL_law_584 ?_
      refine am_sld dL_law_585 (fun b256 => ?_)
      refine am_callVi 8 [.int (G.2.2.2.2.2.2.1 ((x3 + 1).toNatClampNeg)), .int (G.2.2.2.2.2.2.1 ((x3 + 2).toNatClampNeg)), .int (G.2.2.2.2.2.2.1 ((x3 + 3).toNatClampNeg))] (CX9_tile G x1 (G.2.2.2.2.2.2.1 ((x3 + 1).toNatClampNeg)) (G.2.2.2.2.2.2.1 ((x3 + 2).toNatClampNeg)) (G.2.2.2.2.2.2.1 ((x3 + 3).toNatClampNeg)) M h_x1) dL_law_586 mb_yX9_tile ⟨ml_RL_74, im_yX9_tile, se_yX9_tile⟩ rfl h_x1 (by decide) rfl rfl (Nat.le_of_ble_eq_true rfl) (fun v261 M258 q257 w260 l259 => ?_)
      refine am_aload_n 2 dL_law_589 rfl rfl ?_
      refine am_rload_n 0 dL_law_590 rfl rfl ?_
      refine am_iload_n 3 dL_law_591 rfl rfl ?_
      refine am_iconst dL_law_592 am_kc_1 ?_
      refine am_iadd dL_law_593 ?_
      refine am_sld dL_law_594 (fun b263 => ?_)
      refine am_rload_n 0 dL_law_595 rfl rfl ?_
      refine am_iload_n 3 dL_law_596 rfl rfl ?_
      refine am_iconst dL_law_597 am_kc_2 ?_
      refine am_iadd dL_law_598 ?_
      refine am_sld dL_law_599 (fun b264 => ?_)
      refine am_rload_n 0 dL_law_600 rfl rfl ?_
      refine am_iload_n 3 dL_law_601 rfl rfl ?_
      refine am_iconst dL_law_602 am_kc_3 ?_
      refine am_iadd dL_law_603 ?_
      refine am_sld dL_law_604 (fun b265 => ?_)
      refine am_callVi 9 [.int (G.2.2.2.2.2.2.1 ((x3 + 1).toNatClampNeg)), .int (G.2.2.2.2.2.2.1 ((x3 + 2).toNatClampNeg)), .int (G.2.2.2.2.2.2.1 ((x3 + 3).toNatClampNeg))] (CX10_tile G x2 (G.2.2.2.2.2.2.1 ((x3 + 1).toNatClampNeg)) (G.2.2.2.2.2.2.1 ((x3 + 2).toNatClampNeg)) (G.2.2.2.2.2.2.1 ((x3 + 3).toNatClampNeg)) M258 (am_sh.mono l259 h_x2)) dL_law_605 mb_yX10_tile ⟨ml_RL_78, im_yX10_tile, se_yX10_tile⟩ rfl (am_sh.mono l259 h_x2) (by decide) rfl rfl (Nat.le_of_ble_eq_true rfl) (fun v270 M267 q266 w269 l268 => ?_)
      refine am_icmp_eq (tgt := 1088) dL_law_608 (by decide) (fun c272 => ?_) (fun c272 => ?_)
      · exact sL_law_1088 G hfm k18 hk18 x1 x2 x3 M267 (am_sh.mono l268 (am_sh.mono l259 h_x1)) (am_sh.mono l268 (am_sh.mono l259 h_x2))
      · refine am_iconst dL_law_611 am_kc_0 ?_
        exact am_zret0 dL_law_612
    refine am_case (fun c273 => ?_) (fun c273 => ?_)
    · have e_c273 : ((G.2.2.2.2.2.2.1 (x3.toNatClampNeg)) &&& 31).toInt = 15 := by rw [c273]; decide
      refine am_swIn (off := 580) (tgt := 613) dL_law_33 (by omega) (by omega) (by rw [e_c273]; rfl) (by decide) ?_
      refine am_aload_n 1 dL_law_613 rfl rfl ?_
      refine am_rload_n 0 dL_law_614 rfl rfl ?_
      refine am_iload_n 3 dL_law_615 rfl rfl ?_
      refine am_iconst dL_law_616 am_kc_1 ?_
      refine am_iadd dL_law_617 ?_
      refine am_sld dL_law_618 (fun b274 => ?_)
      refine am_rload_n 0 dL_law_619 rfl rfl ?_
      refine am_iload_n 3 dL_law_620 rfl rfl ?_
      refine am_iconst dL_law_621 am_kc_2 ?_
      refine am_iadd dL_law_622 ?_
      refine am_sld dL_law_623 (fun b275 => ?_)
      refine am_rload_n 0 dL_law_624 rfl rfl ?_
      refine am_iload_n 3 dL_law_625 rfl rfl ?_
      refine am_iconst dL_law_626 am_kc_3 ?_
      refine am_iadd dL_law_627 ?_
      refine am_sld dL_law_628 (fun b276 => ?_)
      refine am_rload_n 0 dL_law_629 rfl rfl ?_
      refine am_iload_n 3 dL_law_630 rfl rfl ?_
      refine am_iconst dL_law_631 am_kc_4 ?_
      refine am_iadd dL_law_632 ?_
      refine am_sld dL_law_633 (fun b277 => ?_)
      refine am_callVi 8 [.int (G.2.2.2.2.2.2.1 ((x3 + 1).toNatClampNeg)), .int (G.2.2.2.2.2.2.1 ((x3 + 2).toNatClampNeg)), .int (G.2.2.2.2.2.2.1 ((x3 + 3).toNatClampNeg)), .int (G.2.2.2.2.2.2.1 ((x3 + 4).toNatClampNeg))] (CX9_beside G x1 (G.2.2.2.2.2.2.1 ((x3 + 1).toNatClampNeg)) (G.2.2.2.2.2.2.1 ((x3 + 2).toNatClampNeg)) (G.2.2.2.2.2.2.1 ((x3 + 3).toNatClampNeg)) (G.2.2.2.2.2.2.1 ((x3 + 4).toNatClampNeg)) M h_x1) dL_law_634 mb_yX9_beside ⟨ml_RL_79, im_yX9_beside, se_yX9_beside⟩ rfl h_x1 (by decide) rfl rfl (Nat.le_of_ble_eq_true rfl) (fun v282 M279 q278 w281 l280 => ?_)
      refine am_aload_n 2 dL_law_637 rfl rfl ?_
      refine am_rload_n 0 dL_law_638 rfl rfl ?_
      refine am_iload_n 3 dL_law_639 rfl rfl ?_
      refine am_iconst dL_law_640 am_kc_1 ?_
      refine am_iadd dL_law_641 ?_
      refine am_sld dL_law_642 (fun b284 => ?_)
      refine am_rload_n 0 dL_law_643 rfl rfl ?_
      refine am_iload_n 3 dL_law_644 rfl rfl ?_
      refine am_iconst dL_law_645 am_kc_2 ?_
      refine am_iadd dL_law_646 ?_
      refine am_sld dL_law_647 (fun b285 => ?_)
      refine am_rload_n 0 dL_law_648 rfl rfl ?_
      refine am_iload_n 3 dL_law_649 rfl rfl ?_
      refine am_iconst dL_law_650 am_kc_3 ?_
      refine am_iadd dL_law_651 ?_
      refine am_sld dL_law_652 (fun b286 => ?_)
      refine am_rload_n 0 dL_law_653 rfl rfl ?_
      refine am_iload_n 3 dL_law_654 rfl rfl ?_
      refine am_iconst dL_law_655 am_kc_4 ?_
      refine am_iadd dL_law_656 ?_
      refine am_sld dL_law_657 (fun b287 => ?_)
      refine am_callVi 9 [.int (G.2.2.2.2.2.2.1 ((x3 + 1).toNatClampNeg)), .int (G.2.2.2.2.2.2.1 ((x3 + 2).toNatClampNeg)), .int (G.2.2.2.2.2.2.1 ((x3 + 3).toNatClampNeg)), .int (G.2.2.2.2.2.2.1 ((x3 + 4).toNatClampNeg))] (CX10_beside G x2 (G.2.2.2.2.2.2.1 ((x3 + 1).toNatClampNeg)) (G.2.2.2.2.2.2.1 ((x3 + 2).toNatClampNeg)) (G.2.2.2.2.2.2.1 ((x3 + 3).toNatClampNeg)) (G.2.2.2.2.2.2.1 ((x3 + 4).toNatClampNeg)) M279 (am_sh.mono l280 h_x2)) dL_law_658 mb_yX10_beside ⟨ml_RL_82, im_yX10_beside, se_yX10_beside⟩ rfl (am_sh.mono l280 h_x2) (by decide) rfl rfl (Nat.le_of_ble_eq_true rfl) (fun v292 M289 q288 w291 l290 => ?_)
      refine am_icmp_eq (tgt := 1088) dL_law_661 (by decide) (fun c294 => ?_) (fun c294 => ?_)
      · exact sL_law_1088 G hfm k18 hk18 x1 x2 x3 M289 (am_sh.mono l290 (am_sh.mono l280 h_x1)) (am_sh.mono l290 (am_sh.mono l280 h_x2))
      · refine am_iconst dL_law_664 am_kc_0 ?_
        exact am_zret0 dL_law_665
    refine am_case (fun c295 => ?_) (fun c295 => ?_)
    · have e_c295 : ((G.2.2.2.2.2.2.1 (x3.toNatClampNeg)) &&& 31).toInt = 16 := by rw [c295]; decide
      refine am_swIn (off := 633) (tgt := 666) dL_law_33 (by omega) (by omega) (by rw [e_c295]; rfl) (by decide) ?_
      refine am_aload_n 1 dL_law_666 rfl rfl ?_
      refine am_rload_n 0 dL_law_667 rfl rfl ?_
      refine am_iload_n 3 dL_law_668 rfl rfl ?_
      refine am_iconst dL_law_669 am_kc_1 ?_
      refine am_iadd dL_law_670 ?_
      refine am_sld dL_law_671 (fun b296 => ?_)
      refine am_rload_n 0 dL_law_672 rfl rfl ?_
      refine am_iload_n 3 dL_law_673 rfl rfl ?_
      refine am_iconst dL_law_674 am_kc_2 ?_
      refine am_iadd dL_law_675 ?_
      refine am_sld dL_law_676 (fun b297 => ?_)
      refine am_rload_n 0 dL_law_677 rfl rfl ?_
      refine am_iload_n 3 dL_law_678 rfl rfl ?_
      refine am_iconst dL_law_679 am_kc_3 ?_
      refine am_iadd dL_law_680 ?_
      refine am_sld dL_law_681 (fun b298 => ?_)
      refine am_rload_n 0 dL_law_682 rfl rfl ?_
      refine am_iload_n 3 dL_law_683 rfl rfl ?_
      refine am_iconst dL_law_684 am_kc_4 ?_
      refine am_iadd dL_law_685 ?_
      refine am_sld dL_law_686 (fun b299 => ?_)
      refine am_callVi 8 [.int (G.2.2.2.2.2.2.1 ((x3 + 1).toNatClampNeg)), .int (G.2.2.2.2.2.2.1 ((x3 + 2).toNatClampNeg)), .int (G.2.2.2.2.2.2.1 ((x3 + 3).toNatClampNeg)), .int (G.2.2.2.2.2.2.1 ((x3 + 4).toNatClampNeg))] (CX9_common G x1 (G.2.2.2.2.2.2.1 ((x3 + 1).toNatClampNeg)) (G.2.2.2.2.2.2.1 ((x3 + 2).toNatClampNeg)) (G.2.2.2.2.2.2.1 ((x3 + 3).toNatClampNeg)) (G.2.2.2.2.2.2.1 ((x3 + 4).toNatClampNeg)) M h_x1) dL_law_687 mb_yX9_common ⟨ml_RL_83, im_yX9_common, se_yX9_common⟩ rfl h_x1 (by decide) rfl rfl (Nat.le_of_ble_eq_true rfl) (fun v304 M301 q300 w303 l302 => ?_)
      refine am_aload_n 2 dL_law_690 rfl rfl ?_
      refine am_rload_n 0 dL_law_691 rfl rfl ?_
      refine am_iload_n 3 dL_law_692 rfl rfl ?_
      refine am_iconst dL_law_693 am_kc_1 ?_
      refine am_iadd dL_law_694 ?_
      refine am_sld dL_law_695 (fun b306 => ?_)
      refine am_rload_n 0 dL_law_696 rfl rfl ?_
      refine am_iload_n 3 dL_law_697 rfl rfl ?_
      refine am_iconst dL_law_698 am_kc_2 ?_
      refine am_iadd dL_law_699 ?_
      refine am_sld dL_law_700 (fun b307 => ?_)
      refine am_rload_n 0 dL_law_701 rfl rfl ?_
      refine am_iload_n 3 dL_law_702 rfl rfl ?_
      refine am_iconst dL_law_703 am_kc_3 ?_
      refine am_iadd dL_law_704 ?_
      refine am_sld dL_law_705 (fun b308 => ?_)
      refine am_rload_n 0 dL_law_706 rfl rfl ?_
      refine am_iload_n 3 dL_law_707 rfl rfl ?_
      refine am_iconst dL_law_708 am_kc_4 ?_
      refine am_iadd dL_law_709 ?_
      refine am_sld dL_law_710 (fun b309 => ?_)
      refine am_callVi 9 [.int (G.2.2.2.2.2.2.1 ((x3 + 1).toNatClampNeg)), .int (G.2.2.2.2.2.2.1 ((x3 + 2).toNatClampNeg)), .int (G.2.2.2.2.2.2.1 ((x3 + 3).toNatClampNeg)), .int (G.2.2.2.2.2.2.1 ((x3 + 4).toNatClampNeg))] (CX10_common G x2 (G.2.2.2.2.2.2.1 ((x3 + 1).toNatClampNeg)) (G.2.2.2.2.2.2.1 ((x3 + 2).toNatClampNeg)) (G.2.2.2.2.2.2.1 ((x3 + 3).toNatClampNeg)) (G.2.2.2.2.2.2.1 ((x3 + 4).toNatClampNeg)) M301 (am_sh.mono l302 h_x2)) dL_law_711 mb_yX10_common ⟨ml_RL_86, im_yX10_common, se_yX10_common⟩ rfl (am_sh.mono l302 h_x2) (by decide) rfl rfl (Nat.le_of_ble_eq_true rfl) (fun v314 M311 q310 w313 l312 => ?_)
      refine am_icmp_eq (tgt := 1088) dL_law_714 (by decide) (fun c316 => ?_) (fun c316 => ?_)
      · exact sL_law_1088 G hfm k18 hk18 x1 x2 x3 M311 (am_sh.mono l312 (am_sh.mono l302 h_x1)) (am_sh.mono l312 (am_sh.mono l302 h_x2))
      · refine am_iconst dL_law_717 am_kc_0 ?_
        exact am_zret0 dL_law_718
    refine am_case (fun c317 => ?_) (fun c317 => ?_)
    · have e_c317 : ((G.2.2.2.2.2.2.1 (x3.toNatClampNeg)) &&& 31).toInt = 17 := by rw [c317]; decide
      refine am_swIn (off := 686) (tgt := 719) dL_law_33 (by omega) (by omega) (by rw [e_c317]; rfl) (by decide) ?_
      refine am_aload_n 1 dL_law_719 rfl rfl ?_
      refine am_callVi 8 [] (CX9_leaps G x1 M h_x1) dL_law_720 mb_yX9_leaps ⟨ml_RL_87, im_yX9_leaps, se_yX9_leaps⟩ rfl h_x1 (by decide) rfl rfl (Nat.le_of_ble_eq_true rfl) (fun v322 M319 q318 w321 l320 => ?_)
      refine am_aload_n 2 dL_law_723 rfl rfl ?_
      refine am_callVi 9 [] (CX10_leaps G x2 M319 (am_sh.mono l320 h_x2)) dL_law_724 mb_yX10_leaps ⟨ml_RL_90, im_yX10_leaps, se_yX10_leaps⟩ rfl (am_sh.mono l320 h_x2) (by decide) rfl rfl (Nat.le_of_ble_eq_true rfl) (fun v328 M325 q324 w327 l326 => ?_)
      refine am_icmp_eq (tgt := 1088) dL_law_727 (by decide) (fun c330 => ?_) (fun c330 => ?_)
      · exact sL_law_1088 G hfm k18 hk18 x1 x2 x3 M325 (am_sh.mono l326 (am_sh.mono l320 h_x1)) (am_sh.mono l326 (am_sh.mono l320 h_x2))
      · refine am_iconst dL_law_730 am_kc_0 ?_
        exact am_zret0 dL_law_731
    refine am_case (fun c331 => ?_) (fun c331 => ?_)
    · have e_c331 : ((G.2.2.2.2.2.2.1 (x3.toNatClampNeg)) &&& 31).toInt = 18 := by rw [c331]; decide
      refine am_swIn (off := 699) (tgt := 732) dL_law_33 (by omega) (by omega) (by rw [e_c331]; rfl) (by decide) ?_
      refine am_aload_n 1 dL_law_732 rfl rfl ?_
      refine am_rload_n 0 dL_law_733 rfl rfl ?_
      refine am_iload_n 3 dL_law_734 rfl rfl ?_
      refine am_iconst dL_law_735 am_kc_1 ?_
      refine am_iadd dL_law_736 ?_
      refine am_sld dL_law_737 (fun b332 => ?_)
      refine am_rload_n 0 dL_law_738 rfl rfl ?_
      refine am_iload_n 3 dL_law_739 rfl rfl ?_
      refine am_iconst dL_law_740 am_kc_2 ?_
      refine am_iadd dL_law_741 ?_
      refine am_sld dL_law_742 (fun b333 => ?_)
      refine am_callVi 8 [.int (G.2.2.2.2.2.2.1 ((x3 + 1).toNatClampNeg)), .int (G.2.2.2.2.2.2.1 ((x3 + 2).toNatClampNeg))] (CX9_in G x1 (G.2.2.2.2.2.2.1 ((x3 + 1).toNatClampNeg)) (G.2.2.2.2.2.2.1 ((x3 + 2).toNatClampNeg)) M h_x1) dL_law_743 mb_yX9_in ⟨ml_RL_91, im_yX9_in, se_yX9_in⟩ rfl h_x1 (by decide) rfl rfl (Nat.le_of_ble_eq_true rfl) (fun v338 M335 q334 w337 l336 => ?_)
      refine am_aload_n 2 dL_law_746 rfl rfl ?_
      refine am_rload_n 0 dL_law_747 rfl rfl ?_
      refine am_iload_n 3 dL_law_748 rfl rfl ?_
      refine am_iconst dL_law_749 am_kc_1 ?_
      refine am_iadd dL_law_750 ?_
      refine am_sld dL_law_751 (fun b340 => ?_)
      refine am_rload_n 0 dL_law_752 rfl rfl ?_
      refine am_iload_n 3 dL_law_753 rfl rfl ?_
      refine am_iconst dL_law_754 am_kc_2 ?_
      refine am_iadd dL_law_755 ?_
      refine am_sld dL_law_756 (fun b341 => ?_)
      refine am_callVi 9 [.int (G.2.2.2.2.2.2.1 ((x3 + 1).toNatClampNeg)), .int (G.2.2.2.2.2.2.1 ((x3 + 2).toNatClampNeg))] (CX10_in G x2 (G.2.2.2.2.2.2.1 ((x3 + 1).toNatClampNeg)) (G.2.2.2.2.2.2.1 ((x3 + 2).toNatClampNeg)) M335 (am_sh.mono l336 h_x2)) dL_law_757 mb_yX10_in ⟨ml_RL_94, im_yX10_in, se_yX10_in⟩ rfl (am_sh.mono l336 h_x2) (by decide) rfl rfl (Nat.le_of_ble_eq_true rfl) (fun v346 M343 q342 w345 l344 => ?_)
      refine am_icmp_eq (tgt := 1088) dL_law_760 (by decide) (fun c348 => ?_) (fun c348 => ?_)
      · exact sL_law_1088 G hfm k18 hk18 x1 x2 x3 M343 (am_sh.mono l344 (am_sh.mono l336 h_x1)) (am_sh.mono l344 (am_sh.mono l336 h_x2))
      · refine am_iconst dL_law_763 am_kc_0 ?_
        exact am_zret0 dL_law_764
    refine am_case (fun c349 => ?_) (fun c349 => ?_)
    · have e_c349 : ((G.2.2.2.2.2.2.1 (x3.toNatClampNeg)) &&& 31).toInt = 19 := by rw [c349]; decide
      refine am_swIn (off := 732) (tgt := 765) dL_law_33 (by omega) (by omega) (by rw [e_c349]; rfl) (by decide) ?_
      refine am_aload_n 1 dL_law_765 rfl rfl ?_
      refine am_rload_n 0 dL_law_766 rfl rfl ?_
      refine am_iload_n 3 dL_law_767 rfl rfl ?_
      refine am_iconst dL_law_768 am_kc_1 ?_
      refine am_iadd dL_law_769 ?_
      refine am_sld dL_law_770 (fun b350 => ?_)
      refine am_rload_n 0 dL_law_771 rfl rfl ?_
      refine am_iload_n 3 dL_law_772 rfl rfl ?_
      refine am_iconst dL_law_773 am_kc_2 ?_
      refine am_iadd dL_law_774 ?_
      refine am_sld dL_law_775 (fun b351 => ?_)
      refine am_rload_n 0 dL_law_776 rfl rfl ?_
      refine am_iload_n 3 dL_law_777 rfl rfl ?_
      refine am_iconst dL_law_778 am_kc_3 ?_
      refine am_iadd dL_law_779 ?_
      refine am_sld dL_law_780 (fun b352 => ?_)
      refine am_callVi 8 [.int (G.2.2.2.2.2.2.1 ((x3 + 1).toNatClampNeg)), .int (G.2.2.2.2.2.2.1 ((x3 + 2).toNatClampNeg)), .int (G.2.2.2.2.2.2.1 ((x3 + 3).toNatClampNeg))] (CX9_cover G x1 (G.2.2.2.2.2.2.1 ((x3 + 1).toNatClampNeg)) (G.2.2.2.2.2.2.1 ((x3 + 2).toNatClampNeg)) (G.2.2.2.2.2.2.1 ((x3 + 3).toNatClampNeg)) M h_x1) dL_law_781 mb_yX9_cover ⟨ml_RL_95, im_yX9_cover, se_yX9_cover⟩ rfl h_x1 (by decide) rfl rfl (Nat.le_of_ble_eq_true rfl) (fun v357 M354 q353 w356 l355 => ?_)
      refine am_aload_n 2 dL_law_784 rfl rfl ?_
      refine am_rload_n 0 dL_law_785 rfl rfl ?_
      refine am_iload_n 3 dL_law_786 rfl rfl ?_
      refine am_iconst dL_law_787 am_kc_1 ?_
      refine am_iadd dL_law_788 ?_
      refine am_sld dL_law_789 (fun b359 => ?_)
      refine am_rload_n 0 dL_law_790 rfl rfl ?_
      refine am_iload_n 3 dL_law_791 rfl rfl ?_
      refine am_iconst dL_law_792 am_kc_2 ?_
      refine am_iadd dL_law_793 ?_
      refine am_sld dL_law_794 (fun b360 => ?_)
      refine am_rload_n 0 dL_law_795 rfl rfl ?_
      refine am_iload_n 3 dL_law_796 rfl rfl ?_
      refine am_iconst dL_law_797 am_kc_3 ?_
      refine am_iadd dL_law_798 ?_
      refine am_sld dL_law_799 (fun b361 => ?_)
      refine am_callVi 9 [.int (G.2.2.2.2.2.2.1 ((x3 + 1).toNatClampNeg)), .int (G.2.2.2.2.2.2.1 ((x3 + 2).toNatClampNeg)), .int (G.2.2.2.2.2.2.1 ((x3 + 3).toNatClampNeg))] (CX10_cover G x2 (G.2.2.2.2.2.2.1 ((x3 + 1).toNatClampNeg)) (G.2.2.2.2.2.2.1 ((x3 + 2).toNatClampNeg)) (G.2.2.2.2.2.2.1 ((x3 + 3).toNatClampNeg)) M354 (am_sh.mono l355 h_x2)) dL_law_800 mb_yX10_cover ⟨ml_RL_98, im_yX10_cover, se_yX10_cover⟩ rfl (am_sh.mono l355 h_x2) (by decide) rfl rfl (Nat.le_of_ble_eq_true rfl) (fun v366 M363 q362 w365 l364 => ?_)
      refine am_icmp_eq (tgt := 1088) dL_law_803 (by decide) (fun c368 => ?_) (fun c368 => ?_)
      · exact sL_law_1088 G hfm k18 hk18 x1 x2 x3 M363 (am_sh.mono l364 (am_sh.mono l355 h_x1)) (am_sh.mono l364 (am_sh.mono l355 h_x2))
      · refine am_iconst dL_law_806 am_kc_0 ?_
        exact am_zret0 dL_law_807
    refine am_case (fun c369 => ?_) (fun c369 => ?_)
    · have e_c369 : ((G.2.2.2.2.2.2.1 (x3.toNatClampNeg)) &&& 31).toInt = 20 := by rw [c369]; decide
      refine am_swIn (off := 775) (tgt := 808) dL_law_33 (by omega) (by omega) (by rw [e_c369]; rfl) (by decide) ?_
      refine am_aload_n 1 dL_law_808 rfl rfl ?_
      refine am_rload_n 0 dL_law_809 rfl rfl ?_
      refine am_iload_n 3 dL_law_810 rfl rfl ?_
      refine am_iconst dL_law_811 am_kc_1 ?_
      refine am_iadd dL_law_812 ?_
      refine am_sld dL_law_813 (fun b370 => ?_)
      refine am_callVi 8 [.int (G.2.2.2.2.2.2.1 ((x3 + 1).toNatClampNeg))] (CX9_rest G x1 (G.2.2.2.2.2.2.1 ((x3 + 1).toNatClampNeg)) M h_x1) dL_law_814 mb_yX9_rest ⟨ml_RL_99, im_yX9_rest, se_yX9_rest⟩ rfl h_x1 (by decide) rfl rfl (Nat.le_of_ble_eq_true rfl) (fun v375 M372 q371 w374 l373 => ?_)
      refine am_aload_n 2 dL_law_817 rfl rfl ?_
      refine am_rload_n 0 dL_law_818 rfl rfl ?_
      refine am_iload_n 3 dL_law_819 rfl rfl ?_
      refine am_iconst dL_law_820 am_kc_1 ?_
      refine am_iadd dL_law_821 ?_
      refine am_sld dL_law_822 (fun b377 => ?_)
      refine am_callVi 9 [.int (G.2.2.2.2.2.2.1 ((x3 + 1).toNatClampNeg))] (CX10_rest G x2 (G.2.2.2.2.2.2.1 ((x3 + 1).toNatClampNeg)) M372 (am_sh.mono l373 h_x2)) dL_law_823 mb_yX10_rest ⟨ml_RL_102, im_yX10_rest, se_yX10_rest⟩ rfl (am_sh.mono l373 h_x2) (by decide) rfl rfl (Nat.le_of_ble_eq_true rfl) (fun v382 M379 q378 w381 l380 => ?_)
      refine am_icmp_eq (tgt := 1088) dL_law_826 (by decide) (fun c384 => ?_) (fun c384 => ?_)
      · exact sL_law_1088 G hfm k18 hk18 x1 x2 x3 M379 (am_sh.mono l380 (am_sh.mono l373 h_x1)) (am_sh.mono l380 (am_sh.mono l373 h_x2))
      · refine am_iconst dL_law_829 am_kc_0 ?_
        exact am_zret0 dL_law_830
    refine am_case (fun c385 => ?_) (fun c385 => ?_)
    · have e_c385 : ((G.2.2.2.2.2.2.1 (x3.toNatClampNeg)) &&& 31).toInt = 21 := by rw [c385]; decide
      refine am_swIn (off := 798) (tgt := 831) dL_law_33 (by omega) (by omega) (by rw [e_c385]; rfl) (by decide) ?_
      refine am_aload_n 1 dL_law_831 rfl rfl ?_
      refine am_rload_n 0 dL_law_832 rfl rfl ?_
      refine am_iload_n 3 dL_law_833 rfl rfl ?_
      refine am_iconst dL_law_834 am_kc_1 ?_
      refine am_iadd dL_law_835 ?_
      refine am_sld dL_law_836 (fun b386 => ?_)
      refine am_callVi 8 [.int (G.2.2.2.2.2.2.1 ((x3 + 1).toNatClampNeg))] (CX9_best G x1 (G.2.2.2.2.2.2.1 ((x3 + 1).toNatClampNeg)) M h_x1) dL_law_837 mb_yX9_best ⟨ml_RL_103, im_yX9_best, se_yX9_best⟩ rfl h_x1 (by decide) rfl rfl (Nat.le_of_ble_eq_true rfl) (fun v391 M388 q387 w390 l389 => ?_)
      refine am_aload_n 2 dL_law_840 rfl rfl ?_
      refine am_rload_n 0 dL_law_841 rfl rfl ?_
      refine am_iload_n 3 dL_law_842 rfl rfl ?_
      refine am_iconst dL_law_843 am_kc_1 ?_
      refine am_iadd dL_law_844 ?_
      refine am_sld dL_law_845 (fun b393 => ?_)
      refine am_callVi 9 [.int (G.2.2.2.2.2.2.1 ((x3 + 1).toNatClampNeg))] (CX10_best G x2 (G.2.2.2.2.2.2.1 ((x3 + 1).toNatClampNeg)) M388 (am_sh.mono l389 h_x2)) dL_law_846 mb_yX10_best ⟨ml_RL_106, im_yX10_best, se_yX10_best⟩ rfl (am_sh.mono l389 h_x2) (by decide) rfl rfl (Nat.le_of_ble_eq_true rfl) (fun v398 M395 q394 w397 l396 => ?_)
      refine am_icmp_eq (tgt := 1088) dL_law_849 (by decide) (fun c400 => ?_) (fun c400 => ?_)
      · exact sL_law_1088 G hfm k18 hk18 x1 x2 x3 M395 (am_sh.mono l396 (am_sh.mono l389 h_x1)) (am_sh.mono l396 (am_sh.mono l389 h_x2))
      · refine am_iconst dL_law_852 am_kc_0 ?_
        exact am_zret0 dL_law_853
    refine am_case (fun c401 => ?_) (fun c401 => ?_)
    · have e_c401 : ((G.2.2.2.2.2.2.1 (x3.toNatClampNeg)) &&& 31).toInt = 22 := by rw [c401]; decide
      refine am_swIn (off := 821) (tgt := 854) dL_law_33 (by omega) (by omega) (by rw [e_c401]; rfl) (by decide) ?_
      refine am_aload_n 1 dL_law_854 rfl rfl ?_
      refine am_rload_n 0 dL_law_855 rfl rfl ?_
      refine am_iload_n 3 dL_law_856 rfl rfl ?_
      refine am_iconst dL_law_857 am_kc_1 ?_
      refine am_iadd dL_law_858 ?_
      refine am_sld dL_law_859 (fun b402 => ?_)
      refine am_rload_n 0 dL_law_860 rfl rfl ?_
      refine am_iload_n 3 dL_law_861 rfl rfl ?_
      refine am_iconst dL_law_862 am_kc_2 ?_
      refine am_iadd dL_law_863 ?_
      refine am_sld dL_law_864 (fun b403 => ?_)
      refine am_rload_n 0 dL_law_865 rfl rfl ?_
      refine am_iload_n 3 dL_law_866 rfl rfl ?_
      refine am_iconst dL_law_867 am_kc_3 ?_
      refine am_iadd dL_law_868 ?_
      refine am_sld dL_law_869 (fun b404 => ?_)
      refine am_callVi 8 [.int (G.2.2.2.2.2.2.1 ((x3 + 1).toNatClampNeg)), .int (G.2.2.2.2.2.2.1 ((x3 + 2).toNatClampNeg)), .int (G.2.2.2.2.2.2.1 ((x3 + 3).toNatClampNeg))] (CX9_span G x1 (G.2.2.2.2.2.2.1 ((x3 + 1).toNatClampNeg)) (G.2.2.2.2.2.2.1 ((x3 + 2).toNatClampNeg)) (G.2.2.2.2.2.2.1 ((x3 + 3).toNatClampNeg)) M h_x1) dL_law_870 mb_yX9_span ⟨ml_RL_107, im_yX9_span, se_yX9_span⟩ rfl h_x1 (by decide) rfl rfl (Nat.le_of_ble_eq_true rfl) (fun v409 M406 q405 w408 l407 => ?_)
      refine am_aload_n 2 dL_law_873 rfl rfl ?_
      refine am_rload_n 0 dL_law_874 rfl rfl ?_
      refine am_iload_n 3 dL_law_875 rfl rfl ?_
      refine am_iconst dL_law_876 am_kc_1 ?_
      refine am_iadd dL_law_877 ?_
      refine am_sld dL_law_878 (fun b411 => ?_)
      refine am_rload_n 0 dL_law_879 rfl rfl ?_
      refine am_iload_n 3 dL_law_880 rfl rfl ?_
      refine am_iconst dL_law_881 am_kc_2 ?_
      refine am_iadd dL_law_882 ?_
      refine am_sld dL_law_883 (fun b412 => ?_)
      refine am_rload_n 0 dL_law_884 rfl rfl ?_
      refine am_iload_n 3 dL_law_885 rfl rfl ?_
      refine am_iconst dL_law_886 am_kc_3 ?_
      refine am_iadd dL_law_887 ?_
      refine am_sld dL_law_888 (fun b413 => ?_)
      refine am_callVi 9 [.int (G.2.2.2.2.2.2.1 ((x3 + 1).toNatClampNeg)), .int (G.2.2.2.2.2.2.1 ((x3 + 2).toNatClampNeg)), .int (G.2.2.2.2.2.2.1 ((x3 + 3).toNatClampNeg))] (CX10_span G x2 (G.2.2.2.2.2.2.1 ((x3 + 1).toNatClampNeg)) (G.2.2.2.2.2.2.1 ((x3 + 2).toNatClampNeg)) (G.2.2.2.2.2.2.1 ((x3 + 3).toNatClampNeg)) M406 (am_sh.mono l407 h_x2)) dL_law_889 mb_yX10_span ⟨ml_RL_110, im_yX10_span, se_yX10_span⟩ rfl (am_sh.mono l407 h_x2) (by decide) rfl rfl (Nat.le_of_ble_eq_true rfl) (fun v418 M415 q414 w417 l416 => ?_)
      refine am_icmp_eq (tgt := 1088) dL_law_892 (by decide) (fun c420 => ?_) (fun c420 => ?_)
      · exact sL_law_1088 G hfm k18 hk18 x1 x2 x3 M415 (am_sh.mono l416 (am_sh.mono l407 h_x1)) (am_sh.mono l416 (am_sh.mono l407 h_x2))
      · refine am_iconst dL_law_895 am_kc_0 ?_
        exact am_zret0 dL_law_896
    refine am_case (fun c421 => ?_) (fun c421 => ?_)
    · have e_c421 : ((G.2.2.2.2.2.2.1 (x3.toNatClampNeg)) &&& 31).toInt = 23 := by rw [c421]; decide
      refine am_swIn (off := 864) (tgt := 897) dL_law_33 (by omega) (by omega) (by rw [e_c421]; rfl) (by decide) ?_
      refine am_aload_n 1 dL_law_897 rfl rfl ?_
      refine am_rload_n 0 dL_law_898 rfl rfl ?_
      refine am_iload_n 3 dL_law_899 rfl rfl ?_
      refine am_iconst dL_law_900 am_kc_1 ?_
      refine am_iadd dL_law_901 ?_
      refine am_sld dL_law_902 (fun b422 => ?_)
      refine am_rload_n 0 dL_law_903 rfl rfl ?_
      refine am_iload_n 3 dL_law_904 rfl rfl ?_
      refine am_iconst dL_law_905 am_kc_2 ?_
      refine am_iadd dL_law_906 ?_
      refine am_sld dL_law_907 (fun b423 => ?_)
      refine am_callVi 8 [.int (G.2.2.2.2.2.2.1 ((x3 + 1).toNatClampNeg)), .int (G.2.2.2.2.2.2.1 ((x3 + 2).toNatClampNeg))] (CX9_joined G x1 (G.2.2.2.2.2.2.1 ((x3 + 1).toNatClampNeg)) (G.2.2.2.2.2.2.1 ((x3 + 2).toNatClampNeg)) M h_x1) dL_law_908 mb_yX9_joined ⟨ml_RL_111, im_yX9_joined, se_yX9_joined⟩ rfl h_x1 (by decide) rfl rfl (Nat.le_of_ble_eq_true rfl) (fun v428 M425 q424 w427 l426 => ?_)
      refine am_aload_n 2 dL_law_911 rfl rfl ?_
      refine am_rload_n 0 dL_law_912 rfl rfl ?_
      refine am_iload_n 3 dL_law_913 rfl rfl ?_
      refine am_iconst dL_law_914 am_kc_1 ?_
      refine am_iadd dL_law_915 ?_
      refine am_sld dL_law_916 (fun b430 => ?_)
      refine am_rload_n 0 dL_law_917 rfl rfl ?_
      refine am_iload_n 3 dL_law_918 rfl rfl ?_
      refine am_iconst dL_law_919 am_kc_2 ?_
      refine am_iadd dL_law_920 ?_
      refine am_sld dL_law_921 (fun b431 => ?_)
      refine am_callVi 9 [.int (G.2.2.2.2.2.2.1 ((x3 + 1).toNatClampNeg)), .int (G.2.2.2.2.2.2.1 ((x3 + 2).toNatClampNeg))] (CX10_joined G x2 (G.2.2.2.2.2.2.1 ((x3 + 1).toNatClampNeg)) (G.2.2.2.2.2.2.1 ((x3 + 2).toNatClampNeg)) M425 (am_sh.mono l426 h_x2)) dL_law_922 mb_yX10_joined ⟨ml_RL_114, im_yX10_joined, se_yX10_joined⟩ rfl (am_sh.mono l426 h_x2) (by decide) rfl rfl (Nat.le_of_ble_eq_true rfl) (fun v436 M433 q432 w435 l434 => ?_)
      refine am_icmp_eq (tgt := 1088) dL_law_925 (by decide) (fun c438 => ?_) (fun c438 => ?_)
      · exact sL_law_1088 G hfm k18 hk18 x1 x2 x3 M433 (am_sh.mono l434 (am_sh.mono l426 h_x1)) (am_sh.mono l434 (am_sh.mono l426 h_x2))
      · refine am_iconst dL_law_928 am_kc_0 ?_
        exact am_zret0 dL_law_929
    refine am_case (fun c439 => ?_) (fun c439 => ?_)
    · have e_c439 : ((G.2.2.2.2.2.2.1 (x3.toNatClampNeg)) &&& 31).toInt = 24 := by rw [c439]; decide
      refine am_swIn (off := 897) (tgt := 930) dL_law_33 (by omega) (by omega) (by rw [e_c439]; rfl) (by decide) ?_
      refine am_aload_n 1 dL_law_930 rfl rfl ?_
      refine am_rload_n 0 dL_law_931 rfl rfl ?_
      refine am_iload_n 3 dL_law_932 rfl rfl ?_
      refine am_iconst dL_law_933 am_kc_1 ?_
      refine am_iadd dL_law_934 ?_
      refine am_sld dL_law_935 (fun b440 => ?_)
      refine am_rload_n 0 dL_law_936 rfl rfl ?_
      refine am_iload_n 3 dL_law_937 rfl rfl ?_
      refine am_iconst dL_law_938 am_kc_2 ?_
      refine am_iadd dL_law_939 ?_
      refine am_sld dL_law_940 (fun b441 => ?_)
      refine am_callVi 8 [.int (G.2.2.2.2.2.2.1 ((x3 + 1).toNatClampNeg)), .int (G.2.2.2.2.2.2.1 ((x3 + 2).toNatClampNeg))] (CX9_at G x1 (G.2.2.2.2.2.2.1 ((x3 + 1).toNatClampNeg)) (G.2.2.2.2.2.2.1 ((x3 + 2).toNatClampNeg)) M h_x1) dL_law_941 mb_yX9_at ⟨ml_RL_115, im_yX9_at, se_yX9_at⟩ rfl h_x1 (by decide) rfl rfl (Nat.le_of_ble_eq_true rfl) (fun v446 M443 q442 w445 l444 => ?_)
      refine am_aload_n 2 dL_law_944 rfl rfl ?_
      refine am_rload_n 0 dL_law_945 rfl rfl ?_
      refine am_iload_n 3 dL_law_946 rfl rfl ?_
      refine am_iconst dL_law_947 am_kc_1 ?_
      refine am_iadd dL_law_948 ?_
      refine am_sld dL_law_949 (fun b448 => ?_)
      refine am_rload_n 0 dL_law_950 rfl rfl ?_
      refine am_iload_n 3 dL_law_951 rfl rfl ?_
      refine am_iconst dL_law_952 am_kc_2 ?_
      refine am_iadd dL_law_953 ?_
      refine am_sld dL_law_954 (fun b449 => ?_)
      refine am_callVi 9 [.int (G.2.2.2.2.2.2.1 ((x3 + 1).toNatClampNeg)), .int (G.2.2.2.2.2.2.1 ((x3 + 2).toNatClampNeg))] (CX10_at G x2 (G.2.2.2.2.2.2.1 ((x3 + 1).toNatClampNeg)) (G.2.2.2.2.2.2.1 ((x3 + 2).toNatClampNeg)) M443 (am_sh.mono l444 h_x2)) dL_law_955 mb_yX10_at ⟨ml_RL_118, im_yX10_at, se_yX10_at⟩ rfl (am_sh.mono l444 h_x2) (by decide) rfl rfl (Nat.le_of_ble_eq_true rfl) (fun v454 M451 q450 w453 l452 => ?_)
      refine am_icmp_eq (tgt := 1088) dL_law_958 (by decide) (fun c456 => ?_) (fun c456 => ?_)
      · exact sL_law_1088 G hfm k18 hk18 x1 x2 x3 M451 (am_sh.mono l452 (am_sh.mono l444 h_x1)) (am_sh.mono l452 (am_sh.mono l444 h_x2))
      · refine am_iconst dL_law_961 am_kc_0 ?_
        exact am_zret0 dL_law_962
    refine am_case (fun c457 => ?_) (fun c457 => ?_)
    · have e_c457 : ((G.2.2.2.2.2.2.1 (x3.toNatClampNeg)) &&& 31).toInt = 25 := by rw [c457]; decide
      refine am_swIn (off := 930) (tgt := 963) dL_law_33 (by omega) (by omega) (by rw [e_c457]; rfl) (by decide) ?_
      refine am_aload_n 1 dL_law_963 rfl rfl ?_
      refine am_rload_n 0 dL_law_964 rfl rfl ?_
      refine am_iload_n 3 dL_law_965 rfl rfl ?_
      refine am_iconst dL_law_966 am_kc_1 ?_
      refine am_iadd dL_law_967 ?_
      refine am_sld dL_law_968 (fun b458 => ?_)
      refine am_callVi 8 [.int (G.2.2.2.2.2.2.1 ((x3 + 1).toNatClampNeg))] (CX9_ordered G x1 (G.2.2.2.2.2.2.1 ((x3 + 1).toNatClampNeg)) M h_x1) dL_law_969 mb_yX9_ordered ⟨ml_RL_119, im_yX9_ordered, se_yX9_ordered⟩ rfl h_x1 (by decide) rfl rfl (Nat.le_of_ble_eq_true rfl) (fun v463 M460 q459 w462 l461 => ?_)
      refine am_aload_n 2 dL_law_972 rfl rfl ?_
      refine am_rload_n 0 dL_law_973 rfl rfl ?_
      refine am_iload_n 3 dL_law_974 rfl rfl ?_
      refine am_iconst dL_law_975 am_kc_1 ?_
      refine am_iadd dL_law_976 ?_
      refine am_sld dL_law_977 (fun b465 => ?_)
      refine am_callVi 9 [.int (G.2.2.2.2.2.2.1 ((x3 + 1).toNatClampNeg))] (CX10_ordered G x2 (G.2.2.2.2.2.2.1 ((x3 + 1).toNatClampNeg)) M460 (am_sh.mono l461 h_x2)) dL_law_978 mb_yX10_ordered ⟨ml_RL_122, im_yX10_ordered, se_yX10_ordered⟩ rfl (am_sh.mono l461 h_x2) (by decide) rfl rfl (Nat.le_of_ble_eq_true rfl) (fun v470 M467 q466 w469 l468 => ?_)
      refine am_icmp_eq (tgt := 1088) dL_law_981 (by decide) (fun c472 => ?_) (fun c472 => ?_)
      · exact sL_law_1088 G hfm k18 hk18 x1 x2 x3 M467 (am_sh.mono l468 (am_sh.mono l461 h_x1)) (am_sh.mono l468 (am_sh.mono l461 h_x2))
      · refine am_iconst dL_law_984 am_kc_0 ?_
        exact am_zret0 dL_law_985
    refine am_case (fun c473 => ?_) (fun c473 => ?_)
    · have e_c473 : ((G.2.2.2.2.2.2.1 (x3.toNatClampNeg)) &&& 31).toInt = 26 := by rw [c473]; decide
      refine am_swIn (off := 953) (tgt := 986) dL_law_33 (by omega) (by omega) (by rw [e_c473]; rfl) (by decide) ?_
      refine am_aload_n 1 dL_law_986 rfl rfl ?_
      refine am_rload_n 0 dL_law_987 rfl rfl ?_
      refine am_iload_n 3 dL_law_988 rfl rfl ?_
      refine am_iconst dL_law_989 am_kc_1 ?_
      refine am_iadd dL_law_990 ?_
      refine am_sld dL_law_991 (fun b474 => ?_)
      refine am_callVi 8 [.int (G.2.2.2.2.2.2.1 ((x3 + 1).toNatClampNeg))] (CX9_search G x1 (G.2.2.2.2.2.2.1 ((x3 + 1).toNatClampNeg)) M h_x1) dL_law_992 mb_yX9_search ⟨ml_RL_123, im_yX9_search, se_yX9_search⟩ rfl h_x1 (by decide) rfl rfl (Nat.le_of_ble_eq_true rfl) (fun v479 M476 q475 w478 l477 => ?_)
      refine am_aload_n 2 dL_law_995 rfl rfl ?_
      refine am_rload_n 0 dL_law_996 rfl rfl ?_
      refine am_iload_n 3 dL_law_997 rfl rfl ?_
      refine am_iconst dL_law_998 am_kc_1 ?_
      refine am_iadd dL_law_999 ?_
      refine am_sld dL_law_1000 (fun b481 => ?_)
      refine am_callVi 9 [.int (G.2.2.2.2.2.2.1 ((x3 + 1).toNatClampNeg))] (CX10_search G x2 (G.2.2.2.2.2.2.1 ((x3 + 1).toNatClampNeg)) M476 (am_sh.mono l477 h_x2)) dL_law_1001 mb_yX10_search ⟨ml_RL_126, im_yX10_search, se_yX10_search⟩ rfl (am_sh.mono l477 h_x2) (by decide) rfl rfl (Nat.le_of_ble_eq_true rfl) (fun v486 M483 q482 w485 l484 => ?_)
      refine am_icmp_eq (tgt := 1088) dL_law_1004 (by decide) (fun c488 => ?_) (fun c488 => ?_)
      · exact sL_law_1088 G hfm k18 hk18 x1 x2 x3 M483 (am_sh.mono l484 (am_sh.mono l477 h_x1)) (am_sh.mono l484 (am_sh.mono l477 h_x2))
      · refine am_iconst dL_law_1007 am_kc_0 ?_
        exact am_zret0 dL_law_1008
    refine am_case (fun c489 => ?_) (fun c489 => ?_)
    · have e_c489 : ((G.2.2.2.2.2.2.1 (x3.toNatClampNeg)) &&& 31).toInt = 27 := by rw [c489]; decide
      refine am_swIn (off := 976) (tgt := 1009) dL_law_33 (by omega) (by omega) (by rw [e_c489]; rfl) (by decide) ?_
      refine am_aload_n 1 dL_law_1009 rfl rfl ?_
      refine am_rload_n 0 dL_law_1010 rfl rfl ?_
      refine am_iload_n 3 dL_law_1011 rfl rfl ?_
      refine am_iconst dL_law_1012 am_kc_1 ?_
      refine am_iadd dL_law_1013 ?_
      refine am_sld dL_law_1014 (fun b490 => ?_)
      refine am_callVi 8 [.int (G.2.2.2.2.2.2.1 ((x3 + 1).toNatClampNeg))] (CX9_found G x1 (G.2.2.2.2.2.2.1 ((x3 + 1).toNatClampNeg)) M h_x1) dL_law_1015 mb_yX9_found ⟨ml_RL_127, im_yX9_found, se_yX9_found⟩ rfl h_x1 (by decide) rfl rfl (Nat.le_of_ble_eq_true rfl) (fun v495 M492 q491 w494 l493 => ?_)
      refine am_aload_n 2 dL_law_1018 rfl rfl ?_
      refine am_rload_n 0 dL_law_1019 rfl rfl ?_
      refine am_iload_n 3 dL_law_1020 rfl rfl ?_
      refine am_iconst dL_law_1021 am_kc_1 ?_
      refine am_iadd dL_law_1022 ?_
      refine am_sld dL_law_1023 (fun b497 => ?_)
      refine am_callVi 9 [.int (G.2.2.2.2.2.2.1 ((x3 + 1).toNatClampNeg))] (CX10_found G x2 (G.2.2.2.2.2.2.1 ((x3 + 1).toNatClampNeg)) M492 (am_sh.mono l493 h_x2)) dL_law_1024 mb_yX10_found ⟨ml_RL_130, im_yX10_found, se_yX10_found⟩ rfl (am_sh.mono l493 h_x2) (by decide) rfl rfl (Nat.le_of_ble_eq_true rfl) (fun v502 M499 q498 w501 l500 => ?_)
      refine am_icmp_eq (tgt := 1088) dL_law_1027 (by decide) (fun c504 => ?_) (fun c504 => ?_)
      · exact sL_law_1088 G hfm k18 hk18 x1 x2 x3 M499 (am_sh.mono l500 (am_sh.mono l493 h_x1)) (am_sh.mono l500 (am_sh.mono l493 h_x2))
      · refine am_iconst dL_law_1030 am_kc_0 ?_
        exact am_zret0 dL_law_1031
    refine am_case (fun c505 => ?_) (fun c505 => ?_)
    · have e_c505 : ((G.2.2.2.2.2.2.1 (x3.toNatClampNeg)) &&& 31).toInt = 28 := by rw [c505]; decide
      refine am_swIn (off := 999) (tgt := 1032) dL_law_33 (by omega) (by omega) (by rw [e_c505]; rfl) (by decide) ?_
      refine am_aload_n 1 dL_law_1032 rfl rfl ?_
      refine am_rload_n 0 dL_law_1033 rfl rfl ?_
      refine am_iload_n 3 dL_law_1034 rfl rfl ?_
      refine am_iconst dL_law_1035 am_kc_1 ?_
      refine am_iadd dL_law_1036 ?_
      refine am_sld dL_law_1037 (fun b506 => ?_)
      refine am_rload_n 0 dL_law_1038 rfl rfl ?_
      refine am_iload_n 3 dL_law_1039 rfl rfl ?_
      refine am_iconst dL_law_1040 am_kc_2 ?_
      refine am_iadd dL_law_1041 ?_
      refine am_sld dL_law_1042 (fun b507 => ?_)
      refine am_callVi 8 [.int (G.2.2.2.2.2.2.1 ((x3 + 1).toNatClampNeg)), .int (G.2.2.2.2.2.2.1 ((x3 + 2).toNatClampNeg))] (CX9_nearest G x1 (G.2.2.2.2.2.2.1 ((x3 + 1).toNatClampNeg)) (G.2.2.2.2.2.2.1 ((x3 + 2).toNatClampNeg)) M h_x1) dL_law_1043 mb_yX9_nearest ⟨ml_RL_131, im_yX9_nearest, se_yX9_nearest⟩ rfl h_x1 (by decide) rfl rfl (Nat.le_of_ble_eq_true rfl) (fun v512 M509 q508 w511 l510 => ?_)
      refine am_aload_n 2 dL_law_1046 rfl rfl ?_
      refine am_rload_n 0 dL_law_1047 rfl rfl ?_
      refine am_iload_n 3 dL_law_1048 rfl rfl ?_
      refine am_iconst dL_law_1049 am_kc_1 ?_
      refine am_iadd dL_law_1050 ?_
      refine am_sld dL_law_1051 (fun b514 => ?_)
      refine am_rload_n 0 dL_law_1052 rfl rfl ?_
      refine am_iload_n 3 dL_law_1053 rfl rfl ?_
      refine am_iconst dL_law_1054 am_kc_2 ?_
      refine am_iadd dL_law_1055 ?_
      refine am_sld dL_law_1056 (fun b515 => ?_)
      refine am_callVi 9 [.int (G.2.2.2.2.2.2.1 ((x3 + 1).toNatClampNeg)), .int (G.2.2.2.2.2.2.1 ((x3 + 2).toNatClampNeg))] (CX10_nearest G x2 (G.2.2.2.2.2.2.1 ((x3 + 1).toNatClampNeg)) (G.2.2.2.2.2.2.1 ((x3 + 2).toNatClampNeg)) M509 (am_sh.mono l510 h_x2)) dL_law_1057 mb_yX10_nearest ⟨ml_RL_134, im_yX10_nearest, se_yX10_nearest⟩ rfl (am_sh.mono l510 h_x2) (by decide) rfl rfl (Nat.le_of_ble_eq_true rfl) (fun v520 M517 q516 w519 l518 => ?_)
      refine am_icmp_eq (tgt := 1088) dL_law_1060 (by decide) (fun c522 => ?_) (fun c522 => ?_)
      · exact sL_law_1088 G hfm k18 hk18 x1 x2 x3 M517 (am_sh.mono l518 (am_sh.mono l510 h_x1)) (am_sh.mono l518 (am_sh.mono l510 h_x2))
      · refine am_iconst dL_law_1063 am_kc_0 ?_
        exact am_zret0 dL_law_1064
    refine am_case (fun c523 => ?_) (fun c523 => ?_)
    · have e_c523 : ((G.2.2.2.2.2.2.1 (x3.toNatClampNeg)) &&& 31).toInt = 29 := by rw [c523]; decide
      refine am_swIn (off := 1032) (tgt := 1065) dL_law_33 (by omega) (by omega) (by rw [e_c523]; rfl) (by decide) ?_
      refine am_aload_n 1 dL_law_1065 rfl rfl ?_
      refine am_rload_n 0 dL_law_1066 rfl rfl ?_
      refine am_iload_n 3 dL_law_1067 rfl rfl ?_
      refine am_iconst dL_law_1068 am_kc_1 ?_
      refine am_iadd dL_law_1069 ?_
      refine am_sld dL_law_1070 (fun b524 => ?_)
      refine am_callVi 8 [.int (G.2.2.2.2.2.2.1 ((x3 + 1).toNatClampNeg))] (CX9_count G x1 (G.2.2.2.2.2.2.1 ((x3 + 1).toNatClampNeg)) M h_x1) dL_law_1071 mb_yX9_count ⟨ml_RL_135, im_yX9_count, se_yX9_count⟩ rfl h_x1 (by decide) rfl rfl (Nat.le_of_ble_eq_true rfl) (fun v529 M526 q525 w528 l527 => ?_)
      refine am_aload_n 2 dL_law_1074 rfl rfl ?_
      refine am_rload_n 0 dL_law_1075 rfl rfl ?_
      refine am_iload_n 3 dL_law_1076 rfl rfl ?_
      refine am_iconst dL_law_1077 am_kc_1 ?_
      refine am_iadd dL_law_1078 ?_
      refine am_sld dL_law_1079 (fun b531 => ?_)
      refine am_callVi 9 [.int (G.2.2.2.2.2.2.1 ((x3 + 1).toNatClampNeg))] (CX10_count G x2 (G.2.2.2.2.2.2.1 ((x3 + 1).toNatClampNeg)) M526 (am_sh.mono l527 h_x2)) dL_law_1080 mb_yX10_count ⟨ml_RL_138, im_yX10_count, se_yX10_count⟩ rfl (am_sh.mono l527 h_x2) (by decide) rfl rfl (Nat.le_of_ble_eq_true rfl) (fun v536 M533 q532 w535 l534 => ?_)
      refine am_icmp_eq (tgt := 1088) dL_law_1083 (by decide) (fun c538 => ?_) (fun c538 => ?_)
      · exact sL_law_1088 G hfm k18 hk18 x1 x2 x3 M533 (am_sh.mono l534 (am_sh.mono l527 h_x1)) (am_sh.mono l534 (am_sh.mono l527 h_x2))
      · refine am_iconst dL_law_1086 am_kc_0 ?_
        exact am_zret0 dL_law_1087
    have e_c13 : ((G.2.2.2.2.2.2.1 (x3.toNatClampNeg)) &&& 31).toInt ≠ 0 := am_ine c13
    have e_c29 : ((G.2.2.2.2.2.2.1 (x3.toNatClampNeg)) &&& 31).toInt ≠ 1 := am_ine c29
    have e_c43 : ((G.2.2.2.2.2.2.1 (x3.toNatClampNeg)) &&& 31).toInt ≠ 2 := am_ine c43
    have e_c57 : ((G.2.2.2.2.2.2.1 (x3.toNatClampNeg)) &&& 31).toInt ≠ 3 := am_ine c57
    have e_c71 : ((G.2.2.2.2.2.2.1 (x3.toNatClampNeg)) &&& 31).toInt ≠ 4 := am_ine c71
    have e_c87 : ((G.2.2.2.2.2.2.1 (x3.toNatClampNeg)) &&& 31).toInt ≠ 5 := am_ine c87
    have e_c103 : ((G.2.2.2.2.2.2.1 (x3.toNatClampNeg)) &&& 31).toInt ≠ 6 := am_ine c103
    have e_c121 : ((G.2.2.2.2.2.2.1 (x3.toNatClampNeg)) &&& 31).toInt ≠ 7 := am_ine c121
    have e_c145 : ((G.2.2.2.2.2.2.1 (x3.toNatClampNeg)) &&& 31).toInt ≠ 8 := am_ine c145
    have e_c167 : ((G.2.2.2.2.2.2.1 (x3.toNatClampNeg)) &&& 31).toInt ≠ 9 := am_ine c167
    have e_c183 : ((G.2.2.2.2.2.2.1 (x3.toNatClampNeg)) &&& 31).toInt ≠ 10 := am_ine c183
    have e_c201 : ((G.2.2.2.2.2.2.1 (x3.toNatClampNeg)) &&& 31).toInt ≠ 11 := am_ine c201
    have e_c217 : ((G.2.2.2.2.2.2.1 (x3.toNatClampNeg)) &&& 31).toInt ≠ 12 := am_ine c217
    have e_c235 : ((G.2.2.2.2.2.2.1 (x3.toNatClampNeg)) &&& 31).toInt ≠ 13 := am_ine c235
    have e_c253 : ((G.2.2.2.2.2.2.1 (x3.toNatClampNeg)) &&& 31).toInt ≠ 14 := am_ine c253
    have e_c273 : ((G.2.2.2.2.2.2.1 (x3.toNatClampNeg)) &&& 31).toInt ≠ 15 := am_ine c273
    have e_c295 : ((G.2.2.2.2.2.2.1 (x3.toNatClampNeg)) &&& 31).toInt ≠ 16 := am_ine c295
    have e_c317 : ((G.2.2.2.2.2.2.1 (x3.toNatClampNeg)) &&& 31).toInt ≠ 17 := am_ine c317
    have e_c331 : ((G.2.2.2.2.2.2.1 (x3.toNatClampNeg)) &&& 31).toInt ≠ 18 := am_ine c331
    have e_c349 : ((G.2.2.2.2.2.2.1 (x3.toNatClampNeg)) &&& 31).toInt ≠ 19 := am_ine c349
    have e_c369 : ((G.2.2.2.2.2.2.1 (x3.toNatClampNeg)) &&& 31).toInt ≠ 20 := am_ine c369
    have e_c385 : ((G.2.2.2.2.2.2.1 (x3.toNatClampNeg)) &&& 31).toInt ≠ 21 := am_ine c385
    have e_c401 : ((G.2.2.2.2.2.2.1 (x3.toNatClampNeg)) &&& 31).toInt ≠ 22 := am_ine c401
    have e_c421 : ((G.2.2.2.2.2.2.1 (x3.toNatClampNeg)) &&& 31).toInt ≠ 23 := am_ine c421
    have e_c439 : ((G.2.2.2.2.2.2.1 (x3.toNatClampNeg)) &&& 31).toInt ≠ 24 := am_ine c439
    have e_c457 : ((G.2.2.2.2.2.2.1 (x3.toNatClampNeg)) &&& 31).toInt ≠ 25 := am_ine c457
    have e_c473 : ((G.2.2.2.2.2.2.1 (x3.toNatClampNeg)) &&& 31).toInt ≠ 26 := am_ine c473
    have e_c489 : ((G.2.2.2.2.2.2.1 (x3.toNatClampNeg)) &&& 31).toInt ≠ 27 := am_ine c489
    have e_c505 : ((G.2.2.2.2.2.2.1 (x3.toNatClampNeg)) &&& 31).toInt ≠ 28 := am_ine c505
    have e_c523 : ((G.2.2.2.2.2.2.1 (x3.toNatClampNeg)) &&& 31).toInt ≠ 29 := am_ine c523
    refine am_swOut (tgt := 1088) dL_law_33 (by omega) (by decide) ?_
    exact sL_law_1088 G hfm k18 hk18 x1 x2 x3 M h_x1 h_x2
set_option maxRecDepth 100000 in
set_option maxHeartbeats 4000000 in
theorem lL_law_18 (G : am_G) (hfm : G.2.2.2.2.2.2.2.2.2 = .null ∨ ∃ t, G.2.2.2.2.2.2.2.2.2 = .retAddr t) (n : Nat) (q : (Nat × Nat × Int32 × am_M)) (hq : match q with | (x1, x2, x3, M) => am_sh M x1 13 ∧ am_sh M x2 14) : match q with | (x1, x2, x3, M) => am_S am_ei G 17 yL_law.cls yL_law.name cL_law 4 (some FieldType.boolean) 18 [(0, .retAddr G.2.2.2.2.1), (1, .ref x1), (2, .ref x2), (3, .int x3)] [] M (am_loop (fL_law_18 G) n (x1, x2, x3, M)) := by
  exact am_loop_ok (fun q : (Nat × Nat × Int32 × am_M) => match q with | (x1, x2, x3, M) => am_sh M x1 13 ∧ am_sh M x2 14) (fun q X => match q with | (x1, x2, x3, M) => am_S am_ei G 17 yL_law.cls yL_law.name cL_law 4 (some FieldType.boolean) 18 [(0, .retAddr G.2.2.2.2.1), (1, .ref x1), (2, .ref x2), (3, .int x3)] [] M X) (fun _ => am_none) (fun k18 hk18 q hq => match q, hq with | (x1, x2, x3, M), ⟨h_x1, h_x2⟩ => sL_law_18 G hfm k18 hk18 x1 x2 x3 M h_x1 h_x2) n q hq
set_option maxRecDepth 100000 in
set_option maxHeartbeats 4000000 in
theorem sL_law_11 (G : am_G) (hfm : G.2.2.2.2.2.2.2.2.2 = .null ∨ ∃ t, G.2.2.2.2.2.2.2.2.2 = .retAddr t) (x1 : Nat) (s0 : Nat) (M : am_M) (h_x1 : am_sh M x1 13) (h_s0 : am_sh M s0 14) : am_S am_ei G 17 yL_law.cls yL_law.name cL_law 4 (some FieldType.boolean) 11 [(0, .retAddr G.2.2.2.2.1), (1, .ref x1)] [.ref s0] M (fL_law_11 G x1 s0 M) := by
  show am_S am_ei G 17 yL_law.cls yL_law.name cL_law 4 (some FieldType.boolean) 11 [(0, .retAddr G.2.2.2.2.1), (1, .ref x1)] [.ref s0] M ((fX10_init s0 M).bind fun M7 => am_loop (fL_law_18 G) 100000 (x1, s0, 0, M7))
  refine am_dup dL_law_11 rfl ?_
  refine am_callIv [] (CX10_init G s0 M h_s0) dL_law_12 mb_yX10_init ⟨ml_RL_12, im_yX10_init⟩ rfl (by decide) rfl rfl (Nat.le_of_ble_eq_true rfl) (fun M7 q6 w9 l8 => ?_)
  refine am_astore_n (L' := [(2, .ref s0), (0, .retAddr G.2.2.2.2.1), (1, .ref x1)]) dL_law_15 rfl (by decide) rfl ?_
  refine am_iconst dL_law_16 am_kc_0 ?_
  refine am_istore_n (L' := [(3, .int 0), (2, .ref s0), (0, .retAddr G.2.2.2.2.1), (1, .ref x1)]) dL_law_17 rfl (by decide) rfl ?_
  refine am_sub [2, 3, 1, 0] rfl ?_
  exact lL_law_18 G hfm 100000 (x1, s0, 0, M7) ⟨(am_sh.mono l8 h_x1), (am_sh.mono l8 h_s0)⟩
set_option maxRecDepth 100000 in
set_option maxHeartbeats 4000000 in
theorem sL_law_3 (G : am_G) (hfm : G.2.2.2.2.2.2.2.2.2 = .null ∨ ∃ t, G.2.2.2.2.2.2.2.2.2 = .retAddr t) (s0 : Nat) (M : am_M) (h_s0 : am_sh M s0 13) : am_S am_ei G 17 yL_law.cls yL_law.name cL_law 4 (some FieldType.boolean) 3 [(0, .retAddr G.2.2.2.2.1)] [.ref s0] M (fL_law_3 G s0 M) := by
  show am_S am_ei G 17 yL_law.cls yL_law.name cL_law 4 (some FieldType.boolean) 3 [(0, .retAddr G.2.2.2.2.1)] [.ref s0] M ((fX9_init s0 M).bind fun M2 => fL_law_11 G s0 (am_n M2) (am_new M2 (5 + 9) (am_N 9)))
  refine am_dup dL_law_3 rfl ?_
  refine am_callIv [] (CX9_init G hfm s0 M h_s0) dL_law_4 mb_yX9_init ⟨ml_RL_9, im_yX9_init⟩ rfl (by decide) rfl rfl (Nat.le_of_ble_eq_true rfl) (fun M2 q1 w4 l3 => ?_)
  refine am_astore_n (L' := [(1, .ref s0), (0, .retAddr G.2.2.2.2.1)]) dL_law_7 rfl (by decide) rfl ?_
  refine am_newO 9 dL_law_8 am_cf_9 am_ok_9 ⟨cl_RL_10, ib_9, iz_9⟩ ?_
  refine am_sub [1, 0] rfl ?_
  exact sL_law_11 G hfm s0 (am_n M2) (am_new M2 (5 + 9) (am_N 9)) (am_sh.mono (am_le_new _ _ _) (am_sh.mono l3 h_s0)) (am_sh_new _ _ _)
set_option maxRecDepth 100000 in
set_option maxHeartbeats 4000000 in
theorem sL_law_0 (G : am_G) (hfm : G.2.2.2.2.2.2.2.2.2 = .null ∨ ∃ t, G.2.2.2.2.2.2.2.2.2 = .retAddr t) (M : am_M) : am_S am_ei G 17 yL_law.cls yL_law.name cL_law 4 (some FieldType.boolean) 0 [(0, .retAddr G.2.2.2.2.1)] [] M (fL_law G M) := by
  show am_S am_ei G 17 yL_law.cls yL_law.name cL_law 4 (some FieldType.boolean) 0 [(0, .retAddr G.2.2.2.2.1)] [] M (fL_law_3 G (am_n M) (am_new M (5 + 8) (am_N 8)))
  refine am_newO 8 dL_law_0 am_cf_8 am_ok_8 ⟨cl_RL_7, ib_8, iz_8⟩ ?_
  exact sL_law_3 G hfm (am_n M) (am_new M (5 + 8) (am_N 8)) (am_sh_new _ _ _)
