/-! the law's loop; printed by wip/whole/mk_law.py -/
theorem ol_D_feed : sm_okM mm_D_feed 5 := ⟨sm_in 71 (by decide +kernel) (by decide +kernel), sm_in 255 (by decide +kernel) (by decide +kernel), by decide, by decide, (by decide +kernel), by decide⟩
theorem gl_13 : sm_mv "UpdateDeskLaw" 13 mm_D_feed 4 5 := ⟨sm_in 252 (by decide +kernel) (by decide +kernel), sm_in 253 (by decide +kernel) (by decide +kernel), sm_in 254 (by decide +kernel) (by decide +kernel), ol_D_feed, _, rfl, rfl⟩
theorem ol_M_feed : sm_okM mm_M_feed 5 := ⟨sm_in 77 (by decide +kernel) (by decide +kernel), sm_in 713 (by decide +kernel) (by decide +kernel), by decide, by decide, (by decide +kernel), by decide⟩
theorem gl_17 : sm_mv "UpdateDeskLaw" 17 mm_M_feed 5 5 := ⟨sm_in 710 (by decide +kernel) (by decide +kernel), sm_in 711 (by decide +kernel) (by decide +kernel), sm_in 712 (by decide +kernel) (by decide +kernel), ol_M_feed, _, rfl, rfl⟩
theorem ol_D_read : sm_okM mm_D_read 2 := ⟨sm_in 71 (by decide +kernel) (by decide +kernel), sm_in 263 (by decide +kernel) (by decide +kernel), by decide, by decide, (by decide +kernel), by decide⟩
theorem gl_18 : sm_mv "UpdateDeskLaw" 18 mm_D_read 4 2 := ⟨sm_in 260 (by decide +kernel) (by decide +kernel), sm_in 261 (by decide +kernel) (by decide +kernel), sm_in 262 (by decide +kernel) (by decide +kernel), ol_D_read, _, rfl, rfl⟩
theorem ol_M_read : sm_okM mm_M_read 2 := ⟨sm_in 77 (by decide +kernel) (by decide +kernel), sm_in 721 (by decide +kernel) (by decide +kernel), by decide, by decide, (by decide +kernel), by decide⟩
theorem gl_22 : sm_mv "UpdateDeskLaw" 22 mm_M_read 5 2 := ⟨sm_in 718 (by decide +kernel) (by decide +kernel), sm_in 719 (by decide +kernel) (by decide +kernel), sm_in 720 (by decide +kernel) (by decide +kernel), ol_M_read, _, rfl, rfl⟩
theorem ol_D_change : sm_okM mm_D_change 1 := ⟨sm_in 71 (by decide +kernel) (by decide +kernel), sm_in 358 (by decide +kernel) (by decide +kernel), by decide, by decide, (by decide +kernel), by decide⟩
theorem gl_23 : sm_mv "UpdateDeskLaw" 23 mm_D_change 4 1 := ⟨sm_in 355 (by decide +kernel) (by decide +kernel), sm_in 356 (by decide +kernel) (by decide +kernel), sm_in 357 (by decide +kernel) (by decide +kernel), ol_D_change, _, rfl, rfl⟩
theorem ol_M_change : sm_okM mm_M_change 1 := ⟨sm_in 77 (by decide +kernel) (by decide +kernel), sm_in 796 (by decide +kernel) (by decide +kernel), by decide, by decide, (by decide +kernel), by decide⟩
theorem gl_27 : sm_mv "UpdateDeskLaw" 27 mm_M_change 5 1 := ⟨sm_in 793 (by decide +kernel) (by decide +kernel), sm_in 794 (by decide +kernel) (by decide +kernel), sm_in 795 (by decide +kernel) (by decide +kernel), ol_M_change, _, rfl, rfl⟩
theorem ol_D_apply : sm_okM mm_D_apply 1 := ⟨sm_in 71 (by decide +kernel) (by decide +kernel), sm_in 459 (by decide +kernel) (by decide +kernel), by decide, by decide, (by decide +kernel), by decide⟩
theorem gl_28 : sm_mv "UpdateDeskLaw" 28 mm_D_apply 4 1 := ⟨sm_in 456 (by decide +kernel) (by decide +kernel), sm_in 457 (by decide +kernel) (by decide +kernel), sm_in 458 (by decide +kernel) (by decide +kernel), ol_D_apply, _, rfl, rfl⟩
theorem ol_M_apply : sm_okM mm_M_apply 1 := ⟨sm_in 77 (by decide +kernel) (by decide +kernel), sm_in 832 (by decide +kernel) (by decide +kernel), by decide, by decide, (by decide +kernel), by decide⟩
theorem gl_31 : sm_mv "UpdateDeskLaw" 31 mm_M_apply 5 1 := ⟨sm_in 829 (by decide +kernel) (by decide +kernel), sm_in 830 (by decide +kernel) (by decide +kernel), sm_in 831 (by decide +kernel) (by decide +kernel), ol_M_apply, _, rfl, rfl⟩
theorem ol_D_place : sm_okM mm_D_place 1 := ⟨sm_in 71 (by decide +kernel) (by decide +kernel), sm_in 609 (by decide +kernel) (by decide +kernel), by decide, by decide, (by decide +kernel), by decide⟩
theorem gl_32 : sm_mv "UpdateDeskLaw" 32 mm_D_place 4 1 := ⟨sm_in 606 (by decide +kernel) (by decide +kernel), sm_in 607 (by decide +kernel) (by decide +kernel), sm_in 608 (by decide +kernel) (by decide +kernel), ol_D_place, _, rfl, rfl⟩
theorem ol_M_place : sm_okM mm_M_place 1 := ⟨sm_in 77 (by decide +kernel) (by decide +kernel), sm_in 919 (by decide +kernel) (by decide +kernel), by decide, by decide, (by decide +kernel), by decide⟩
theorem gl_35 : sm_mv "UpdateDeskLaw" 35 mm_M_place 5 1 := ⟨sm_in 916 (by decide +kernel) (by decide +kernel), sm_in 917 (by decide +kernel) (by decide +kernel), sm_in 918 (by decide +kernel) (by decide +kernel), ol_M_place, _, rfl, rfl⟩
theorem ol_D_many : sm_okM mm_D_many 2 := ⟨sm_in 71 (by decide +kernel) (by decide +kernel), sm_in 613 (by decide +kernel) (by decide +kernel), by decide, by decide, (by decide +kernel), by decide⟩
theorem gl_36 : sm_mv "UpdateDeskLaw" 36 mm_D_many 4 2 := ⟨sm_in 610 (by decide +kernel) (by decide +kernel), sm_in 611 (by decide +kernel) (by decide +kernel), sm_in 612 (by decide +kernel) (by decide +kernel), ol_D_many, _, rfl, rfl⟩
theorem ol_M_many : sm_okM mm_M_many 2 := ⟨sm_in 77 (by decide +kernel) (by decide +kernel), sm_in 923 (by decide +kernel) (by decide +kernel), by decide, by decide, (by decide +kernel), by decide⟩
theorem gl_39 : sm_mv "UpdateDeskLaw" 39 mm_M_many 5 2 := ⟨sm_in 920 (by decide +kernel) (by decide +kernel), sm_in 921 (by decide +kernel) (by decide +kernel), sm_in 922 (by decide +kernel) (by decide +kernel), ol_M_many, _, rfl, rfl⟩
theorem ol_D_byteAt : sm_okM mm_D_byteAt 2 := ⟨sm_in 71 (by decide +kernel) (by decide +kernel), sm_in 617 (by decide +kernel) (by decide +kernel), by decide, by decide, (by decide +kernel), by decide⟩
theorem gl_40 : sm_mv "UpdateDeskLaw" 40 mm_D_byteAt 4 2 := ⟨sm_in 614 (by decide +kernel) (by decide +kernel), sm_in 615 (by decide +kernel) (by decide +kernel), sm_in 616 (by decide +kernel) (by decide +kernel), ol_D_byteAt, _, rfl, rfl⟩
theorem ol_M_byteAt : sm_okM mm_M_byteAt 2 := ⟨sm_in 77 (by decide +kernel) (by decide +kernel), sm_in 927 (by decide +kernel) (by decide +kernel), by decide, by decide, (by decide +kernel), by decide⟩
theorem gl_43 : sm_mv "UpdateDeskLaw" 43 mm_M_byteAt 5 2 := ⟨sm_in 924 (by decide +kernel) (by decide +kernel), sm_in 925 (by decide +kernel) (by decide +kernel), sm_in 926 (by decide +kernel) (by decide +kernel), ol_M_byteAt, _, rfl, rfl⟩
theorem ol_D_copy : sm_okM mm_D_copy 2 := ⟨sm_in 71 (by decide +kernel) (by decide +kernel), sm_in 621 (by decide +kernel) (by decide +kernel), by decide, by decide, (by decide +kernel), by decide⟩
theorem gl_44 : sm_mv "UpdateDeskLaw" 44 mm_D_copy 4 2 := ⟨sm_in 618 (by decide +kernel) (by decide +kernel), sm_in 619 (by decide +kernel) (by decide +kernel), sm_in 620 (by decide +kernel) (by decide +kernel), ol_D_copy, _, rfl, rfl⟩
theorem ol_M_copy : sm_okM mm_M_copy 2 := ⟨sm_in 77 (by decide +kernel) (by decide +kernel), sm_in 931 (by decide +kernel) (by decide +kernel), by decide, by decide, (by decide +kernel), by decide⟩
theorem gl_48 : sm_mv "UpdateDeskLaw" 48 mm_M_copy 5 2 := ⟨sm_in 928 (by decide +kernel) (by decide +kernel), sm_in 929 (by decide +kernel) (by decide +kernel), sm_in 930 (by decide +kernel) (by decide +kernel), ol_M_copy, _, rfl, rfl⟩
section Ll
variable {p : Program} {l : Launch} {e : Env} {s : State} {m : MethodId} {below : List Frame} {meth : Method} {c : Code} {b L : Nat} {xs : Nat → Int32} {G : sm_G}
set_option maxRecDepth 20000 in
theorem ll_feed {i : Nat} {S : sT} (C : lH p s m meth c b L xs G) (hL : L ≤ 3072) (hi : i + 6 ≤ L) (hI : Inv S) (hk : ∀ T, Inv T → lW p l e s m below meth c b G 344 [(3, .int (nI i)), (0, .ref b), (1, .ref (G.1 0)), (2, .ref (G.1 33))] [] (hp T)) : lW p l e s m below meth c b G 80 [(3, .int (nI i)), (0, .ref b), (1, .ref (G.1 0)), (2, .ref (G.1 33))] [] (hp S) := by
  refine lr_aload (kx := 1) 81 2 C (by decide +kernel) rfl rfl rfl ?_
  refine lr_aload (kx := 0) 82 1 C (by decide +kernel) rfl rfl rfl ?_
  refine lr_iload (kx := 3) 83 0 C (by decide +kernel) rfl rfl rfl ?_
  refine lr_iconst (i := 1) (x := nI 1) 84 C (by decide +kernel) rfl rfl ?_
  refine lr_iadd (z := nI (i + 1)) 85 C (by decide +kernel) (nI_add i 1) rfl ?_
  refine lr_sld 86 C (by decide +kernel) (by omega) hL rfl ?_
  refine lr_aload (kx := 0) 87 1 C (by decide +kernel) rfl rfl rfl ?_
  refine lr_iload (kx := 3) 88 0 C (by decide +kernel) rfl rfl rfl ?_
  refine lr_iconst (i := 2) (x := nI 2) 89 C (by decide +kernel) rfl rfl ?_
  refine lr_iadd (z := nI (i + 2)) 90 C (by decide +kernel) (nI_add i 2) rfl ?_
  refine lr_sld 91 C (by decide +kernel) (by omega) hL rfl ?_
  refine lr_aload (kx := 0) 92 1 C (by decide +kernel) rfl rfl rfl ?_
  refine lr_iload (kx := 3) 93 0 C (by decide +kernel) rfl rfl rfl ?_
  refine lr_iconst (i := 3) (x := nI 3) 94 C (by decide +kernel) rfl rfl ?_
  refine lr_iadd (z := nI (i + 3)) 95 C (by decide +kernel) (nI_add i 3) rfl ?_
  refine lr_sld 96 C (by decide +kernel) (by omega) hL rfl ?_
  refine lr_aload (kx := 0) 97 1 C (by decide +kernel) rfl rfl rfl ?_
  refine lr_iload (kx := 3) 98 0 C (by decide +kernel) rfl rfl rfl ?_
  refine lr_iconst (i := 4) (x := nI 4) 99 C (by decide +kernel) rfl rfl ?_
  refine lr_iadd (z := nI (i + 4)) 100 C (by decide +kernel) (nI_add i 4) rfl ?_
  refine lr_sld 101 C (by decide +kernel) (by omega) hL rfl ?_
  refine lr_aload (kx := 0) 102 1 C (by decide +kernel) rfl rfl rfl ?_
  refine lr_iload (kx := 3) 103 0 C (by decide +kernel) rfl rfl rfl ?_
  refine lr_iconst (i := 5) (x := nI 5) 104 C (by decide +kernel) rfl rfl ?_
  refine lr_iadd (z := nI (i + 5)) 105 C (by decide +kernel) (nI_add i 5) rfl ?_
  refine lr_sld 106 C (by decide +kernel) (by omega) hL rfl ?_
  refine lr_pair (i1 := 13) (i2 := 17) (av := [.int (xs (i + 1)), .int (xs (i + 2)), .int (xs (i + 3)), .int (xs (i + 4)), .int (xs (i + 5))]) (p1 := 106) (p2 := 135) C gl_13 gl_17 rfl rfl (by decide +kernel) (by decide +kernel) (pr_feed (d := 0) hI) (fun z h1 kz => ?_) (fun z T hT => ?_)
  · refine lr_aload (kx := 2) 110 3 C (by decide +kernel) rfl rfl rfl ?_
    refine lr_aload (kx := 0) 111 1 C (by decide +kernel) rfl rfl rfl ?_
    refine lr_iload (kx := 3) 112 0 C (by decide +kernel) rfl rfl rfl ?_
    refine lr_iconst (i := 1) (x := nI 1) 113 C (by decide +kernel) rfl rfl ?_
    refine lr_iadd (z := nI (i + 1)) 114 C (by decide +kernel) (nI_add i 1) rfl ?_
    refine lr_sld 115 C (by decide +kernel) (by omega) hL rfl ?_
    refine lr_aload (kx := 0) 116 1 C (by decide +kernel) rfl rfl rfl ?_
    refine lr_iload (kx := 3) 117 0 C (by decide +kernel) rfl rfl rfl ?_
    refine lr_iconst (i := 2) (x := nI 2) 118 C (by decide +kernel) rfl rfl ?_
    refine lr_iadd (z := nI (i + 2)) 119 C (by decide +kernel) (nI_add i 2) rfl ?_
    refine lr_sld 120 C (by decide +kernel) (by omega) hL rfl ?_
    refine lr_aload (kx := 0) 121 1 C (by decide +kernel) rfl rfl rfl ?_
    refine lr_iload (kx := 3) 122 0 C (by decide +kernel) rfl rfl rfl ?_
    refine lr_iconst (i := 3) (x := nI 3) 123 C (by decide +kernel) rfl rfl ?_
    refine lr_iadd (z := nI (i + 3)) 124 C (by decide +kernel) (nI_add i 3) rfl ?_
    refine lr_sld 125 C (by decide +kernel) (by omega) hL rfl ?_
    refine lr_aload (kx := 0) 126 1 C (by decide +kernel) rfl rfl rfl ?_
    refine lr_iload (kx := 3) 127 0 C (by decide +kernel) rfl rfl rfl ?_
    refine lr_iconst (i := 4) (x := nI 4) 128 C (by decide +kernel) rfl rfl ?_
    refine lr_iadd (z := nI (i + 4)) 129 C (by decide +kernel) (nI_add i 4) rfl ?_
    refine lr_sld 130 C (by decide +kernel) (by omega) hL rfl ?_
    refine lr_aload (kx := 0) 131 1 C (by decide +kernel) rfl rfl rfl ?_
    refine lr_iload (kx := 3) 132 0 C (by decide +kernel) rfl rfl rfl ?_
    refine lr_iconst (i := 5) (x := nI 5) 133 C (by decide +kernel) rfl rfl ?_
    refine lr_iadd (z := nI (i + 5)) 134 C (by decide +kernel) (nI_add i 5) rfl ?_
    refine lr_sld 135 C (by decide +kernel) (by omega) hL rfl ?_
    exact kz
  · exact lr_eq (off := 206) 141 344 C (by decide +kernel) (by decide) rfl (hk T hT)
set_option maxRecDepth 20000 in
theorem ll_read {i : Nat} {S : sT} (C : lH p s m meth c b L xs G) (hL : L ≤ 3072) (hi : i + 6 ≤ L) (hI : Inv S) (hk : ∀ T, Inv T → lW p l e s m below meth c b G 344 [(3, .int (nI i)), (0, .ref b), (1, .ref (G.1 0)), (2, .ref (G.1 33))] [] (hp T)) : lW p l e s m below meth c b G 143 [(3, .int (nI i)), (0, .ref b), (1, .ref (G.1 0)), (2, .ref (G.1 33))] [] (hp S) := by
  refine lr_aload (kx := 1) 144 2 C (by decide +kernel) rfl rfl rfl ?_
  refine lr_aload (kx := 0) 145 1 C (by decide +kernel) rfl rfl rfl ?_
  refine lr_iload (kx := 3) 146 0 C (by decide +kernel) rfl rfl rfl ?_
  refine lr_iconst (i := 1) (x := nI 1) 147 C (by decide +kernel) rfl rfl ?_
  refine lr_iadd (z := nI (i + 1)) 148 C (by decide +kernel) (nI_add i 1) rfl ?_
  refine lr_sld 149 C (by decide +kernel) (by omega) hL rfl ?_
  refine lr_aload (kx := 0) 150 1 C (by decide +kernel) rfl rfl rfl ?_
  refine lr_iload (kx := 3) 151 0 C (by decide +kernel) rfl rfl rfl ?_
  refine lr_iconst (i := 2) (x := nI 2) 152 C (by decide +kernel) rfl rfl ?_
  refine lr_iadd (z := nI (i + 2)) 153 C (by decide +kernel) (nI_add i 2) rfl ?_
  refine lr_sld 154 C (by decide +kernel) (by omega) hL rfl ?_
  refine lr_pair (i1 := 18) (i2 := 22) (av := [.int (xs (i + 1)), .int (xs (i + 2))]) (p1 := 154) (p2 := 168) C gl_18 gl_22 rfl rfl (by decide +kernel) (by decide +kernel) (pr_read (d := 0) hI) (fun z h1 kz => ?_) (fun z T hT => ?_)
  · refine lr_aload (kx := 2) 158 3 C (by decide +kernel) rfl rfl rfl ?_
    refine lr_aload (kx := 0) 159 1 C (by decide +kernel) rfl rfl rfl ?_
    refine lr_iload (kx := 3) 160 0 C (by decide +kernel) rfl rfl rfl ?_
    refine lr_iconst (i := 1) (x := nI 1) 161 C (by decide +kernel) rfl rfl ?_
    refine lr_iadd (z := nI (i + 1)) 162 C (by decide +kernel) (nI_add i 1) rfl ?_
    refine lr_sld 163 C (by decide +kernel) (by omega) hL rfl ?_
    refine lr_aload (kx := 0) 164 1 C (by decide +kernel) rfl rfl rfl ?_
    refine lr_iload (kx := 3) 165 0 C (by decide +kernel) rfl rfl rfl ?_
    refine lr_iconst (i := 2) (x := nI 2) 166 C (by decide +kernel) rfl rfl ?_
    refine lr_iadd (z := nI (i + 2)) 167 C (by decide +kernel) (nI_add i 2) rfl ?_
    refine lr_sld 168 C (by decide +kernel) (by omega) hL rfl ?_
    exact kz
  · exact lr_eq (off := 173) 174 344 C (by decide +kernel) (by decide) rfl (hk T hT)
set_option maxRecDepth 20000 in
theorem ll_change {i : Nat} {S : sT} (C : lH p s m meth c b L xs G) (hL : L ≤ 3072) (hi : i + 6 ≤ L) (hI : Inv S) (hk : ∀ T, Inv T → lW p l e s m below meth c b G 344 [(3, .int (nI i)), (0, .ref b), (1, .ref (G.1 0)), (2, .ref (G.1 33))] [] (hp T)) : lW p l e s m below meth c b G 176 [(3, .int (nI i)), (0, .ref b), (1, .ref (G.1 0)), (2, .ref (G.1 33))] [] (hp S) := by
  refine lr_aload (kx := 1) 177 2 C (by decide +kernel) rfl rfl rfl ?_
  refine lr_aload (kx := 0) 178 1 C (by decide +kernel) rfl rfl rfl ?_
  refine lr_iload (kx := 3) 179 0 C (by decide +kernel) rfl rfl rfl ?_
  refine lr_iconst (i := 1) (x := nI 1) 180 C (by decide +kernel) rfl rfl ?_
  refine lr_iadd (z := nI (i + 1)) 181 C (by decide +kernel) (nI_add i 1) rfl ?_
  refine lr_sld 182 C (by decide +kernel) (by omega) hL rfl ?_
  refine lr_pair (i1 := 23) (i2 := 27) (av := [.int (xs (i + 1))]) (p1 := 182) (p2 := 191) C gl_23 gl_27 rfl rfl (by decide +kernel) (by decide +kernel) (pr_change (d := 0) hI) (fun z h1 kz => ?_) (fun z T hT => ?_)
  · refine lr_aload (kx := 2) 186 3 C (by decide +kernel) rfl rfl rfl ?_
    refine lr_aload (kx := 0) 187 1 C (by decide +kernel) rfl rfl rfl ?_
    refine lr_iload (kx := 3) 188 0 C (by decide +kernel) rfl rfl rfl ?_
    refine lr_iconst (i := 1) (x := nI 1) 189 C (by decide +kernel) rfl rfl ?_
    refine lr_iadd (z := nI (i + 1)) 190 C (by decide +kernel) (nI_add i 1) rfl ?_
    refine lr_sld 191 C (by decide +kernel) (by omega) hL rfl ?_
    exact kz
  · exact lr_eq (off := 150) 197 344 C (by decide +kernel) (by decide) rfl (hk T hT)
set_option maxRecDepth 20000 in
theorem ll_apply {i : Nat} {S : sT} (C : lH p s m meth c b L xs G) (hL : L ≤ 3072) (hi : i + 6 ≤ L) (hI : Inv S) (hk : ∀ T, Inv T → lW p l e s m below meth c b G 344 [(3, .int (nI i)), (0, .ref b), (1, .ref (G.1 0)), (2, .ref (G.1 33))] [] (hp T)) : lW p l e s m below meth c b G 199 [(3, .int (nI i)), (0, .ref b), (1, .ref (G.1 0)), (2, .ref (G.1 33))] [] (hp S) := by
  refine lr_aload (kx := 1) 200 2 C (by decide +kernel) rfl rfl rfl ?_
  refine lr_aload (kx := 0) 201 1 C (by decide +kernel) rfl rfl rfl ?_
  refine lr_iload (kx := 3) 202 0 C (by decide +kernel) rfl rfl rfl ?_
  refine lr_iconst (i := 1) (x := nI 1) 203 C (by decide +kernel) rfl rfl ?_
  refine lr_iadd (z := nI (i + 1)) 204 C (by decide +kernel) (nI_add i 1) rfl ?_
  refine lr_sld 205 C (by decide +kernel) (by omega) hL rfl ?_
  refine lr_pair (i1 := 28) (i2 := 31) (av := [.int (xs (i + 1))]) (p1 := 205) (p2 := 214) C gl_28 gl_31 rfl rfl (by decide +kernel) (by decide +kernel) (pr_apply (d := 0) hI) (fun z h1 kz => ?_) (fun z T hT => ?_)
  · refine lr_aload (kx := 2) 209 3 C (by decide +kernel) rfl rfl rfl ?_
    refine lr_aload (kx := 0) 210 1 C (by decide +kernel) rfl rfl rfl ?_
    refine lr_iload (kx := 3) 211 0 C (by decide +kernel) rfl rfl rfl ?_
    refine lr_iconst (i := 1) (x := nI 1) 212 C (by decide +kernel) rfl rfl ?_
    refine lr_iadd (z := nI (i + 1)) 213 C (by decide +kernel) (nI_add i 1) rfl ?_
    refine lr_sld 214 C (by decide +kernel) (by omega) hL rfl ?_
    exact kz
  · exact lr_eq (off := 127) 220 344 C (by decide +kernel) (by decide) rfl (hk T hT)
set_option maxRecDepth 20000 in
theorem ll_place {i : Nat} {S : sT} (C : lH p s m meth c b L xs G) (hL : L ≤ 3072) (hi : i + 6 ≤ L) (hI : Inv S) (hk : ∀ T, Inv T → lW p l e s m below meth c b G 344 [(3, .int (nI i)), (0, .ref b), (1, .ref (G.1 0)), (2, .ref (G.1 33))] [] (hp T)) : lW p l e s m below meth c b G 222 [(3, .int (nI i)), (0, .ref b), (1, .ref (G.1 0)), (2, .ref (G.1 33))] [] (hp S) := by
  refine lr_aload (kx := 1) 223 2 C (by decide +kernel) rfl rfl rfl ?_
  refine lr_aload (kx := 0) 224 1 C (by decide +kernel) rfl rfl rfl ?_
  refine lr_iload (kx := 3) 225 0 C (by decide +kernel) rfl rfl rfl ?_
  refine lr_iconst (i := 1) (x := nI 1) 226 C (by decide +kernel) rfl rfl ?_
  refine lr_iadd (z := nI (i + 1)) 227 C (by decide +kernel) (nI_add i 1) rfl ?_
  refine lr_sld 228 C (by decide +kernel) (by omega) hL rfl ?_
  refine lr_pair (i1 := 32) (i2 := 35) (av := [.int (xs (i + 1))]) (p1 := 228) (p2 := 237) C gl_32 gl_35 rfl rfl (by decide +kernel) (by decide +kernel) (pr_place (d := 0) hI) (fun z h1 kz => ?_) (fun z T hT => ?_)
  · refine lr_aload (kx := 2) 232 3 C (by decide +kernel) rfl rfl rfl ?_
    refine lr_aload (kx := 0) 233 1 C (by decide +kernel) rfl rfl rfl ?_
    refine lr_iload (kx := 3) 234 0 C (by decide +kernel) rfl rfl rfl ?_
    refine lr_iconst (i := 1) (x := nI 1) 235 C (by decide +kernel) rfl rfl ?_
    refine lr_iadd (z := nI (i + 1)) 236 C (by decide +kernel) (nI_add i 1) rfl ?_
    refine lr_sld 237 C (by decide +kernel) (by omega) hL rfl ?_
    exact kz
  · exact lr_eq (off := 104) 243 344 C (by decide +kernel) (by decide) rfl (hk T hT)
set_option maxRecDepth 20000 in
theorem ll_many {i : Nat} {S : sT} (C : lH p s m meth c b L xs G) (hL : L ≤ 3072) (hi : i + 6 ≤ L) (hI : Inv S) (hk : ∀ T, Inv T → lW p l e s m below meth c b G 344 [(3, .int (nI i)), (0, .ref b), (1, .ref (G.1 0)), (2, .ref (G.1 33))] [] (hp T)) : lW p l e s m below meth c b G 245 [(3, .int (nI i)), (0, .ref b), (1, .ref (G.1 0)), (2, .ref (G.1 33))] [] (hp S) := by
  refine lr_aload (kx := 1) 246 2 C (by decide +kernel) rfl rfl rfl ?_
  refine lr_aload (kx := 0) 247 1 C (by decide +kernel) rfl rfl rfl ?_
  refine lr_iload (kx := 3) 248 0 C (by decide +kernel) rfl rfl rfl ?_
  refine lr_iconst (i := 1) (x := nI 1) 249 C (by decide +kernel) rfl rfl ?_
  refine lr_iadd (z := nI (i + 1)) 250 C (by decide +kernel) (nI_add i 1) rfl ?_
  refine lr_sld 251 C (by decide +kernel) (by omega) hL rfl ?_
  refine lr_aload (kx := 0) 252 1 C (by decide +kernel) rfl rfl rfl ?_
  refine lr_iload (kx := 3) 253 0 C (by decide +kernel) rfl rfl rfl ?_
  refine lr_iconst (i := 2) (x := nI 2) 254 C (by decide +kernel) rfl rfl ?_
  refine lr_iadd (z := nI (i + 2)) 255 C (by decide +kernel) (nI_add i 2) rfl ?_
  refine lr_sld 256 C (by decide +kernel) (by omega) hL rfl ?_
  refine lr_pair (i1 := 36) (i2 := 39) (av := [.int (xs (i + 1)), .int (xs (i + 2))]) (p1 := 256) (p2 := 270) C gl_36 gl_39 rfl rfl (by decide +kernel) (by decide +kernel) (pr_many (d := 0) hI) (fun z h1 kz => ?_) (fun z T hT => ?_)
  · refine lr_aload (kx := 2) 260 3 C (by decide +kernel) rfl rfl rfl ?_
    refine lr_aload (kx := 0) 261 1 C (by decide +kernel) rfl rfl rfl ?_
    refine lr_iload (kx := 3) 262 0 C (by decide +kernel) rfl rfl rfl ?_
    refine lr_iconst (i := 1) (x := nI 1) 263 C (by decide +kernel) rfl rfl ?_
    refine lr_iadd (z := nI (i + 1)) 264 C (by decide +kernel) (nI_add i 1) rfl ?_
    refine lr_sld 265 C (by decide +kernel) (by omega) hL rfl ?_
    refine lr_aload (kx := 0) 266 1 C (by decide +kernel) rfl rfl rfl ?_
    refine lr_iload (kx := 3) 267 0 C (by decide +kernel) rfl rfl rfl ?_
    refine lr_iconst (i := 2) (x := nI 2) 268 C (by decide +kernel) rfl rfl ?_
    refine lr_iadd (z := nI (i + 2)) 269 C (by decide +kernel) (nI_add i 2) rfl ?_
    refine lr_sld 270 C (by decide +kernel) (by omega) hL rfl ?_
    exact kz
  · exact lr_eq (off := 71) 276 344 C (by decide +kernel) (by decide) rfl (hk T hT)
set_option maxRecDepth 20000 in
theorem ll_byteAt {i : Nat} {S : sT} (C : lH p s m meth c b L xs G) (hL : L ≤ 3072) (hi : i + 6 ≤ L) (hI : Inv S) (hk : ∀ T, Inv T → lW p l e s m below meth c b G 344 [(3, .int (nI i)), (0, .ref b), (1, .ref (G.1 0)), (2, .ref (G.1 33))] [] (hp T)) : lW p l e s m below meth c b G 278 [(3, .int (nI i)), (0, .ref b), (1, .ref (G.1 0)), (2, .ref (G.1 33))] [] (hp S) := by
  refine lr_aload (kx := 1) 279 2 C (by decide +kernel) rfl rfl rfl ?_
  refine lr_aload (kx := 0) 280 1 C (by decide +kernel) rfl rfl rfl ?_
  refine lr_iload (kx := 3) 281 0 C (by decide +kernel) rfl rfl rfl ?_
  refine lr_iconst (i := 1) (x := nI 1) 282 C (by decide +kernel) rfl rfl ?_
  refine lr_iadd (z := nI (i + 1)) 283 C (by decide +kernel) (nI_add i 1) rfl ?_
  refine lr_sld 284 C (by decide +kernel) (by omega) hL rfl ?_
  refine lr_aload (kx := 0) 285 1 C (by decide +kernel) rfl rfl rfl ?_
  refine lr_iload (kx := 3) 286 0 C (by decide +kernel) rfl rfl rfl ?_
  refine lr_iconst (i := 2) (x := nI 2) 287 C (by decide +kernel) rfl rfl ?_
  refine lr_iadd (z := nI (i + 2)) 288 C (by decide +kernel) (nI_add i 2) rfl ?_
  refine lr_sld 289 C (by decide +kernel) (by omega) hL rfl ?_
  refine lr_pair (i1 := 40) (i2 := 43) (av := [.int (xs (i + 1)), .int (xs (i + 2))]) (p1 := 289) (p2 := 303) C gl_40 gl_43 rfl rfl (by decide +kernel) (by decide +kernel) (pr_byteAt (d := 0) hI) (fun z h1 kz => ?_) (fun z T hT => ?_)
  · refine lr_aload (kx := 2) 293 3 C (by decide +kernel) rfl rfl rfl ?_
    refine lr_aload (kx := 0) 294 1 C (by decide +kernel) rfl rfl rfl ?_
    refine lr_iload (kx := 3) 295 0 C (by decide +kernel) rfl rfl rfl ?_
    refine lr_iconst (i := 1) (x := nI 1) 296 C (by decide +kernel) rfl rfl ?_
    refine lr_iadd (z := nI (i + 1)) 297 C (by decide +kernel) (nI_add i 1) rfl ?_
    refine lr_sld 298 C (by decide +kernel) (by omega) hL rfl ?_
    refine lr_aload (kx := 0) 299 1 C (by decide +kernel) rfl rfl rfl ?_
    refine lr_iload (kx := 3) 300 0 C (by decide +kernel) rfl rfl rfl ?_
    refine lr_iconst (i := 2) (x := nI 2) 301 C (by decide +kernel) rfl rfl ?_
    refine lr_iadd (z := nI (i + 2)) 302 C (by decide +kernel) (nI_add i 2) rfl ?_
    refine lr_sld 303 C (by decide +kernel) (by omega) hL rfl ?_
    exact kz
  · exact lr_eq (off := 38) 309 344 C (by decide +kernel) (by decide) rfl (hk T hT)
set_option maxRecDepth 20000 in
theorem ll_copy {i : Nat} {S : sT} (C : lH p s m meth c b L xs G) (hL : L ≤ 3072) (hi : i + 6 ≤ L) (hI : Inv S) (hk : ∀ T, Inv T → lW p l e s m below meth c b G 344 [(3, .int (nI i)), (0, .ref b), (1, .ref (G.1 0)), (2, .ref (G.1 33))] [] (hp T)) : lW p l e s m below meth c b G 311 [(3, .int (nI i)), (0, .ref b), (1, .ref (G.1 0)), (2, .ref (G.1 33))] [] (hp S) := by
  refine lr_aload (kx := 1) 312 2 C (by decide +kernel) rfl rfl rfl ?_
  refine lr_aload (kx := 0) 313 1 C (by decide +kernel) rfl rfl rfl ?_
  refine lr_iload (kx := 3) 314 0 C (by decide +kernel) rfl rfl rfl ?_
  refine lr_iconst (i := 1) (x := nI 1) 315 C (by decide +kernel) rfl rfl ?_
  refine lr_iadd (z := nI (i + 1)) 316 C (by decide +kernel) (nI_add i 1) rfl ?_
  refine lr_sld 317 C (by decide +kernel) (by omega) hL rfl ?_
  refine lr_aload (kx := 0) 318 1 C (by decide +kernel) rfl rfl rfl ?_
  refine lr_iload (kx := 3) 319 0 C (by decide +kernel) rfl rfl rfl ?_
  refine lr_iconst (i := 2) (x := nI 2) 320 C (by decide +kernel) rfl rfl ?_
  refine lr_iadd (z := nI (i + 2)) 321 C (by decide +kernel) (nI_add i 2) rfl ?_
  refine lr_sld 322 C (by decide +kernel) (by omega) hL rfl ?_
  refine lr_pair (i1 := 44) (i2 := 48) (av := [.int (xs (i + 1)), .int (xs (i + 2))]) (p1 := 322) (p2 := 336) C gl_44 gl_48 rfl rfl (by decide +kernel) (by decide +kernel) (pr_copy (d := 0) hI) (fun z h1 kz => ?_) (fun z T hT => ?_)
  · refine lr_aload (kx := 2) 326 3 C (by decide +kernel) rfl rfl rfl ?_
    refine lr_aload (kx := 0) 327 1 C (by decide +kernel) rfl rfl rfl ?_
    refine lr_iload (kx := 3) 328 0 C (by decide +kernel) rfl rfl rfl ?_
    refine lr_iconst (i := 1) (x := nI 1) 329 C (by decide +kernel) rfl rfl ?_
    refine lr_iadd (z := nI (i + 1)) 330 C (by decide +kernel) (nI_add i 1) rfl ?_
    refine lr_sld 331 C (by decide +kernel) (by omega) hL rfl ?_
    refine lr_aload (kx := 0) 332 1 C (by decide +kernel) rfl rfl rfl ?_
    refine lr_iload (kx := 3) 333 0 C (by decide +kernel) rfl rfl rfl ?_
    refine lr_iconst (i := 2) (x := nI 2) 334 C (by decide +kernel) rfl rfl ?_
    refine lr_iadd (z := nI (i + 2)) 335 C (by decide +kernel) (nI_add i 2) rfl ?_
    refine lr_sld 336 C (by decide +kernel) (by omega) hL rfl ?_
    exact kz
  · exact lr_eq (off := 5) 342 344 C (by decide +kernel) (by decide) rfl (hk T hT)
theorem ll_gt {i : Nat} (hL : L ≤ 3072) (hi : i ≤ 4000) (h : L < i + 6) : nI L - 6 < nI i := by
  rw [ti_lt, nI_t (by omega)]
  have h1 : (nI L - 6).toInt = (L : Int) - 6 := by
    have e : nI L - (6 : Int32) = Int32.ofInt ((L : Int) - 6) := by
      apply Int32.toInt_inj.mp
      rw [Int32.toInt_sub, nI_t (by omega), Int32.toInt_ofInt]
      rfl
    rw [e, Int32.toInt_ofInt_of_le (by omega) (by omega)]
  omega
theorem ll_loop (C : lH p s m meth c b L xs G) (hL : L ≤ 3072) : ∀ (n i : Nat) (S : sT), L + 6 - i ≤ n → i ≤ 4000 → Inv S → lW p l e s m below meth c b G 18 [(3, .int (nI i)), (0, .ref b), (1, .ref (G.1 0)), (2, .ref (G.1 33))] [] (hp S) := by
  intro n
  induction n with
  | zero =>
    intro i S hn hi hI
    refine lr_iload (kx := 3) 19 0 C (by decide +kernel) rfl rfl rfl ?_
    refine lr_aload (kx := 0) 20 1 C (by decide +kernel) rfl rfl rfl ?_
    refine lr_slen 21 C (by decide +kernel) rfl ?_
    refine lr_bipush (i := 6) (x := 6) 23 C (by decide +kernel) (by decide) rfl ?_
    refine lr_isub 24 C (by decide +kernel) rfl ?_
    refine lr_gt (off := 326) 27 350 C (by decide +kernel) (by decide) rfl (fun _ => ?_) (fun q => ?_)
    · refine lr_iconst (i := 1) (x := 1) 351 C (by decide +kernel) rfl rfl ?_
      exact lr_ret C (by decide +kernel)
    · exact absurd (ll_gt hL hi (by omega)) q
  | succ n ih =>
    intro i S hn hi hI
    refine lr_iload (kx := 3) 19 0 C (by decide +kernel) rfl rfl rfl ?_
    refine lr_aload (kx := 0) 20 1 C (by decide +kernel) rfl rfl rfl ?_
    refine lr_slen 21 C (by decide +kernel) rfl ?_
    refine lr_bipush (i := 6) (x := 6) 23 C (by decide +kernel) (by decide) rfl ?_
    refine lr_isub 24 C (by decide +kernel) rfl ?_
    refine lr_gt (off := 326) 27 350 C (by decide +kernel) (by decide) rfl (fun _ => ?_) (fun q => ?_)
    · refine lr_iconst (i := 1) (x := 1) 351 C (by decide +kernel) rfl rfl ?_
      exact lr_ret C (by decide +kernel)
    have hi6 : i + 6 ≤ L := by
      by_cases z : i + 6 ≤ L
      · exact z
      · exact absurd (ll_gt hL hi (by omega)) q
    have hk : ∀ T, Inv T → lW p l e s m below meth c b G 344 [(3, .int (nI i)), (0, .ref b), (1, .ref (G.1 0)), (2, .ref (G.1 33))] [] (hp T) := fun T hT => by
      refine lr_iinc (i := 3) (jx := 0) (z := 6) (y := nI (i + 6)) 347 [(3, .int (nI (i + 6))), (0, .ref b), (1, .ref (G.1 0)), (2, .ref (G.1 33))] C (by decide +kernel) rfl (nI_add i 6) (by decide) rfl rfl ?_
      refine lr_goto (off := -329) 18 C (by decide +kernel) (by decide) ?_
      exact ih (i + 6) T (by omega) (by omega) hT
    refine lr_aload (kx := 0) 28 1 C (by decide +kernel) rfl rfl rfl ?_
    refine lr_iload (kx := 3) 29 0 C (by decide +kernel) rfl rfl rfl ?_
    refine lr_sld 30 C (by decide +kernel) (by omega) hL rfl ?_
    refine lr_bipush (i := 7) (x := 7) 32 C (by decide +kernel) (by decide) rfl ?_
    refine lr_iand 33 C (by decide +kernel) rfl ?_
    obtain ⟨v, hv, ev⟩ := pk_andE (xs i) (m := 7) 3 (by decide)
    rw [ev]
    rcases (show v = 0 ∨ v = 1 ∨ v = 2 ∨ v = 3 ∨ v = 4 ∨ v = 5 ∨ v = 6 ∨ v = 7 by omega) with rfl | rfl | rfl | rfl | rfl | rfl | rfl | rfl
    · exact lr_tab (dflt := 311) (lo := 0) (hi := 7) (offs := #[47, 110, 143, 166, 189, 212, 245, 278]) (len := 47) (off := 47) 80 C (by decide +kernel) (by decide) (by decide) rfl (by decide) (ll_feed C hL hi6 hI hk)
    · exact lr_tab (dflt := 311) (lo := 0) (hi := 7) (offs := #[47, 110, 143, 166, 189, 212, 245, 278]) (len := 47) (off := 110) 143 C (by decide +kernel) (by decide) (by decide) rfl (by decide) (ll_read C hL hi6 hI hk)
    · exact lr_tab (dflt := 311) (lo := 0) (hi := 7) (offs := #[47, 110, 143, 166, 189, 212, 245, 278]) (len := 47) (off := 143) 176 C (by decide +kernel) (by decide) (by decide) rfl (by decide) (ll_change C hL hi6 hI hk)
    · exact lr_tab (dflt := 311) (lo := 0) (hi := 7) (offs := #[47, 110, 143, 166, 189, 212, 245, 278]) (len := 47) (off := 166) 199 C (by decide +kernel) (by decide) (by decide) rfl (by decide) (ll_apply C hL hi6 hI hk)
    · exact lr_tab (dflt := 311) (lo := 0) (hi := 7) (offs := #[47, 110, 143, 166, 189, 212, 245, 278]) (len := 47) (off := 189) 222 C (by decide +kernel) (by decide) (by decide) rfl (by decide) (ll_place C hL hi6 hI hk)
    · exact lr_tab (dflt := 311) (lo := 0) (hi := 7) (offs := #[47, 110, 143, 166, 189, 212, 245, 278]) (len := 47) (off := 212) 245 C (by decide +kernel) (by decide) (by decide) rfl (by decide) (ll_many C hL hi6 hI hk)
    · exact lr_tab (dflt := 311) (lo := 0) (hi := 7) (offs := #[47, 110, 143, 166, 189, 212, 245, 278]) (len := 47) (off := 245) 278 C (by decide +kernel) (by decide) (by decide) rfl (by decide) (ll_byteAt C hL hi6 hI hk)
    · exact lr_tab (dflt := 311) (lo := 0) (hi := 7) (offs := #[47, 110, 143, 166, 189, 212, 245, 278]) (len := 47) (off := 278) 311 C (by decide +kernel) (by decide) (by decide) rfl (by decide) (ll_copy C hL hi6 hI hk)
end Ll
