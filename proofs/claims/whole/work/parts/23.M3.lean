def fM_look_0 (N d : Nat) (h : sm_H) (Q : Option Value → sm_H → Prop) (x0 : Nat) (x1 : Int32) : Prop := ∃ z1 : Nat, sm_g h x0 5 13 = some (.ref z1) ∧ ∃ z2 : Int32, sm_gi h z1 1 x1 = some z2 ∧ sm_W N (d + 1) mm_M_look 9 [(0, .ref x0), (1, .int x1), (2, .int 0), (3, .int z2)] [] h Q
set_option maxRecDepth 20000 in
set_option maxHeartbeats 4000000 in
theorem kM_look_0 {N d : Nat} {h : sm_H} {Q : Option Value → sm_H → Prop} {x0 : Nat} {x1 : Int32} (hf : fM_look_0 N d h Q x0 x1) : sm_W N (d + 1) mm_M_look 0 [(0, .ref x0), (1, .int x1)] [] h Q := by
  unfold fM_look_0 at hf
  refine sm_iconst (i := 0) (x := 0) 1 (by decide +kernel) rfl rfl ?_
  refine sm_istore_n (k := 2) 2 [(2, .int 0), (0, .ref x0), (1, .int x1)] (by decide +kernel) rfl (by decide) (by first | rfl | simp [sm_rfc]) rfl ?_
  refine sm_aload_n (k := 0) 3 1 (by decide +kernel) rfl rfl rfl ?_
  obtain ⟨z1, ez1, hf⟩ := hf
  refine sm_get 6 (by decide +kernel) fl_M_40 ez1 rfl ?_
  refine sm_iload_n (k := 1) 7 2 (by decide +kernel) rfl rfl rfl ?_
  obtain ⟨z2, ez2, hf⟩ := hf
  refine sm_iald 8 (by decide +kernel) ez2 rfl ?_
  refine sm_istore_n (k := 3) 9 [(3, .int z2), (2, .int 0), (0, .ref x0), (1, .int x1)] (by decide +kernel) rfl (by decide) (by first | rfl | simp [sm_rfc]) rfl ?_
  exact sm_sub [2, 3, 1, 0] rfl hf
def fM_look_9 (N d : Nat) (h : sm_H) (Q : Option Value → sm_H → Prop) (x0 : Nat) (x1 : Int32) (x2 : Int32) (x3 : Int32) : Prop := ((x3 < 0 → Q (some (.int 0)) h) ∧ (¬ x3 < 0 → sm_V N d mm_M_operator 5 x0 [.int x3] h (fun r2 h1 => ∃ z3 : Int32, r2 = some (.int z3) ∧ ((z3 = 0 → sm_V N d mm_M_fail 5 x0 [.int 1, .int x2, .int (-1)] h1 (fun r13 h12 => ∃ z14 : Int32, r13 = some (.int z14) ∧ Q (some (.int z14)) h12)) ∧ (¬ z3 = 0 → ∃ z4 : Nat, sm_g h1 x0 5 7 = some (.ref z4) ∧ ∃ z5 : Int32, sm_gi h1 z4 1 x3 = some z5 ∧ ((z5 = 3 → ∃ z6 : Nat, sm_g h1 x0 5 13 = some (.ref z6) ∧ ∃ z7 : Int32, sm_gi h1 z6 1 x3 = some z7 ∧ sm_W N (d + 1) mm_M_look 58 [(0, .ref x0), (1, .int x1), (2, .int x2), (3, .int x3), (4, .int 0), (5, .int z7)] [] h1 Q) ∧ (¬ z5 = 3 → sm_V N d mm_M_fail 5 x0 [.int 2, .int x2, .int (-1)] h1 (fun r9 h8 => ∃ z10 : Int32, r9 = some (.int z10) ∧ Q (some (.int z10)) h8))))))))
set_option maxRecDepth 20000 in
set_option maxHeartbeats 4000000 in
theorem kM_look_9 {N d : Nat} {h : sm_H} {Q : Option Value → sm_H → Prop} {x0 : Nat} {x1 : Int32} {x2 : Int32} {x3 : Int32} (hf : fM_look_9 N d h Q x0 x1 x2 x3) : sm_W N (d + 1) mm_M_look 9 [(0, .ref x0), (1, .int x1), (2, .int x2), (3, .int x3)] [] h Q := by
  unfold fM_look_9 at hf
  refine sm_iload_n (k := 3) 10 3 (by decide +kernel) rfl rfl rfl ?_
  refine sm_if_lt (off := 160) 13 170 (by decide +kernel) (by decide) rfl (fun q16 => ?_) (fun q16 => ?_)
  · have hf := hf.1 q16
    refine sm_iconst (i := 0) (x := 0) 171 (by decide +kernel) rfl rfl ?_
    exact sm_iret rfl (by decide +kernel) hf
  · have hf := hf.2 q16
    refine sm_aload_n (k := 0) 14 0 (by decide +kernel) rfl rfl rfl ?_
    refine sm_iload_n (k := 3) 15 3 (by decide +kernel) rfl rfl rfl ?_
    refine sm_callV (M2 := mm_M_operator) (av := [.int x3]) (rest := []) 18 (by decide +kernel) ml_M_192 (Nat.le_refl _) rfl rfl (by first | exact Nat.le_of_ble_eq_true rfl | simp [sm_rfc, Value.category]) rfl hf ?_
    rintro r2 h1 ⟨z3, rfl, hf⟩
    change sm_W N (d + 1) mm_M_look 18 [(0, .ref x0), (1, .int x1), (2, .int x2), (3, .int x3)] [.int z3] h1 Q
    refine sm_if_ne (off := 11) 21 29 (by decide +kernel) (by decide) rfl (fun q15 => ?_) (fun q15 => ?_)
    · have hf := hf.2 q15
      refine sm_aload_n (k := 0) 30 0 (by decide +kernel) rfl rfl rfl ?_
      obtain ⟨z4, ez4, hf⟩ := hf
      refine sm_get 33 (by decide +kernel) fl_M_20 ez4 rfl ?_
      refine sm_iload_n (k := 3) 34 3 (by decide +kernel) rfl rfl rfl ?_
      obtain ⟨z5, ez5, hf⟩ := hf
      refine sm_iald 35 (by decide +kernel) ez5 rfl ?_
      refine sm_iconst (i := 3) (x := 3) 36 (by decide +kernel) rfl rfl ?_
      refine sm_icmp_eq (off := 11) 39 47 (by decide +kernel) (by decide) rfl (fun q11 => ?_) (fun q11 => ?_)
      · have hf := hf.1 q11
        refine sm_iconst (i := 0) (x := 0) 48 (by decide +kernel) rfl rfl ?_
        refine sm_istore (i := 4) 50 [(4, .int 0), (0, .ref x0), (1, .int x1), (2, .int x2), (3, .int x3)] (by decide +kernel) (by decide) (by first | rfl | simp [sm_rfc]) rfl ?_
        refine sm_aload_n (k := 0) 51 1 (by decide +kernel) rfl rfl rfl ?_
        obtain ⟨z6, ez6, hf⟩ := hf
        refine sm_get 54 (by decide +kernel) fl_M_40 ez6 rfl ?_
        refine sm_iload_n (k := 3) 55 4 (by decide +kernel) rfl rfl rfl ?_
        obtain ⟨z7, ez7, hf⟩ := hf
        refine sm_iald 56 (by decide +kernel) ez7 rfl ?_
        refine sm_istore (i := 5) 58 [(5, .int z7), (4, .int 0), (0, .ref x0), (1, .int x1), (2, .int x2), (3, .int x3)] (by decide +kernel) (by decide) (by first | rfl | simp [sm_rfc]) rfl ?_
        exact sm_sub [2, 3, 4, 5, 1, 0] rfl hf
      · have hf := hf.2 q11
        refine sm_aload_n (k := 0) 40 0 (by decide +kernel) rfl rfl rfl ?_
        refine sm_iconst (i := 2) (x := 2) 41 (by decide +kernel) rfl rfl ?_
        refine sm_iload_n (k := 2) 42 2 (by decide +kernel) rfl rfl rfl ?_
        refine sm_iconst (i := -1) (x := (-1)) 43 (by decide +kernel) rfl rfl ?_
        refine sm_callV (M2 := mm_M_fail) (av := [.int 2, .int x2, .int (-1)]) (rest := []) 46 (by decide +kernel) ml_M_195 (Nat.le_refl _) rfl rfl (by first | exact Nat.le_of_ble_eq_true rfl | simp [sm_rfc, Value.category]) rfl hf ?_
        rintro r9 h8 ⟨z10, rfl, hf⟩
        change sm_W N (d + 1) mm_M_look 46 [(0, .ref x0), (1, .int x1), (2, .int x2), (3, .int x3)] [.int z10] h8 Q
        exact sm_iret rfl (by decide +kernel) hf
    · have hf := hf.1 q15
      refine sm_aload_n (k := 0) 22 0 (by decide +kernel) rfl rfl rfl ?_
      refine sm_iconst (i := 1) (x := 1) 23 (by decide +kernel) rfl rfl ?_
      refine sm_iload_n (k := 2) 24 2 (by decide +kernel) rfl rfl rfl ?_
      refine sm_iconst (i := -1) (x := (-1)) 25 (by decide +kernel) rfl rfl ?_
      refine sm_callV (M2 := mm_M_fail) (av := [.int 1, .int x2, .int (-1)]) (rest := []) 28 (by decide +kernel) ml_M_195 (Nat.le_refl _) rfl rfl (by first | exact Nat.le_of_ble_eq_true rfl | simp [sm_rfc, Value.category]) rfl hf ?_
      rintro r13 h12 ⟨z14, rfl, hf⟩
      change sm_W N (d + 1) mm_M_look 28 [(0, .ref x0), (1, .int x1), (2, .int x2), (3, .int x3)] [.int z14] h12 Q
      exact sm_iret rfl (by decide +kernel) hf
def fM_look_58 (N d : Nat) (h : sm_H) (Q : Option Value → sm_H → Prop) (x0 : Nat) (x1 : Int32) (x2 : Int32) (x3 : Int32) (x4 : Int32) (x5 : Int32) : Prop := ((x5 < 0 → ∃ z1 : Nat, sm_g h x0 5 14 = some (.ref z1) ∧ ∃ z2 : Int32, sm_gi h z1 1 x3 = some z2 ∧ sm_W N (d + 1) mm_M_look 9 [(0, .ref x0), (1, .int x1), (2, .int (x2 + 1)), (3, .int z2)] [] h Q) ∧ (¬ x5 < 0 → sm_V N d mm_M_split 5 x0 [.int x5] h (fun r4 h3 => ∃ z5 : Int32, r4 = some (.int z5) ∧ ((z5 = 0 → sm_V N d mm_M_fail 5 x0 [.int 3, .int x2, .int x4] h3 (fun r20 h19 => ∃ z21 : Int32, r20 = some (.int z21) ∧ Q (some (.int z21)) h19)) ∧ (¬ z5 = 0 → sm_V N d mm_M_operator 5 x0 [.int x3] h3 (fun r7 h6 => ∃ z8 : Int32, r7 = some (.int z8) ∧ ((z8 = 3 → ∃ z9 : Nat, sm_g h6 x0 5 7 = some (.ref z9) ∧ ∃ z10 : Int32, sm_gi h6 z9 1 x5 = some z10 ∧ ((z10 = 16 → sm_W N (d + 1) mm_M_look 123 [(0, .ref x0), (1, .int x1), (2, .int x2), (3, .int x3), (4, .int x4), (5, .int x5)] [] h6 Q) ∧ (¬ z10 = 16 → ∃ z11 : Nat, sm_g h6 x0 5 7 = some (.ref z11) ∧ ∃ z12 : Int32, sm_gi h6 z11 1 x5 = some z12 ∧ ((z12 = 18 → sm_W N (d + 1) mm_M_look 123 [(0, .ref x0), (1, .int x1), (2, .int x2), (3, .int x3), (4, .int x4), (5, .int x5)] [] h6 Q) ∧ (¬ z12 = 18 → sm_V N d mm_M_fail 5 x0 [.int 4, .int x2, .int x4] h6 (fun r14 h13 => ∃ z15 : Int32, r14 = some (.int z15) ∧ Q (some (.int z15)) h13)))))) ∧ (¬ z8 = 3 → sm_W N (d + 1) mm_M_look 123 [(0, .ref x0), (1, .int x1), (2, .int x2), (3, .int x3), (4, .int x4), (5, .int x5)] [] h6 Q))))))))
set_option maxRecDepth 20000 in
set_option maxHeartbeats 4000000 in
theorem kM_look_58 {N d : Nat} {h : sm_H} {Q : Option Value → sm_H → Prop} {x0 : Nat} {x1 : Int32} {x2 : Int32} {x3 : Int32} {x4 : Int32} {x5 : Int32} (hf : fM_look_58 N d h Q x0 x1 x2 x3 x4 x5) : sm_W N (d + 1) mm_M_look 58 [(0, .ref x0), (1, .int x1), (2, .int x2), (3, .int x3), (4, .int x4), (5, .int x5)] [] h Q := by
  unfold fM_look_58 at hf
  refine sm_iload (i := 5) 60 5 (by decide +kernel) rfl rfl ?_
  refine sm_if_lt (off := 97) 63 157 (by decide +kernel) (by decide) rfl (fun q23 => ?_) (fun q23 => ?_)
  · have hf := hf.1 q23
    refine sm_iinc (i := 2) (j := 2) (z := 1) (y := x2 + 1) 160 [(2, .int (x2 + 1)), (0, .ref x0), (1, .int x1), (3, .int x3), (4, .int x4), (5, .int x5)] (by decide +kernel) rfl (by rfl) (by decide) rfl rfl ?_
    refine sm_aload_n (k := 0) 161 1 (by decide +kernel) rfl rfl rfl ?_
    obtain ⟨z1, ez1, hf⟩ := hf
    refine sm_get 164 (by decide +kernel) fl_M_43 ez1 rfl ?_
    refine sm_iload_n (k := 3) 165 3 (by decide +kernel) rfl rfl rfl ?_
    obtain ⟨z2, ez2, hf⟩ := hf
    refine sm_iald 166 (by decide +kernel) ez2 rfl ?_
    refine sm_istore_n (k := 3) 167 [(3, .int z2), (2, .int (x2 + 1)), (0, .ref x0), (1, .int x1), (4, .int x4), (5, .int x5)] (by decide +kernel) rfl (by decide) (by first | rfl | simp [sm_rfc]) rfl ?_
    refine sm_goto (off := -158) 9 (by decide +kernel) (by decide) ?_
    exact sm_sub [2, 3, 1, 0] rfl hf
  · have hf := hf.2 q23
    refine sm_aload_n (k := 0) 64 0 (by decide +kernel) rfl rfl rfl ?_
    refine sm_iload (i := 5) 66 5 (by decide +kernel) rfl rfl ?_
    refine sm_callV (M2 := mm_M_split) (av := [.int x5]) (rest := []) 69 (by decide +kernel) ml_M_198 (Nat.le_refl _) rfl rfl (by first | exact Nat.le_of_ble_eq_true rfl | simp [sm_rfc, Value.category]) rfl hf ?_
    rintro r4 h3 ⟨z5, rfl, hf⟩
    change sm_W N (d + 1) mm_M_look 69 [(0, .ref x0), (1, .int x1), (2, .int x2), (3, .int x3), (4, .int x4), (5, .int x5)] [.int z5] h3 Q
    refine sm_if_ne (off := 12) 72 81 (by decide +kernel) (by decide) rfl (fun q22 => ?_) (fun q22 => ?_)
    · have hf := hf.2 q22
      refine sm_aload_n (k := 0) 82 0 (by decide +kernel) rfl rfl rfl ?_
      refine sm_iload_n (k := 3) 83 3 (by decide +kernel) rfl rfl rfl ?_
      refine sm_callV (M2 := mm_M_operator) (av := [.int x3]) (rest := []) 86 (by decide +kernel) ml_M_192 (Nat.le_refl _) rfl rfl (by first | exact Nat.le_of_ble_eq_true rfl | simp [sm_rfc, Value.category]) rfl hf ?_
      rintro r7 h6 ⟨z8, rfl, hf⟩
      change sm_W N (d + 1) mm_M_look 86 [(0, .ref x0), (1, .int x1), (2, .int x2), (3, .int x3), (4, .int x4), (5, .int x5)] [.int z8] h6 Q
      refine sm_iconst (i := 3) (x := 3) 87 (by decide +kernel) rfl rfl ?_
      refine sm_icmp_ne (off := 36) 90 123 (by decide +kernel) (by decide) rfl (fun q18 => ?_) (fun q18 => ?_)
      · have hf := hf.2 q18
        exact sm_sub [0, 1, 2, 3, 4, 5] rfl hf
      · have hf := hf.1 q18
        refine sm_aload_n (k := 0) 91 0 (by decide +kernel) rfl rfl rfl ?_
        obtain ⟨z9, ez9, hf⟩ := hf
        refine sm_get 94 (by decide +kernel) fl_M_20 ez9 rfl ?_
        refine sm_iload (i := 5) 96 5 (by decide +kernel) rfl rfl ?_
        obtain ⟨z10, ez10, hf⟩ := hf
        refine sm_iald 97 (by decide +kernel) ez10 rfl ?_
        refine sm_bipush (i := 16) (x := 16) 99 (by decide +kernel) (by decide) rfl ?_
        refine sm_icmp_eq (off := 24) 102 123 (by decide +kernel) (by decide) rfl (fun q17 => ?_) (fun q17 => ?_)
        · have hf := hf.1 q17
          exact sm_sub [0, 1, 2, 3, 4, 5] rfl hf
        · have hf := hf.2 q17
          refine sm_aload_n (k := 0) 103 0 (by decide +kernel) rfl rfl rfl ?_
          obtain ⟨z11, ez11, hf⟩ := hf
          refine sm_get 106 (by decide +kernel) fl_M_20 ez11 rfl ?_
          refine sm_iload (i := 5) 108 5 (by decide +kernel) rfl rfl ?_
          obtain ⟨z12, ez12, hf⟩ := hf
          refine sm_iald 109 (by decide +kernel) ez12 rfl ?_
          refine sm_bipush (i := 18) (x := 18) 111 (by decide +kernel) (by decide) rfl ?_
          refine sm_icmp_eq (off := 12) 114 123 (by decide +kernel) (by decide) rfl (fun q16 => ?_) (fun q16 => ?_)
          · have hf := hf.1 q16
            exact sm_sub [0, 1, 2, 3, 4, 5] rfl hf
          · have hf := hf.2 q16
            refine sm_aload_n (k := 0) 115 0 (by decide +kernel) rfl rfl rfl ?_
            refine sm_iconst (i := 4) (x := 4) 116 (by decide +kernel) rfl rfl ?_
            refine sm_iload_n (k := 2) 117 2 (by decide +kernel) rfl rfl rfl ?_
            refine sm_iload (i := 4) 119 4 (by decide +kernel) rfl rfl ?_
            refine sm_callV (M2 := mm_M_fail) (av := [.int 4, .int x2, .int x4]) (rest := []) 122 (by decide +kernel) ml_M_195 (Nat.le_refl _) rfl rfl (by first | exact Nat.le_of_ble_eq_true rfl | simp [sm_rfc, Value.category]) rfl hf ?_
            rintro r14 h13 ⟨z15, rfl, hf⟩
            change sm_W N (d + 1) mm_M_look 122 [(0, .ref x0), (1, .int x1), (2, .int x2), (3, .int x3), (4, .int x4), (5, .int x5)] [.int z15] h13 Q
            exact sm_iret rfl (by decide +kernel) hf
    · have hf := hf.1 q22
      refine sm_aload_n (k := 0) 73 0 (by decide +kernel) rfl rfl rfl ?_
      refine sm_iconst (i := 3) (x := 3) 74 (by decide +kernel) rfl rfl ?_
      refine sm_iload_n (k := 2) 75 2 (by decide +kernel) rfl rfl rfl ?_
      refine sm_iload (i := 4) 77 4 (by decide +kernel) rfl rfl ?_
      refine sm_callV (M2 := mm_M_fail) (av := [.int 3, .int x2, .int x4]) (rest := []) 80 (by decide +kernel) ml_M_195 (Nat.le_refl _) rfl rfl (by first | exact Nat.le_of_ble_eq_true rfl | simp [sm_rfc, Value.category]) rfl hf ?_
      rintro r20 h19 ⟨z21, rfl, hf⟩
      change sm_W N (d + 1) mm_M_look 80 [(0, .ref x0), (1, .int x1), (2, .int x2), (3, .int x3), (4, .int x4), (5, .int x5)] [.int z21] h19 Q
      exact sm_iret rfl (by decide +kernel) hf
def fM_look_123 (N d : Nat) (h : sm_H) (Q : Option Value → sm_H → Prop) (x0 : Nat) (x1 : Int32) (x2 : Int32) (x3 : Int32) (x4 : Int32) (x5 : Int32) : Prop := sm_V N d mm_M_meetsEarlier 5 x0 [.int x1, .int x5] h (fun r2 h1 => ∃ z3 : Int32, r2 = some (.int z3) ∧ ((z3 = 0 → ∃ z4 : Nat, sm_g h1 x0 5 14 = some (.ref z4) ∧ ∃ z5 : Int32, sm_gi h1 z4 1 x5 = some z5 ∧ sm_W N (d + 1) mm_M_look 58 [(0, .ref x0), (1, .int x1), (2, .int x2), (3, .int x3), (4, .int (x4 + 1)), (5, .int z5)] [] h1 Q) ∧ (¬ z3 = 0 → sm_V N d mm_M_fail 5 x0 [.int 5, .int x2, .int x4] h1 (fun r7 h6 => ∃ z8 : Int32, r7 = some (.int z8) ∧ Q (some (.int z8)) h6))))
set_option maxRecDepth 20000 in
set_option maxHeartbeats 4000000 in
theorem kM_look_123 {N d : Nat} {h : sm_H} {Q : Option Value → sm_H → Prop} {x0 : Nat} {x1 : Int32} {x2 : Int32} {x3 : Int32} {x4 : Int32} {x5 : Int32} (hf : fM_look_123 N d h Q x0 x1 x2 x3 x4 x5) : sm_W N (d + 1) mm_M_look 123 [(0, .ref x0), (1, .int x1), (2, .int x2), (3, .int x3), (4, .int x4), (5, .int x5)] [] h Q := by
  unfold fM_look_123 at hf
  refine sm_aload_n (k := 0) 124 0 (by decide +kernel) rfl rfl rfl ?_
  refine sm_iload_n (k := 1) 125 1 (by decide +kernel) rfl rfl rfl ?_
  refine sm_iload (i := 5) 127 5 (by decide +kernel) rfl rfl ?_
  refine sm_callV (M2 := mm_M_meetsEarlier) (av := [.int x1, .int x5]) (rest := []) 130 (by decide +kernel) ml_M_201 (Nat.le_refl _) rfl rfl (by first | exact Nat.le_of_ble_eq_true rfl | simp [sm_rfc, Value.category]) rfl hf ?_
  rintro r2 h1 ⟨z3, rfl, hf⟩
  change sm_W N (d + 1) mm_M_look 130 [(0, .ref x0), (1, .int x1), (2, .int x2), (3, .int x3), (4, .int x4), (5, .int x5)] [.int z3] h1 Q
  refine sm_if_eq (off := 12) 133 142 (by decide +kernel) (by decide) rfl (fun q9 => ?_) (fun q9 => ?_)
  · have hf := hf.1 q9
    refine sm_iinc (i := 4) (j := 4) (z := 1) (y := x4 + 1) 145 [(4, .int (x4 + 1)), (0, .ref x0), (1, .int x1), (2, .int x2), (3, .int x3), (5, .int x5)] (by decide +kernel) rfl (by rfl) (by decide) rfl rfl ?_
    refine sm_aload_n (k := 0) 146 1 (by decide +kernel) rfl rfl rfl ?_
    obtain ⟨z4, ez4, hf⟩ := hf
    refine sm_get 149 (by decide +kernel) fl_M_43 ez4 rfl ?_
    refine sm_iload (i := 5) 151 5 (by decide +kernel) rfl rfl ?_
    obtain ⟨z5, ez5, hf⟩ := hf
    refine sm_iald 152 (by decide +kernel) ez5 rfl ?_
    refine sm_istore (i := 5) 154 [(5, .int z5), (4, .int (x4 + 1)), (0, .ref x0), (1, .int x1), (2, .int x2), (3, .int x3)] (by decide +kernel) (by decide) (by first | rfl | simp [sm_rfc]) rfl ?_
    refine sm_goto (off := -96) 58 (by decide +kernel) (by decide) ?_
    exact sm_sub [2, 3, 4, 5, 1, 0] rfl hf
  · have hf := hf.2 q9
    refine sm_aload_n (k := 0) 134 0 (by decide +kernel) rfl rfl rfl ?_
    refine sm_iconst (i := 5) (x := 5) 135 (by decide +kernel) rfl rfl ?_
    refine sm_iload_n (k := 2) 136 2 (by decide +kernel) rfl rfl rfl ?_
    refine sm_iload (i := 4) 138 4 (by decide +kernel) rfl rfl ?_
    refine sm_callV (M2 := mm_M_fail) (av := [.int 5, .int x2, .int x4]) (rest := []) 141 (by decide +kernel) ml_M_195 (Nat.le_refl _) rfl rfl (by first | exact Nat.le_of_ble_eq_true rfl | simp [sm_rfc, Value.category]) rfl hf ?_
    rintro r7 h6 ⟨z8, rfl, hf⟩
    change sm_W N (d + 1) mm_M_look 141 [(0, .ref x0), (1, .int x1), (2, .int x2), (3, .int x3), (4, .int x4), (5, .int x5)] [.int z8] h6 Q
    exact sm_iret rfl (by decide +kernel) hf
theorem cM_look {N d : Nat} {h : sm_H} {Q : Option Value → sm_H → Prop} {x0 : Nat} {x1 : Int32} (hb : ∃ fs, h[x0]? = some (.inr (5, fs))) (hf : fM_look_0 N d h Q x0 x1) : sm_V N (d + 1) mm_M_look 5 x0 [.int x1] h Q := ⟨hb, sm_meth (by decide +kernel) (fun _ => Nat.le_of_ble_eq_true rfl) (fun _ => rfl) (kM_look_0 hf)⟩
def fM_change_0 (N d : Nat) (h : sm_H) (Q : Option Value → sm_H → Prop) (x0 : Nat) (x1 : Int32) : Prop := ((x1 < 0 → Q (some (.int (-2))) h) ∧ (¬ x1 < 0 → ∃ z1 : Int32, sm_g h x0 5 2 = some (.int z1) ∧ ((x1 ≤ z1 → ∃ h2, sm_p h x0 5 2 (.int 0) = some h2 ∧ ∃ h3, sm_p h2 x0 5 6 (.int 0) = some h3 ∧ sm_V N d mm_M_load 5 x0 [.int 10000, .int x1] h3 (fun r5 h4 => ∃ z6 : Int32, r5 = some (.int z6) ∧ ∃ h7, sm_p h4 x0 5 3 (.int 0) = some h7 ∧ ((0 ≤ z6 → sm_V N d mm_M_look 5 x0 [.int z6] h7 (fun r9 h8 => ∃ z10 : Int32, r9 = some (.int z10) ∧ ((z10 ≤ 0 → sm_W N (d + 1) mm_M_change 63 [(0, .ref x0), (1, .int x1), (2, .int z6), (4, .int 0)] [] h8 Q) ∧ (¬ z10 ≤ 0 → Q (some (.int (z10 - 10))) h8)))) ∧ (¬ 0 ≤ z6 → Q (some (.int (-1))) h7)))) ∧ (¬ x1 ≤ z1 → Q (some (.int (-2))) h))))
set_option maxRecDepth 20000 in
set_option maxHeartbeats 4000000 in
theorem kM_change_0 {N d : Nat} {h : sm_H} {Q : Option Value → sm_H → Prop} {x0 : Nat} {x1 : Int32} (hf : fM_change_0 N d h Q x0 x1) : sm_W N (d + 1) mm_M_change 0 [(0, .ref x0), (1, .int x1)] [] h Q := by
  unfold fM_change_0 at hf
  refine sm_iload_n (k := 1) 1 1 (by decide +kernel) rfl rfl rfl ?_
  refine sm_if_lt (off := 11) 4 12 (by decide +kernel) (by decide) rfl (fun q14 => ?_) (fun q14 => ?_)
  · have hf := hf.1 q14
    refine sm_bipush (i := -2) (x := (-2)) 14 (by decide +kernel) (by decide) rfl ?_
    exact sm_iret rfl (by decide +kernel) hf
  · have hf := hf.2 q14
    refine sm_iload_n (k := 1) 5 1 (by decide +kernel) rfl rfl rfl ?_
    refine sm_aload_n (k := 0) 6 0 (by decide +kernel) rfl rfl rfl ?_
    obtain ⟨z1, ez1, hf⟩ := hf
    refine sm_get 9 (by decide +kernel) fl_M_79 ez1 rfl ?_
    refine sm_icmp_le (off := 6) 12 15 (by decide +kernel) (by decide) rfl (fun q13 => ?_) (fun q13 => ?_)
    · have hf := hf.1 q13
      refine sm_aload_n (k := 0) 16 0 (by decide +kernel) rfl rfl rfl ?_
      refine sm_iconst (i := 0) (x := 0) 17 (by decide +kernel) rfl rfl ?_
      obtain ⟨h2, eh2, hf⟩ := hf
      refine sm_put (ty := .int) 20 (by decide +kernel) fp_M_79 (fun _ => rfl) rfl rfl eh2 rfl ?_
      refine sm_aload_n (k := 0) 21 0 (by decide +kernel) rfl rfl rfl ?_
      refine sm_iconst (i := 0) (x := 0) 22 (by decide +kernel) rfl rfl ?_
      obtain ⟨h3, eh3, hf⟩ := hf
      refine sm_put (ty := .int) 25 (by decide +kernel) fp_M_94 (fun _ => rfl) rfl rfl eh3 rfl ?_
      refine sm_aload_n (k := 0) 26 0 (by decide +kernel) rfl rfl rfl ?_
      refine sm_sipush (i := 10000) (x := 10000) 29 (by decide +kernel) (by decide) rfl ?_
      refine sm_iload_n (k := 1) 30 1 (by decide +kernel) rfl rfl rfl ?_
      refine sm_callV (M2 := mm_M_load) (av := [.int 10000, .int x1]) (rest := []) 33 (by decide +kernel) ml_M_140 (Nat.le_refl _) rfl rfl (by first | exact Nat.le_of_ble_eq_true rfl | simp [sm_rfc, Value.category]) rfl hf ?_
      rintro r5 h4 ⟨z6, rfl, hf⟩
      change sm_W N (d + 1) mm_M_change 33 [(0, .ref x0), (1, .int x1)] [.int z6] h4 Q
      refine sm_istore_n (k := 2) 34 [(2, .int z6), (0, .ref x0), (1, .int x1)] (by decide +kernel) rfl (by decide) (by first | rfl | simp [sm_rfc]) rfl ?_
      refine sm_aload_n (k := 0) 35 1 (by decide +kernel) rfl rfl rfl ?_
      refine sm_iconst (i := 0) (x := 0) 36 (by decide +kernel) rfl rfl ?_
      obtain ⟨h7, eh7, hf⟩ := hf
      refine sm_put (ty := .boolean) 39 (by decide +kernel) fp_M_204 (fun _ => rfl) rfl rfl eh7 rfl ?_
      refine sm_iload_n (k := 2) 40 0 (by decide +kernel) rfl rfl rfl ?_
      refine sm_if_ge (off := 5) 43 45 (by decide +kernel) (by decide) rfl (fun q12 => ?_) (fun q12 => ?_)
      · have hf := hf.1 q12
        refine sm_aload_n (k := 0) 46 1 (by decide +kernel) rfl rfl rfl ?_
        refine sm_iload_n (k := 2) 47 0 (by decide +kernel) rfl rfl rfl ?_
        refine sm_callV (M2 := mm_M_look) (av := [.int z6]) (rest := []) 50 (by decide +kernel) ml_M_208 (Nat.le_refl _) rfl rfl (by first | exact Nat.le_of_ble_eq_true rfl | simp [sm_rfc, Value.category]) rfl hf ?_
        rintro r9 h8 ⟨z10, rfl, hf⟩
        change sm_W N (d + 1) mm_M_change 50 [(2, .int z6), (0, .ref x0), (1, .int x1)] [.int z10] h8 Q
        refine sm_istore_n (k := 3) 51 [(3, .int z10), (2, .int z6), (0, .ref x0), (1, .int x1)] (by decide +kernel) rfl (by decide) (by first | rfl | simp [sm_rfc]) rfl ?_
        refine sm_iload_n (k := 3) 52 0 (by decide +kernel) rfl rfl rfl ?_
        refine sm_if_le (off := 8) 55 60 (by decide +kernel) (by decide) rfl (fun q11 => ?_) (fun q11 => ?_)
        · have hf := hf.1 q11
          refine sm_iconst (i := 0) (x := 0) 61 (by decide +kernel) rfl rfl ?_
          refine sm_istore (i := 4) 63 [(4, .int 0), (3, .int z10), (2, .int z6), (0, .ref x0), (1, .int x1)] (by decide +kernel) (by decide) (by first | rfl | simp [sm_rfc]) rfl ?_
          exact sm_sub [3, 4, 2, 0] rfl hf
        · have hf := hf.2 q11
          refine sm_iload_n (k := 3) 56 0 (by decide +kernel) rfl rfl rfl ?_
          refine sm_bipush (i := 10) (x := 10) 58 (by decide +kernel) (by decide) rfl ?_
          refine sm_isub 59 (by decide +kernel) rfl ?_
          exact sm_iret rfl (by decide +kernel) hf
      · have hf := hf.2 q12
        refine sm_iconst (i := -1) (x := (-1)) 44 (by decide +kernel) rfl rfl ?_
        exact sm_iret rfl (by decide +kernel) hf
    · have hf := hf.2 q13
      refine sm_bipush (i := -2) (x := (-2)) 14 (by decide +kernel) (by decide) rfl ?_
      exact sm_iret rfl (by decide +kernel) hf
def fM_change_63 (N d : Nat) (h : sm_H) (Q : Option Value → sm_H → Prop) (x0 : Nat) (x1 : Int32) (x2 : Int32) (x4 : Int32) : Prop := ((x1 ≤ x4 → ∃ h1, sm_p h x0 5 3 (.int 1) = some h1 ∧ ∃ z2 : Nat, sm_g h1 x0 5 13 = some (.ref z2) ∧ ∃ z3 : Int32, sm_gi h1 z2 1 x2 = some z3 ∧ sm_W N (d + 1) mm_M_change 113 [(0, .ref x0), (4, .int 0), (5, .int z3)] [] h1 Q) ∧ (¬ x1 ≤ x4 → ∃ z4 : Nat, sm_g h x0 5 1 = some (.ref z4) ∧ ∃ z5 : Nat, sm_g h x0 5 1 = some (.ref z5) ∧ ∃ z6 : Int32, sm_gi h z5 0 (10000 + x4) = some z6 ∧ ∃ h7, sm_pb h z4 (8000 + x4) z6 = some h7 ∧ sm_W N (d + 1) mm_M_change 63 [(0, .ref x0), (1, .int x1), (2, .int x2), (4, .int (x4 + 1))] [] h7 Q))
set_option maxRecDepth 20000 in
set_option maxHeartbeats 4000000 in
theorem kM_change_63 {N d : Nat} {h : sm_H} {Q : Option Value → sm_H → Prop} {x0 : Nat} {x1 : Int32} {x2 : Int32} {x4 : Int32} (hf : fM_change_63 N d h Q x0 x1 x2 x4) : sm_W N (d + 1) mm_M_change 63 [(0, .ref x0), (1, .int x1), (2, .int x2), (4, .int x4)] [] h Q := by
  unfold fM_change_63 at hf
  refine sm_iload (i := 4) 65 3 (by decide +kernel) rfl rfl ?_
  refine sm_iload_n (k := 1) 66 1 (by decide +kernel) rfl rfl rfl ?_
  refine sm_icmp_ge (off := 31) 69 97 (by decide +kernel) (by decide) rfl (fun q8 => ?_) (fun q8 => ?_)
  · have hf := hf.1 q8
    refine sm_aload_n (k := 0) 98 0 (by decide +kernel) rfl rfl rfl ?_
    refine sm_iconst (i := 1) (x := 1) 99 (by decide +kernel) rfl rfl ?_
    obtain ⟨h1, eh1, hf⟩ := hf
    refine sm_put (ty := .boolean) 102 (by decide +kernel) fp_M_204 (fun _ => rfl) rfl rfl eh1 rfl ?_
    refine sm_iconst (i := 0) (x := 0) 103 (by decide +kernel) rfl rfl ?_
    refine sm_istore (i := 4) 105 [(4, .int 0), (0, .ref x0), (1, .int x1), (2, .int x2)] (by decide +kernel) (by decide) (by first | rfl | simp [sm_rfc]) rfl ?_
    refine sm_aload_n (k := 0) 106 1 (by decide +kernel) rfl rfl rfl ?_
    obtain ⟨z2, ez2, hf⟩ := hf
    refine sm_get 109 (by decide +kernel) fl_M_40 ez2 rfl ?_
    refine sm_iload_n (k := 2) 110 3 (by decide +kernel) rfl rfl rfl ?_
    obtain ⟨z3, ez3, hf⟩ := hf
    refine sm_iald 111 (by decide +kernel) ez3 rfl ?_
    refine sm_istore (i := 5) 113 [(5, .int z3), (4, .int 0), (0, .ref x0), (1, .int x1), (2, .int x2)] (by decide +kernel) (by decide) (by first | rfl | simp [sm_rfc]) rfl ?_
    exact sm_sub [2, 1, 0] rfl hf
  · have hf := hf.2 q8
    refine sm_aload_n (k := 0) 70 0 (by decide +kernel) rfl rfl rfl ?_
    obtain ⟨z4, ez4, hf⟩ := hf
    refine sm_get 73 (by decide +kernel) fl_M_7 ez4 rfl ?_
    refine sm_sipush (i := 8000) (x := 8000) 76 (by decide +kernel) (by decide) rfl ?_
    refine sm_iload (i := 4) 78 3 (by decide +kernel) rfl rfl ?_
    refine sm_iadd 79 (by decide +kernel) rfl ?_
    refine sm_aload_n (k := 0) 80 0 (by decide +kernel) rfl rfl rfl ?_
    obtain ⟨z5, ez5, hf⟩ := hf
    refine sm_get 83 (by decide +kernel) fl_M_7 ez5 rfl ?_
    refine sm_sipush (i := 10000) (x := 10000) 86 (by decide +kernel) (by decide) rfl ?_
    refine sm_iload (i := 4) 88 3 (by decide +kernel) rfl rfl ?_
    refine sm_iadd 89 (by decide +kernel) rfl ?_
    obtain ⟨z6, ez6, hf⟩ := hf
    refine sm_bald 90 (by decide +kernel) ez6 rfl ?_
    obtain ⟨h7, eh7, hf⟩ := hf
    refine sm_bast 91 (by decide +kernel) eh7 rfl ?_
    refine sm_iinc (i := 4) (j := 3) (z := 1) (y := x4 + 1) 94 [(4, .int (x4 + 1)), (0, .ref x0), (1, .int x1), (2, .int x2)] (by decide +kernel) rfl (by rfl) (by decide) rfl rfl ?_
    refine sm_goto (off := -31) 63 (by decide +kernel) (by decide) ?_
    exact sm_sub [1, 2, 3, 0] rfl hf
def fM_change_113 (N d : Nat) (h : sm_H) (Q : Option Value → sm_H → Prop) (x0 : Nat) (x4 : Int32) (x5 : Int32) : Prop := ((x5 < 0 → Q (some (.int x4)) h) ∧ (¬ x5 < 0 → sm_V N d mm_M_countOf 5 x0 [.int x5] h (fun r2 h1 => ∃ z3 : Int32, r2 = some (.int z3) ∧ ∃ z4 : Nat, sm_g h1 x0 5 14 = some (.ref z4) ∧ ∃ z5 : Int32, sm_gi h1 z4 1 x5 = some z5 ∧ sm_W N (d + 1) mm_M_change 113 [(0, .ref x0), (4, .int (x4 + z3)), (5, .int z5)] [] h1 Q)))
set_option maxRecDepth 20000 in
set_option maxHeartbeats 4000000 in
theorem kM_change_113 {N d : Nat} {h : sm_H} {Q : Option Value → sm_H → Prop} {x0 : Nat} {x4 : Int32} {x5 : Int32} (hf : fM_change_113 N d h Q x0 x4 x5) : sm_W N (d + 1) mm_M_change 113 [(0, .ref x0), (4, .int x4), (5, .int x5)] [] h Q := by
  unfold fM_change_113 at hf
  refine sm_iload (i := 5) 115 2 (by decide +kernel) rfl rfl ?_
  refine sm_if_lt (off := 26) 118 141 (by decide +kernel) (by decide) rfl (fun q6 => ?_) (fun q6 => ?_)
  · have hf := hf.1 q6
    refine sm_iload (i := 4) 143 1 (by decide +kernel) rfl rfl ?_
    exact sm_iret rfl (by decide +kernel) hf
  · have hf := hf.2 q6
    refine sm_iload (i := 4) 120 1 (by decide +kernel) rfl rfl ?_
    refine sm_aload_n (k := 0) 121 0 (by decide +kernel) rfl rfl rfl ?_
    refine sm_iload (i := 5) 123 2 (by decide +kernel) rfl rfl ?_
    refine sm_callV (M2 := mm_M_countOf) (av := [.int x5]) (rest := [.int x4]) 126 (by decide +kernel) ml_M_126 (Nat.le_refl _) rfl rfl (by first | exact Nat.le_of_ble_eq_true rfl | simp [sm_rfc, Value.category]) rfl hf ?_
    rintro r2 h1 ⟨z3, rfl, hf⟩
    change sm_W N (d + 1) mm_M_change 126 [(0, .ref x0), (4, .int x4), (5, .int x5)] [.int z3, .int x4] h1 Q
    refine sm_iadd 127 (by decide +kernel) rfl ?_
    refine sm_istore (i := 4) 129 [(4, .int (x4 + z3)), (0, .ref x0), (5, .int x5)] (by decide +kernel) (by decide) (by first | rfl | simp [sm_rfc]) rfl ?_
    refine sm_aload_n (k := 0) 130 1 (by decide +kernel) rfl rfl rfl ?_
    obtain ⟨z4, ez4, hf⟩ := hf
    refine sm_get 133 (by decide +kernel) fl_M_43 ez4 rfl ?_
    refine sm_iload (i := 5) 135 2 (by decide +kernel) rfl rfl ?_
    obtain ⟨z5, ez5, hf⟩ := hf
    refine sm_iald 136 (by decide +kernel) ez5 rfl ?_
    refine sm_istore (i := 5) 138 [(5, .int z5), (4, .int (x4 + z3)), (0, .ref x0)] (by decide +kernel) (by decide) (by first | rfl | simp [sm_rfc]) rfl ?_
    refine sm_goto (off := -25) 113 (by decide +kernel) (by decide) ?_
    exact sm_sub [2, 1, 0] rfl hf
theorem cM_change {N d : Nat} {h : sm_H} {Q : Option Value → sm_H → Prop} {x0 : Nat} {x1 : Int32} (hb : ∃ fs, h[x0]? = some (.inr (5, fs))) (hf : fM_change_0 N d h Q x0 x1) : sm_V N (d + 1) mm_M_change 5 x0 [.int x1] h Q := ⟨hb, sm_meth (by decide +kernel) (fun _ => Nat.le_of_ble_eq_true rfl) (fun _ => rfl) (kM_change_0 hf)⟩
def fM_item_0 (N d : Nat) (h : sm_H) (Q : Option Value → sm_H → Prop) (x0 : Nat) (x1 : Int32) (x2 : Int32) : Prop := ∃ z1 : Nat, sm_g h x0 5 13 = some (.ref z1) ∧ ∃ z2 : Int32, sm_gi h z1 1 x1 = some z2 ∧ sm_W N (d + 1) mm_M_item 10 [(0, .ref x0), (2, .int x2), (3, .int z2), (4, .int 0)] [] h Q
set_option maxRecDepth 20000 in
set_option maxHeartbeats 4000000 in
theorem kM_item_0 {N d : Nat} {h : sm_H} {Q : Option Value → sm_H → Prop} {x0 : Nat} {x1 : Int32} {x2 : Int32} (hf : fM_item_0 N d h Q x0 x1 x2) : sm_W N (d + 1) mm_M_item 0 [(0, .ref x0), (1, .int x1), (2, .int x2)] [] h Q := by
  unfold fM_item_0 at hf
  refine sm_aload_n (k := 0) 1 0 (by decide +kernel) rfl rfl rfl ?_
  obtain ⟨z1, ez1, hf⟩ := hf
  refine sm_get 4 (by decide +kernel) fl_M_40 ez1 rfl ?_
  refine sm_iload_n (k := 1) 5 1 (by decide +kernel) rfl rfl rfl ?_
  obtain ⟨z2, ez2, hf⟩ := hf
  refine sm_iald 6 (by decide +kernel) ez2 rfl ?_
  refine sm_istore_n (k := 3) 7 [(3, .int z2), (0, .ref x0), (1, .int x1), (2, .int x2)] (by decide +kernel) rfl (by decide) (by first | rfl | simp [sm_rfc]) rfl ?_
  refine sm_iconst (i := 0) (x := 0) 8 (by decide +kernel) rfl rfl ?_
  refine sm_istore (i := 4) 10 [(4, .int 0), (3, .int z2), (0, .ref x0), (1, .int x1), (2, .int x2)] (by decide +kernel) (by decide) (by first | rfl | simp [sm_rfc]) rfl ?_
  exact sm_sub [2, 4, 1, 0] rfl hf
def fM_item_10 (N d : Nat) (h : sm_H) (Q : Option Value → sm_H → Prop) (x0 : Nat) (x2 : Int32) (x3 : Int32) (x4 : Int32) : Prop := ((x2 ≤ x4 → Q (some (.int x3)) h) ∧ (¬ x2 ≤ x4 → ((x3 < 0 → Q (some (.int x3)) h) ∧ (¬ x3 < 0 → ∃ z1 : Nat, sm_g h x0 5 14 = some (.ref z1) ∧ ∃ z2 : Int32, sm_gi h z1 1 x3 = some z2 ∧ sm_W N (d + 1) mm_M_item 10 [(0, .ref x0), (2, .int x2), (3, .int z2), (4, .int (x4 + 1))] [] h Q))))
set_option maxRecDepth 20000 in
set_option maxHeartbeats 4000000 in
theorem kM_item_10 {N d : Nat} {h : sm_H} {Q : Option Value → sm_H → Prop} {x0 : Nat} {x2 : Int32} {x3 : Int32} {x4 : Int32} (hf : fM_item_10 N d h Q x0 x2 x3 x4) : sm_W N (d + 1) mm_M_item 10 [(0, .ref x0), (2, .int x2), (3, .int x3), (4, .int x4)] [] h Q := by
  unfold fM_item_10 at hf
  refine sm_iload (i := 4) 12 3 (by decide +kernel) rfl rfl ?_
  refine sm_iload_n (k := 2) 13 1 (by decide +kernel) rfl rfl rfl ?_
  refine sm_icmp_ge (off := 20) 16 33 (by decide +kernel) (by decide) rfl (fun q4 => ?_) (fun q4 => ?_)
  · have hf := hf.1 q4
    refine sm_iload_n (k := 3) 34 2 (by decide +kernel) rfl rfl rfl ?_
    exact sm_iret rfl (by decide +kernel) hf
  · have hf := hf.2 q4
    refine sm_iload_n (k := 3) 17 2 (by decide +kernel) rfl rfl rfl ?_
    refine sm_if_lt (off := 16) 20 33 (by decide +kernel) (by decide) rfl (fun q3 => ?_) (fun q3 => ?_)
    · have hf := hf.1 q3
      refine sm_iload_n (k := 3) 34 2 (by decide +kernel) rfl rfl rfl ?_
      exact sm_iret rfl (by decide +kernel) hf
    · have hf := hf.2 q3
      refine sm_aload_n (k := 0) 21 0 (by decide +kernel) rfl rfl rfl ?_
      obtain ⟨z1, ez1, hf⟩ := hf
      refine sm_get 24 (by decide +kernel) fl_M_43 ez1 rfl ?_
      refine sm_iload_n (k := 3) 25 2 (by decide +kernel) rfl rfl rfl ?_
      obtain ⟨z2, ez2, hf⟩ := hf
      refine sm_iald 26 (by decide +kernel) ez2 rfl ?_
      refine sm_istore_n (k := 3) 27 [(3, .int z2), (0, .ref x0), (2, .int x2), (4, .int x4)] (by decide +kernel) rfl (by decide) (by first | rfl | simp [sm_rfc]) rfl ?_
      refine sm_iinc (i := 4) (j := 3) (z := 1) (y := x4 + 1) 30 [(4, .int (x4 + 1)), (3, .int z2), (0, .ref x0), (2, .int x2)] (by decide +kernel) rfl (by rfl) (by decide) rfl rfl ?_
      refine sm_goto (off := -20) 10 (by decide +kernel) (by decide) ?_
      exact sm_sub [2, 3, 1, 0] rfl hf
theorem cM_item {N d : Nat} {h : sm_H} {Q : Option Value → sm_H → Prop} {x0 : Nat} {x1 : Int32} {x2 : Int32} (hb : ∃ fs, h[x0]? = some (.inr (5, fs))) (hf : fM_item_0 N d h Q x0 x1 x2) : sm_V N (d + 1) mm_M_item 5 x0 [.int x1, .int x2] h Q := ⟨hb, sm_meth (by decide +kernel) (fun _ => Nat.le_of_ble_eq_true rfl) (fun _ => rfl) (kM_item_0 hf)⟩
def fM_meets_0 (N d : Nat) (h : sm_H) (Q : Option Value → sm_H → Prop) (x0 : Nat) (x1 : Int32) (x2 : Int32) : Prop := ∃ z1 : Nat, sm_g h x0 5 7 = some (.ref z1) ∧ ∃ z2 : Int32, sm_gi h z1 1 x1 = some z2 ∧ ((z2 = 3 → ∃ z13 : Nat, sm_g h x0 5 25 = some (.ref z13) ∧ ∃ z14 : Int32, sm_gi h z13 1 x2 = some z14 ∧ ∃ z15 : Nat, sm_g h x0 5 26 = some (.ref z15) ∧ ∃ z16 : Int32, sm_gi h z15 1 x2 = some z16 ∧ sm_V N d mm_M_named 5 x0 [.int x1, .int z14, .int z16] h (fun r18 h17 => ∃ z19 : Int32, r18 = some (.int z19) ∧ Q (some (.int z19)) h17)) ∧ (¬ z2 = 3 → ∃ z3 : Nat, sm_g h x0 5 7 = some (.ref z3) ∧ ∃ z4 : Int32, sm_gi h z3 1 x1 = some z4 ∧ ((z4 = 4 → ∃ z5 : Nat, sm_g h x0 5 25 = some (.ref z5) ∧ ∃ z6 : Int32, sm_gi h z5 1 x2 = some z6 ∧ ∃ z7 : Nat, sm_g h x0 5 26 = some (.ref z7) ∧ ∃ z8 : Int32, sm_gi h z7 1 x2 = some z8 ∧ sm_V N d mm_M_numberAt 5 x0 [.int z6, .int z8] h (fun r10 h9 => ∃ z11 : Int32, r10 = some (.int z11) ∧ sm_W N (d + 1) mm_M_meets 58 [(0, .ref x0), (1, .int x1)] [.int z11] h9 Q)) ∧ (¬ z4 = 4 → sm_W N (d + 1) mm_M_meets 58 [(0, .ref x0), (1, .int x1)] [.int (-1)] h Q))))
set_option maxRecDepth 20000 in
set_option maxHeartbeats 4000000 in
theorem kM_meets_0 {N d : Nat} {h : sm_H} {Q : Option Value → sm_H → Prop} {x0 : Nat} {x1 : Int32} {x2 : Int32} (hf : fM_meets_0 N d h Q x0 x1 x2) : sm_W N (d + 1) mm_M_meets 0 [(0, .ref x0), (1, .int x1), (2, .int x2)] [] h Q := by
  unfold fM_meets_0 at hf
  refine sm_aload_n (k := 0) 1 0 (by decide +kernel) rfl rfl rfl ?_
  obtain ⟨z1, ez1, hf⟩ := hf
  refine sm_get 4 (by decide +kernel) fl_M_20 ez1 rfl ?_
  refine sm_iload_n (k := 1) 5 1 (by decide +kernel) rfl rfl rfl ?_
  obtain ⟨z2, ez2, hf⟩ := hf
  refine sm_iald 6 (by decide +kernel) ez2 rfl ?_
  refine sm_iconst (i := 3) (x := 3) 7 (by decide +kernel) rfl rfl ?_
  refine sm_icmp_ne (off := 21) 10 28 (by decide +kernel) (by decide) rfl (fun q20 => ?_) (fun q20 => ?_)
  · have hf := hf.2 q20
    refine sm_aload_n (k := 0) 29 0 (by decide +kernel) rfl rfl rfl ?_
    obtain ⟨z3, ez3, hf⟩ := hf
    refine sm_get 32 (by decide +kernel) fl_M_20 ez3 rfl ?_
    refine sm_iload_n (k := 1) 33 1 (by decide +kernel) rfl rfl rfl ?_
    obtain ⟨z4, ez4, hf⟩ := hf
    refine sm_iald 34 (by decide +kernel) ez4 rfl ?_
    refine sm_iconst (i := 4) (x := 4) 35 (by decide +kernel) rfl rfl ?_
    refine sm_icmp_ne (off := 22) 38 57 (by decide +kernel) (by decide) rfl (fun q12 => ?_) (fun q12 => ?_)
    · have hf := hf.2 q12
      refine sm_iconst (i := -1) (x := (-1)) 58 (by decide +kernel) rfl rfl ?_
      exact sm_sub [0, 1] rfl hf
    · have hf := hf.1 q12
      refine sm_aload_n (k := 0) 39 0 (by decide +kernel) rfl rfl rfl ?_
      refine sm_aload_n (k := 0) 40 0 (by decide +kernel) rfl rfl rfl ?_
      obtain ⟨z5, ez5, hf⟩ := hf
      refine sm_get 43 (by decide +kernel) fl_M_64 ez5 rfl ?_
      refine sm_iload_n (k := 2) 44 2 (by decide +kernel) rfl rfl rfl ?_
      obtain ⟨z6, ez6, hf⟩ := hf
      refine sm_iald 45 (by decide +kernel) ez6 rfl ?_
      refine sm_aload_n (k := 0) 46 0 (by decide +kernel) rfl rfl rfl ?_
      obtain ⟨z7, ez7, hf⟩ := hf
      refine sm_get 49 (by decide +kernel) fl_M_67 ez7 rfl ?_
      refine sm_iload_n (k := 2) 50 2 (by decide +kernel) rfl rfl rfl ?_
      obtain ⟨z8, ez8, hf⟩ := hf
      refine sm_iald 51 (by decide +kernel) ez8 rfl ?_
      refine sm_callV (M2 := mm_M_numberAt) (av := [.int z6, .int z8]) (rest := []) 54 (by decide +kernel) ml_M_123 (Nat.le_refl _) rfl rfl (by first | exact Nat.le_of_ble_eq_true rfl | simp [sm_rfc, Value.category]) rfl hf ?_
      rintro r10 h9 ⟨z11, rfl, hf⟩
      change sm_W N (d + 1) mm_M_meets 54 [(0, .ref x0), (1, .int x1), (2, .int x2)] [.int z11] h9 Q
      refine sm_goto (off := 4) 58 (by decide +kernel) (by decide) ?_
      exact sm_sub [0, 1] rfl hf
  · have hf := hf.1 q20
    refine sm_aload_n (k := 0) 11 0 (by decide +kernel) rfl rfl rfl ?_
    refine sm_iload_n (k := 1) 12 1 (by decide +kernel) rfl rfl rfl ?_
    refine sm_aload_n (k := 0) 13 0 (by decide +kernel) rfl rfl rfl ?_
    obtain ⟨z13, ez13, hf⟩ := hf
    refine sm_get 16 (by decide +kernel) fl_M_64 ez13 rfl ?_
    refine sm_iload_n (k := 2) 17 2 (by decide +kernel) rfl rfl rfl ?_
    obtain ⟨z14, ez14, hf⟩ := hf
    refine sm_iald 18 (by decide +kernel) ez14 rfl ?_
    refine sm_aload_n (k := 0) 19 0 (by decide +kernel) rfl rfl rfl ?_
    obtain ⟨z15, ez15, hf⟩ := hf
    refine sm_get 22 (by decide +kernel) fl_M_67 ez15 rfl ?_
    refine sm_iload_n (k := 2) 23 2 (by decide +kernel) rfl rfl rfl ?_
    obtain ⟨z16, ez16, hf⟩ := hf
    refine sm_iald 24 (by decide +kernel) ez16 rfl ?_
    refine sm_callV (M2 := mm_M_named) (av := [.int x1, .int z14, .int z16]) (rest := []) 27 (by decide +kernel) ml_M_129 (Nat.le_refl _) rfl rfl (by first | exact Nat.le_of_ble_eq_true rfl | simp [sm_rfc, Value.category]) rfl hf ?_
    rintro r18 h17 ⟨z19, rfl, hf⟩
    change sm_W N (d + 1) mm_M_meets 27 [(0, .ref x0), (1, .int x1), (2, .int x2)] [.int z19] h17 Q
    exact sm_iret rfl (by decide +kernel) hf
def fM_meets_58 (N d : Nat) (h : sm_H) (Q : Option Value → sm_H → Prop) (x0 : Nat) (x1 : Int32) (y0 : Int32) : Prop := ((0 ≤ y0 → sm_V N d mm_M_item 5 x0 [.int x1, .int y0] h (fun r2 h1 => ∃ z3 : Int32, r2 = some (.int z3) ∧ Q (some (.int z3)) h1)) ∧ (¬ 0 ≤ y0 → Q (some (.int (-1))) h))
set_option maxRecDepth 20000 in
set_option maxHeartbeats 4000000 in
theorem kM_meets_58 {N d : Nat} {h : sm_H} {Q : Option Value → sm_H → Prop} {x0 : Nat} {x1 : Int32} {y0 : Int32} (hf : fM_meets_58 N d h Q x0 x1 y0) : sm_W N (d + 1) mm_M_meets 58 [(0, .ref x0), (1, .int x1)] [.int y0] h Q := by
  unfold fM_meets_58 at hf
  refine sm_istore_n (k := 3) 59 [(3, .int y0), (0, .ref x0), (1, .int x1)] (by decide +kernel) rfl (by decide) (by first | rfl | simp [sm_rfc]) rfl ?_
  refine sm_iload_n (k := 3) 60 0 (by decide +kernel) rfl rfl rfl ?_
  refine sm_if_ge (off := 7) 63 67 (by decide +kernel) (by decide) rfl (fun q4 => ?_) (fun q4 => ?_)
  · have hf := hf.1 q4
    refine sm_aload_n (k := 0) 68 1 (by decide +kernel) rfl rfl rfl ?_
    refine sm_iload_n (k := 1) 69 2 (by decide +kernel) rfl rfl rfl ?_
    refine sm_iload_n (k := 3) 70 0 (by decide +kernel) rfl rfl rfl ?_
    refine sm_callV (M2 := mm_M_item) (av := [.int x1, .int y0]) (rest := []) 73 (by decide +kernel) ml_M_211 (Nat.le_refl _) rfl rfl (by first | exact Nat.le_of_ble_eq_true rfl | simp [sm_rfc, Value.category]) rfl hf ?_
    rintro r2 h1 ⟨z3, rfl, hf⟩
    change sm_W N (d + 1) mm_M_meets 73 [(3, .int y0), (0, .ref x0), (1, .int x1)] [.int z3] h1 Q
    exact sm_iret rfl (by decide +kernel) hf
  · have hf := hf.2 q4
    refine sm_iconst (i := -1) (x := (-1)) 64 (by decide +kernel) rfl rfl ?_
    refine sm_goto (off := 9) 73 (by decide +kernel) (by decide) ?_
    exact sm_iret rfl (by decide +kernel) hf
theorem cM_meets {N d : Nat} {h : sm_H} {Q : Option Value → sm_H → Prop} {x0 : Nat} {x1 : Int32} {x2 : Int32} (hb : ∃ fs, h[x0]? = some (.inr (5, fs))) (hf : fM_meets_0 N d h Q x0 x1 x2) : sm_V N (d + 1) mm_M_meets 5 x0 [.int x1, .int x2] h Q := ⟨hb, sm_meth (by decide +kernel) (fun _ => Nat.le_of_ble_eq_true rfl) (fun _ => rfl) (kM_meets_0 hf)⟩
def fM_mayGo_0 (N d : Nat) (h : sm_H) (Q : Option Value → sm_H → Prop) (x0 : Nat) (x1 : Int32) (x2 : Int32) : Prop := ∃ z1 : Nat, sm_g h x0 5 7 = some (.ref z1) ∧ ∃ z2 : Int32, sm_gi h z1 1 x1 = some z2 ∧ ((z2 = 4 → ∃ z3 : Nat, sm_g h x0 5 25 = some (.ref z3) ∧ ∃ z4 : Int32, sm_gi h z3 1 x2 = some z4 ∧ ∃ z5 : Nat, sm_g h x0 5 26 = some (.ref z5) ∧ ∃ z6 : Int32, sm_gi h z5 1 x2 = some z6 ∧ sm_V N d mm_M_numberAt 5 x0 [.int z4, .int z6] h (fun r8 h7 => ∃ z9 : Int32, r8 = some (.int z9) ∧ ((z9 < 0 → Q (some (.int 0)) h7) ∧ (¬ z9 < 0 → sm_V N d mm_M_countOf 5 x0 [.int x1] h7 (fun r11 h10 => ∃ z12 : Int32, r11 = some (.int z12) ∧ ((z12 < z9 → Q (some (.int 0)) h10) ∧ (¬ z12 < z9 → Q (some (.int 1)) h10))))))) ∧ (¬ z2 = 4 → ∃ z15 : Nat, sm_g h x0 5 7 = some (.ref z15) ∧ ∃ z16 : Int32, sm_gi h z15 1 x1 = some z16 ∧ ((z16 = 3 → Q (some (.int 1)) h) ∧ (¬ z16 = 3 → Q (some (.int 0)) h))))
set_option maxRecDepth 20000 in
set_option maxHeartbeats 4000000 in
theorem kM_mayGo_0 {N d : Nat} {h : sm_H} {Q : Option Value → sm_H → Prop} {x0 : Nat} {x1 : Int32} {x2 : Int32} (hf : fM_mayGo_0 N d h Q x0 x1 x2) : sm_W N (d + 1) mm_M_mayGo 0 [(0, .ref x0), (1, .int x1), (2, .int x2)] [] h Q := by
  unfold fM_mayGo_0 at hf
  refine sm_aload_n (k := 0) 1 0 (by decide +kernel) rfl rfl rfl ?_
  obtain ⟨z1, ez1, hf⟩ := hf
  refine sm_get 4 (by decide +kernel) fl_M_20 ez1 rfl ?_
  refine sm_iload_n (k := 1) 5 1 (by decide +kernel) rfl rfl rfl ?_
  obtain ⟨z2, ez2, hf⟩ := hf
  refine sm_iald 6 (by decide +kernel) ez2 rfl ?_
  refine sm_iconst (i := 4) (x := 4) 7 (by decide +kernel) rfl rfl ?_
  refine sm_icmp_eq (off := 19) 10 26 (by decide +kernel) (by decide) rfl (fun q18 => ?_) (fun q18 => ?_)
  · have hf := hf.1 q18
    refine sm_aload_n (k := 0) 27 0 (by decide +kernel) rfl rfl rfl ?_
    refine sm_aload_n (k := 0) 28 0 (by decide +kernel) rfl rfl rfl ?_
    obtain ⟨z3, ez3, hf⟩ := hf
    refine sm_get 31 (by decide +kernel) fl_M_64 ez3 rfl ?_
    refine sm_iload_n (k := 2) 32 2 (by decide +kernel) rfl rfl rfl ?_
    obtain ⟨z4, ez4, hf⟩ := hf
    refine sm_iald 33 (by decide +kernel) ez4 rfl ?_
    refine sm_aload_n (k := 0) 34 0 (by decide +kernel) rfl rfl rfl ?_
    obtain ⟨z5, ez5, hf⟩ := hf
    refine sm_get 37 (by decide +kernel) fl_M_67 ez5 rfl ?_
    refine sm_iload_n (k := 2) 38 2 (by decide +kernel) rfl rfl rfl ?_
    obtain ⟨z6, ez6, hf⟩ := hf
    refine sm_iald 39 (by decide +kernel) ez6 rfl ?_
    refine sm_callV (M2 := mm_M_numberAt) (av := [.int z4, .int z6]) (rest := []) 42 (by decide +kernel) ml_M_123 (Nat.le_refl _) rfl rfl (by first | exact Nat.le_of_ble_eq_true rfl | simp [sm_rfc, Value.category]) rfl hf ?_
    rintro r8 h7 ⟨z9, rfl, hf⟩
    change sm_W N (d + 1) mm_M_mayGo 42 [(0, .ref x0), (1, .int x1), (2, .int x2)] [.int z9] h7 Q
    refine sm_istore_n (k := 3) 43 [(3, .int z9), (0, .ref x0), (1, .int x1), (2, .int x2)] (by decide +kernel) rfl (by decide) (by first | rfl | simp [sm_rfc]) rfl ?_
    refine sm_iload_n (k := 3) 44 0 (by decide +kernel) rfl rfl rfl ?_
    refine sm_if_lt (off := 16) 47 60 (by decide +kernel) (by decide) rfl (fun q14 => ?_) (fun q14 => ?_)
    · have hf := hf.1 q14
      refine sm_iconst (i := 0) (x := 0) 61 (by decide +kernel) rfl rfl ?_
      exact sm_zret rfl (by decide +kernel) (by decide) hf
    · have hf := hf.2 q14
      refine sm_iload_n (k := 3) 48 0 (by decide +kernel) rfl rfl rfl ?_
      refine sm_aload_n (k := 0) 49 1 (by decide +kernel) rfl rfl rfl ?_
      refine sm_iload_n (k := 1) 50 2 (by decide +kernel) rfl rfl rfl ?_
      refine sm_callV (M2 := mm_M_countOf) (av := [.int x1]) (rest := [.int z9]) 53 (by decide +kernel) ml_M_126 (Nat.le_refl _) rfl rfl (by first | exact Nat.le_of_ble_eq_true rfl | simp [sm_rfc, Value.category]) rfl hf ?_
      rintro r11 h10 ⟨z12, rfl, hf⟩
      change sm_W N (d + 1) mm_M_mayGo 53 [(3, .int z9), (0, .ref x0), (1, .int x1), (2, .int x2)] [.int z12, .int z9] h10 Q
      refine sm_icmp_gt (off := 7) 56 60 (by decide +kernel) (by decide) rfl (fun q13 => ?_) (fun q13 => ?_)
      · have hf := hf.1 q13
        refine sm_iconst (i := 0) (x := 0) 61 (by decide +kernel) rfl rfl ?_
        exact sm_zret rfl (by decide +kernel) (by decide) hf
      · have hf := hf.2 q13
        refine sm_iconst (i := 1) (x := 1) 57 (by decide +kernel) rfl rfl ?_
        refine sm_goto (off := 4) 61 (by decide +kernel) (by decide) ?_
        exact sm_zret rfl (by decide +kernel) (by decide) hf
  · have hf := hf.2 q18
    refine sm_aload_n (k := 0) 11 0 (by decide +kernel) rfl rfl rfl ?_
    obtain ⟨z15, ez15, hf⟩ := hf
    refine sm_get 14 (by decide +kernel) fl_M_20 ez15 rfl ?_
    refine sm_iload_n (k := 1) 15 1 (by decide +kernel) rfl rfl rfl ?_
    obtain ⟨z16, ez16, hf⟩ := hf
    refine sm_iald 16 (by decide +kernel) ez16 rfl ?_
    refine sm_iconst (i := 3) (x := 3) 17 (by decide +kernel) rfl rfl ?_
    refine sm_icmp_ne (off := 7) 20 24 (by decide +kernel) (by decide) rfl (fun q17 => ?_) (fun q17 => ?_)
    · have hf := hf.2 q17
      refine sm_iconst (i := 0) (x := 0) 25 (by decide +kernel) rfl rfl ?_
      exact sm_zret rfl (by decide +kernel) (by decide) hf
    · have hf := hf.1 q17
      refine sm_iconst (i := 1) (x := 1) 21 (by decide +kernel) rfl rfl ?_
      refine sm_goto (off := 4) 25 (by decide +kernel) (by decide) ?_
      exact sm_zret rfl (by decide +kernel) (by decide) hf
theorem cM_mayGo {N d : Nat} {h : sm_H} {Q : Option Value → sm_H → Prop} {x0 : Nat} {x1 : Int32} {x2 : Int32} (hb : ∃ fs, h[x0]? = some (.inr (5, fs))) (hf : fM_mayGo_0 N d h Q x0 x1 x2) : sm_V N (d + 1) mm_M_mayGo 5 x0 [.int x1, .int x2] h Q := ⟨hb, sm_meth (by decide +kernel) (fun _ => Nat.le_of_ble_eq_true rfl) (fun _ => rfl) (kM_mayGo_0 hf)⟩
def fM_name_0 (N d : Nat) (h : sm_H) (Q : Option Value → sm_H → Prop) (x0 : Nat) (x1 : Int32) (x2 : Int32) : Prop := ∃ z1 : Nat, sm_g h x0 5 8 = some (.ref z1) ∧ ∃ z2 : Nat, sm_g h x0 5 25 = some (.ref z2) ∧ ∃ z3 : Int32, sm_gi h z2 1 x2 = some z3 ∧ ∃ h4, sm_pi h z1 x1 z3 = some h4 ∧ ∃ z5 : Nat, sm_g h4 x0 5 9 = some (.ref z5) ∧ ∃ z6 : Nat, sm_g h4 x0 5 26 = some (.ref z6) ∧ ∃ z7 : Int32, sm_gi h4 z6 1 x2 = some z7 ∧ ∃ h8, sm_pi h4 z5 x1 z7 = some h8 ∧ Q none h8
set_option maxRecDepth 20000 in
set_option maxHeartbeats 4000000 in
theorem kM_name_0 {N d : Nat} {h : sm_H} {Q : Option Value → sm_H → Prop} {x0 : Nat} {x1 : Int32} {x2 : Int32} (hf : fM_name_0 N d h Q x0 x1 x2) : sm_W N (d + 1) mm_M_name 0 [(0, .ref x0), (1, .int x1), (2, .int x2)] [] h Q := by
  unfold fM_name_0 at hf
  refine sm_aload_n (k := 0) 1 0 (by decide +kernel) rfl rfl rfl ?_
  obtain ⟨z1, ez1, hf⟩ := hf
  refine sm_get 4 (by decide +kernel) fl_M_24 ez1 rfl ?_
  refine sm_iload_n (k := 1) 5 1 (by decide +kernel) rfl rfl rfl ?_
  refine sm_aload_n (k := 0) 6 0 (by decide +kernel) rfl rfl rfl ?_
  obtain ⟨z2, ez2, hf⟩ := hf
  refine sm_get 9 (by decide +kernel) fl_M_64 ez2 rfl ?_
  refine sm_iload_n (k := 2) 10 2 (by decide +kernel) rfl rfl rfl ?_
  obtain ⟨z3, ez3, hf⟩ := hf
  refine sm_iald 11 (by decide +kernel) ez3 rfl ?_
  obtain ⟨h4, eh4, hf⟩ := hf
  refine sm_iast 12 (by decide +kernel) eh4 rfl ?_
  refine sm_aload_n (k := 0) 13 0 (by decide +kernel) rfl rfl rfl ?_
  obtain ⟨z5, ez5, hf⟩ := hf
  refine sm_get 16 (by decide +kernel) fl_M_27 ez5 rfl ?_
  refine sm_iload_n (k := 1) 17 1 (by decide +kernel) rfl rfl rfl ?_
  refine sm_aload_n (k := 0) 18 0 (by decide +kernel) rfl rfl rfl ?_
  obtain ⟨z6, ez6, hf⟩ := hf
  refine sm_get 21 (by decide +kernel) fl_M_67 ez6 rfl ?_
  refine sm_iload_n (k := 2) 22 2 (by decide +kernel) rfl rfl rfl ?_
  obtain ⟨z7, ez7, hf⟩ := hf
  refine sm_iald 23 (by decide +kernel) ez7 rfl ?_
  obtain ⟨h8, eh8, hf⟩ := hf
  refine sm_iast 24 (by decide +kernel) eh8 rfl ?_
  exact sm_vret rfl (by decide +kernel) hf
theorem cM_name {N d : Nat} {h : sm_H} {Q : Option Value → sm_H → Prop} {x0 : Nat} {x1 : Int32} {x2 : Int32} (hb : ∃ fs, h[x0]? = some (.inr (5, fs))) (hf : fM_name_0 N d h Q x0 x1 x2) : sm_V N (d + 1) mm_M_name 5 x0 [.int x1, .int x2] h Q := ⟨hb, sm_meth (by decide +kernel) (fun _ => Nat.le_of_ble_eq_true rfl) (fun _ => rfl) (kM_name_0 hf)⟩
def fM_goMaking_0 (N d : Nat) (h : sm_H) (Q : Option Value → sm_H → Prop) (x0 : Nat) (x1 : Int32) : Prop := sm_W N (d + 1) mm_M_goMaking 4 [(0, .ref x0), (2, .int x1), (3, .int 0)] [] h Q
set_option maxRecDepth 20000 in
set_option maxHeartbeats 4000000 in
theorem kM_goMaking_0 {N d : Nat} {h : sm_H} {Q : Option Value → sm_H → Prop} {x0 : Nat} {x1 : Int32} (hf : fM_goMaking_0 N d h Q x0 x1) : sm_W N (d + 1) mm_M_goMaking 0 [(0, .ref x0), (1, .int x1)] [] h Q := by
  unfold fM_goMaking_0 at hf
  refine sm_iload_n (k := 1) 1 1 (by decide +kernel) rfl rfl rfl ?_
  refine sm_istore_n (k := 2) 2 [(2, .int x1), (0, .ref x0), (1, .int x1)] (by decide +kernel) rfl (by decide) (by first | rfl | simp [sm_rfc]) rfl ?_
  refine sm_iconst (i := 0) (x := 0) 3 (by decide +kernel) rfl rfl ?_
  refine sm_istore_n (k := 3) 4 [(3, .int 0), (2, .int x1), (0, .ref x0), (1, .int x1)] (by decide +kernel) rfl (by decide) (by first | rfl | simp [sm_rfc]) rfl ?_
  exact sm_sub [2, 1, 0] rfl hf
def fM_goMaking_4 (N d : Nat) (h : sm_H) (Q : Option Value → sm_H → Prop) (x0 : Nat) (x2 : Int32) (x3 : Int32) : Prop := ∃ z1 : Int32, sm_g h x0 5 24 = some (.int z1) ∧ ((z1 ≤ x3 → Q (some (.int x2)) h) ∧ (¬ z1 ≤ x3 → sm_V N d mm_M_mayGo 5 x0 [.int x2, .int x3] h (fun r3 h2 => ∃ z4 : Int32, r3 = some (.int z4) ∧ ((z4 = 0 → Q (some (.int (-1))) h2) ∧ (¬ z4 = 0 → ∃ z5 : Int32, sm_g h2 x0 5 24 = some (.int z5) ∧ ((x3 = (z5 - 1) → Q (some (.int x2)) h2) ∧ (¬ x3 = (z5 - 1) → sm_V N d mm_M_meets 5 x0 [.int x2, .int x3] h2 (fun r7 h6 => ∃ z8 : Int32, r7 = some (.int z8) ∧ ((0 ≤ z8 → sm_W N (d + 1) mm_M_goMaking 69 [(0, .ref x0), (3, .int x3), (4, .int z8)] [] h6 Q) ∧ (¬ 0 ≤ z8 → sm_V N d mm_M_make 5 x0 [.int 3] h6 (fun r10 h9 => ∃ z11 : Int32, r10 = some (.int z11) ∧ sm_V N d mm_M_name 5 x0 [.int z11, .int x3] h9 (fun r13 h12 => r13 = none ∧ sm_V N d mm_M_append 5 x0 [.int x2, .int z11] h12 (fun r15 h14 => r15 = none ∧ sm_W N (d + 1) mm_M_goMaking 69 [(0, .ref x0), (3, .int x3), (4, .int z11)] [] h14 Q)))))))))))))
set_option maxRecDepth 20000 in
set_option maxHeartbeats 4000000 in
theorem kM_goMaking_4 {N d : Nat} {h : sm_H} {Q : Option Value → sm_H → Prop} {x0 : Nat} {x2 : Int32} {x3 : Int32} (hf : fM_goMaking_4 N d h Q x0 x2 x3) : sm_W N (d + 1) mm_M_goMaking 4 [(0, .ref x0), (2, .int x2), (3, .int x3)] [] h Q := by
  unfold fM_goMaking_4 at hf
  refine sm_iload_n (k := 3) 5 2 (by decide +kernel) rfl rfl rfl ?_
  refine sm_aload_n (k := 0) 6 0 (by decide +kernel) rfl rfl rfl ?_
  obtain ⟨z1, ez1, hf⟩ := hf
  refine sm_get 9 (by decide +kernel) fl_M_186 ez1 rfl ?_
  refine sm_icmp_ge (off := 69) 12 78 (by decide +kernel) (by decide) rfl (fun q19 => ?_) (fun q19 => ?_)
  · have hf := hf.1 q19
    refine sm_iload_n (k := 2) 79 1 (by decide +kernel) rfl rfl rfl ?_
    exact sm_iret rfl (by decide +kernel) hf
  · have hf := hf.2 q19
    refine sm_aload_n (k := 0) 13 0 (by decide +kernel) rfl rfl rfl ?_
    refine sm_iload_n (k := 2) 14 1 (by decide +kernel) rfl rfl rfl ?_
    refine sm_iload_n (k := 3) 15 2 (by decide +kernel) rfl rfl rfl ?_
    refine sm_callV (M2 := mm_M_mayGo) (av := [.int x2, .int x3]) (rest := []) 18 (by decide +kernel) ml_M_214 (Nat.le_refl _) rfl rfl (by first | exact Nat.le_of_ble_eq_true rfl | simp [sm_rfc, Value.category]) rfl hf ?_
    rintro r3 h2 ⟨z4, rfl, hf⟩
    change sm_W N (d + 1) mm_M_goMaking 18 [(0, .ref x0), (2, .int x2), (3, .int x3)] [.int z4] h2 Q
    refine sm_if_ne (off := 5) 21 23 (by decide +kernel) (by decide) rfl (fun q18 => ?_) (fun q18 => ?_)
    · have hf := hf.2 q18
      refine sm_iload_n (k := 3) 24 2 (by decide +kernel) rfl rfl rfl ?_
      refine sm_aload_n (k := 0) 25 0 (by decide +kernel) rfl rfl rfl ?_
      obtain ⟨z5, ez5, hf⟩ := hf
      refine sm_get 28 (by decide +kernel) fl_M_186 ez5 rfl ?_
      refine sm_iconst (i := 1) (x := 1) 29 (by decide +kernel) rfl rfl ?_
      refine sm_isub 30 (by decide +kernel) rfl ?_
      refine sm_icmp_ne (off := 5) 33 35 (by decide +kernel) (by decide) rfl (fun q17 => ?_) (fun q17 => ?_)
      · have hf := hf.2 q17
        refine sm_aload_n (k := 0) 36 0 (by decide +kernel) rfl rfl rfl ?_
        refine sm_iload_n (k := 2) 37 1 (by decide +kernel) rfl rfl rfl ?_
        refine sm_iload_n (k := 3) 38 2 (by decide +kernel) rfl rfl rfl ?_
        refine sm_callV (M2 := mm_M_meets) (av := [.int x2, .int x3]) (rest := []) 41 (by decide +kernel) ml_M_217 (Nat.le_refl _) rfl rfl (by first | exact Nat.le_of_ble_eq_true rfl | simp [sm_rfc, Value.category]) rfl hf ?_
        rintro r7 h6 ⟨z8, rfl, hf⟩
        change sm_W N (d + 1) mm_M_goMaking 41 [(0, .ref x0), (2, .int x2), (3, .int x3)] [.int z8] h6 Q
        refine sm_istore (i := 4) 43 [(4, .int z8), (0, .ref x0), (2, .int x2), (3, .int x3)] (by decide +kernel) (by decide) (by first | rfl | simp [sm_rfc]) rfl ?_
        refine sm_iload (i := 4) 45 0 (by decide +kernel) rfl rfl ?_
        refine sm_if_ge (off := 24) 48 69 (by decide +kernel) (by decide) rfl (fun q16 => ?_) (fun q16 => ?_)
        · have hf := hf.1 q16
          exact sm_sub [1, 3, 0] rfl hf
        · have hf := hf.2 q16
          refine sm_aload_n (k := 0) 49 1 (by decide +kernel) rfl rfl rfl ?_
          refine sm_iconst (i := 3) (x := 3) 50 (by decide +kernel) rfl rfl ?_
          refine sm_callV (M2 := mm_M_make) (av := [.int 3]) (rest := []) 53 (by decide +kernel) ml_M_113 (Nat.le_refl _) rfl rfl (by first | exact Nat.le_of_ble_eq_true rfl | simp [sm_rfc, Value.category]) rfl hf ?_
          rintro r10 h9 ⟨z11, rfl, hf⟩
          change sm_W N (d + 1) mm_M_goMaking 53 [(4, .int z8), (0, .ref x0), (2, .int x2), (3, .int x3)] [.int z11] h9 Q
          refine sm_istore (i := 4) 55 [(4, .int z11), (0, .ref x0), (2, .int x2), (3, .int x3)] (by decide +kernel) (by decide) (by first | rfl | simp [sm_rfc]) rfl ?_
          refine sm_aload_n (k := 0) 56 1 (by decide +kernel) rfl rfl rfl ?_
          refine sm_iload (i := 4) 58 0 (by decide +kernel) rfl rfl ?_
          refine sm_iload_n (k := 3) 59 3 (by decide +kernel) rfl rfl rfl ?_
          refine sm_callV (M2 := mm_M_name) (av := [.int z11, .int x3]) (rest := []) 62 (by decide +kernel) ml_M_220 (Nat.le_refl _) rfl rfl (by first | exact Nat.le_of_ble_eq_true rfl | simp [sm_rfc, Value.category]) rfl hf ?_
          rintro r13 h12 ⟨rfl, hf⟩
          change sm_W N (d + 1) mm_M_goMaking 62 [(4, .int z11), (0, .ref x0), (2, .int x2), (3, .int x3)] [] h12 Q
          refine sm_aload_n (k := 0) 63 1 (by decide +kernel) rfl rfl rfl ?_
          refine sm_iload_n (k := 2) 64 2 (by decide +kernel) rfl rfl rfl ?_
          refine sm_iload (i := 4) 66 0 (by decide +kernel) rfl rfl ?_
          refine sm_callV (M2 := mm_M_append) (av := [.int x2, .int z11]) (rest := []) 69 (by decide +kernel) ml_M_133 (Nat.le_refl _) rfl rfl (by first | exact Nat.le_of_ble_eq_true rfl | simp [sm_rfc, Value.category]) rfl hf ?_
          rintro r15 h14 ⟨rfl, hf⟩
          change sm_W N (d + 1) mm_M_goMaking 69 [(4, .int z11), (0, .ref x0), (2, .int x2), (3, .int x3)] [] h14 Q
          exact sm_sub [1, 3, 0] rfl hf
      · have hf := hf.1 q17
        refine sm_iload_n (k := 2) 34 1 (by decide +kernel) rfl rfl rfl ?_
        exact sm_iret rfl (by decide +kernel) hf
    · have hf := hf.1 q18
      refine sm_iconst (i := -1) (x := (-1)) 22 (by decide +kernel) rfl rfl ?_
      exact sm_iret rfl (by decide +kernel) hf
def fM_goMaking_69 (N d : Nat) (h : sm_H) (Q : Option Value → sm_H → Prop) (x0 : Nat) (x3 : Int32) (x4 : Int32) : Prop := sm_W N (d + 1) mm_M_goMaking 4 [(0, .ref x0), (2, .int x4), (3, .int (x3 + 1))] [] h Q
set_option maxRecDepth 20000 in
set_option maxHeartbeats 4000000 in
theorem kM_goMaking_69 {N d : Nat} {h : sm_H} {Q : Option Value → sm_H → Prop} {x0 : Nat} {x3 : Int32} {x4 : Int32} (hf : fM_goMaking_69 N d h Q x0 x3 x4) : sm_W N (d + 1) mm_M_goMaking 69 [(0, .ref x0), (3, .int x3), (4, .int x4)] [] h Q := by
  unfold fM_goMaking_69 at hf
  refine sm_iload (i := 4) 71 2 (by decide +kernel) rfl rfl ?_
  refine sm_istore_n (k := 2) 72 [(2, .int x4), (0, .ref x0), (3, .int x3), (4, .int x4)] (by decide +kernel) rfl (by decide) (by first | rfl | simp [sm_rfc]) rfl ?_
  refine sm_iinc (i := 3) (j := 2) (z := 1) (y := x3 + 1) 75 [(3, .int (x3 + 1)), (2, .int x4), (0, .ref x0), (4, .int x4)] (by decide +kernel) rfl (by rfl) (by decide) rfl rfl ?_
  refine sm_goto (off := -71) 4 (by decide +kernel) (by decide) ?_
  exact sm_sub [2, 1, 0] rfl hf
theorem cM_goMaking {N d : Nat} {h : sm_H} {Q : Option Value → sm_H → Prop} {x0 : Nat} {x1 : Int32} (hb : ∃ fs, h[x0]? = some (.inr (5, fs))) (hf : fM_goMaking_0 N d h Q x0 x1) : sm_V N (d + 1) mm_M_goMaking 5 x0 [.int x1] h Q := ⟨hb, sm_meth (by decide +kernel) (fun _ => Nat.le_of_ble_eq_true rfl) (fun _ => rfl) (kM_goMaking_0 hf)⟩
def fM_replace_0 (N d : Nat) (h : sm_H) (Q : Option Value → sm_H → Prop) (x0 : Nat) (x1 : Int32) (x2 : Int32) (x3 : Int32) : Prop := ∃ z1 : Nat, sm_g h x0 5 8 = some (.ref z1) ∧ ∃ z2 : Nat, sm_g h x0 5 8 = some (.ref z2) ∧ ∃ z3 : Int32, sm_gi h z2 1 x2 = some z3 ∧ ∃ h4, sm_pi h z1 x3 z3 = some h4 ∧ ∃ z5 : Nat, sm_g h4 x0 5 9 = some (.ref z5) ∧ ∃ z6 : Nat, sm_g h4 x0 5 9 = some (.ref z6) ∧ ∃ z7 : Int32, sm_gi h4 z6 1 x2 = some z7 ∧ ∃ h8, sm_pi h4 z5 x3 z7 = some h8 ∧ ∃ z9 : Nat, sm_g h8 x0 5 14 = some (.ref z9) ∧ ∃ z10 : Nat, sm_g h8 x0 5 14 = some (.ref z10) ∧ ∃ z11 : Int32, sm_gi h8 z10 1 x2 = some z11 ∧ ∃ h12, sm_pi h8 z9 x3 z11 = some h12 ∧ ∃ z13 : Nat, sm_g h12 x0 5 13 = some (.ref z13) ∧ ∃ z14 : Int32, sm_gi h12 z13 1 x1 = some z14 ∧ sm_W N (d + 1) mm_M_replace 47 [(0, .ref x0), (1, .int x1), (2, .int x2), (3, .int x3), (4, .int (-1)), (5, .int z14)] [] h12 Q
set_option maxRecDepth 20000 in
set_option maxHeartbeats 4000000 in
theorem kM_replace_0 {N d : Nat} {h : sm_H} {Q : Option Value → sm_H → Prop} {x0 : Nat} {x1 : Int32} {x2 : Int32} {x3 : Int32} (hf : fM_replace_0 N d h Q x0 x1 x2 x3) : sm_W N (d + 1) mm_M_replace 0 [(0, .ref x0), (1, .int x1), (2, .int x2), (3, .int x3)] [] h Q := by
  unfold fM_replace_0 at hf
  refine sm_aload_n (k := 0) 1 0 (by decide +kernel) rfl rfl rfl ?_
  obtain ⟨z1, ez1, hf⟩ := hf
  refine sm_get 4 (by decide +kernel) fl_M_24 ez1 rfl ?_
  refine sm_iload_n (k := 3) 5 3 (by decide +kernel) rfl rfl rfl ?_
  refine sm_aload_n (k := 0) 6 0 (by decide +kernel) rfl rfl rfl ?_
  obtain ⟨z2, ez2, hf⟩ := hf
  refine sm_get 9 (by decide +kernel) fl_M_24 ez2 rfl ?_
  refine sm_iload_n (k := 2) 10 2 (by decide +kernel) rfl rfl rfl ?_
  obtain ⟨z3, ez3, hf⟩ := hf
  refine sm_iald 11 (by decide +kernel) ez3 rfl ?_
  obtain ⟨h4, eh4, hf⟩ := hf
  refine sm_iast 12 (by decide +kernel) eh4 rfl ?_
  refine sm_aload_n (k := 0) 13 0 (by decide +kernel) rfl rfl rfl ?_
  obtain ⟨z5, ez5, hf⟩ := hf
  refine sm_get 16 (by decide +kernel) fl_M_27 ez5 rfl ?_
  refine sm_iload_n (k := 3) 17 3 (by decide +kernel) rfl rfl rfl ?_
  refine sm_aload_n (k := 0) 18 0 (by decide +kernel) rfl rfl rfl ?_
  obtain ⟨z6, ez6, hf⟩ := hf
  refine sm_get 21 (by decide +kernel) fl_M_27 ez6 rfl ?_
  refine sm_iload_n (k := 2) 22 2 (by decide +kernel) rfl rfl rfl ?_
  obtain ⟨z7, ez7, hf⟩ := hf
  refine sm_iald 23 (by decide +kernel) ez7 rfl ?_
  obtain ⟨h8, eh8, hf⟩ := hf
  refine sm_iast 24 (by decide +kernel) eh8 rfl ?_
  refine sm_aload_n (k := 0) 25 0 (by decide +kernel) rfl rfl rfl ?_
  obtain ⟨z9, ez9, hf⟩ := hf
  refine sm_get 28 (by decide +kernel) fl_M_43 ez9 rfl ?_
  refine sm_iload_n (k := 3) 29 3 (by decide +kernel) rfl rfl rfl ?_
  refine sm_aload_n (k := 0) 30 0 (by decide +kernel) rfl rfl rfl ?_
  obtain ⟨z10, ez10, hf⟩ := hf
  refine sm_get 33 (by decide +kernel) fl_M_43 ez10 rfl ?_
  refine sm_iload_n (k := 2) 34 2 (by decide +kernel) rfl rfl rfl ?_
  obtain ⟨z11, ez11, hf⟩ := hf
  refine sm_iald 35 (by decide +kernel) ez11 rfl ?_
  obtain ⟨h12, eh12, hf⟩ := hf
  refine sm_iast 36 (by decide +kernel) eh12 rfl ?_
  refine sm_iconst (i := -1) (x := (-1)) 37 (by decide +kernel) rfl rfl ?_
  refine sm_istore (i := 4) 39 [(4, .int (-1)), (0, .ref x0), (1, .int x1), (2, .int x2), (3, .int x3)] (by decide +kernel) (by decide) (by first | rfl | simp [sm_rfc]) rfl ?_
  refine sm_aload_n (k := 0) 40 1 (by decide +kernel) rfl rfl rfl ?_
  obtain ⟨z13, ez13, hf⟩ := hf
  refine sm_get 43 (by decide +kernel) fl_M_40 ez13 rfl ?_
  refine sm_iload_n (k := 1) 44 2 (by decide +kernel) rfl rfl rfl ?_
  obtain ⟨z14, ez14, hf⟩ := hf
  refine sm_iald 45 (by decide +kernel) ez14 rfl ?_
  refine sm_istore (i := 5) 47 [(5, .int z14), (4, .int (-1)), (0, .ref x0), (1, .int x1), (2, .int x2), (3, .int x3)] (by decide +kernel) (by decide) (by first | rfl | simp [sm_rfc]) rfl ?_
  exact sm_sub [2, 3, 4, 5, 1, 0] rfl hf
def fM_replace_47 (N d : Nat) (h : sm_H) (Q : Option Value → sm_H → Prop) (x0 : Nat) (x1 : Int32) (x2 : Int32) (x3 : Int32) (x4 : Int32) (x5 : Int32) : Prop := ((x5 = x2 → ((0 ≤ x4 → ∃ z1 : Nat, sm_g h x0 5 14 = some (.ref z1) ∧ ∃ h2, sm_pi h z1 x4 x3 = some h2 ∧ sm_W N (d + 1) mm_M_replace 92 [(0, .ref x0), (1, .int x1), (2, .int x2), (3, .int x3)] [] h2 Q) ∧ (¬ 0 ≤ x4 → ∃ z3 : Nat, sm_g h x0 5 13 = some (.ref z3) ∧ ∃ h4, sm_pi h z3 x1 x3 = some h4 ∧ sm_W N (d + 1) mm_M_replace 92 [(0, .ref x0), (1, .int x1), (2, .int x2), (3, .int x3)] [] h4 Q))) ∧ (¬ x5 = x2 → ∃ z6 : Nat, sm_g h x0 5 14 = some (.ref z6) ∧ ∃ z7 : Int32, sm_gi h z6 1 x5 = some z7 ∧ sm_W N (d + 1) mm_M_replace 47 [(0, .ref x0), (1, .int x1), (2, .int x2), (3, .int x3), (4, .int x5), (5, .int z7)] [] h Q))
set_option maxRecDepth 20000 in
set_option maxHeartbeats 4000000 in
theorem kM_replace_47 {N d : Nat} {h : sm_H} {Q : Option Value → sm_H → Prop} {x0 : Nat} {x1 : Int32} {x2 : Int32} {x3 : Int32} {x4 : Int32} {x5 : Int32} (hf : fM_replace_47 N d h Q x0 x1 x2 x3 x4 x5) : sm_W N (d + 1) mm_M_replace 47 [(0, .ref x0), (1, .int x1), (2, .int x2), (3, .int x3), (4, .int x4), (5, .int x5)] [] h Q := by
  unfold fM_replace_47 at hf
  refine sm_iload (i := 5) 49 5 (by decide +kernel) rfl rfl ?_
  refine sm_iload_n (k := 2) 50 2 (by decide +kernel) rfl rfl rfl ?_
  refine sm_icmp_eq (off := 19) 53 69 (by decide +kernel) (by decide) rfl (fun q8 => ?_) (fun q8 => ?_)
  · have hf := hf.1 q8
    refine sm_iload (i := 4) 71 4 (by decide +kernel) rfl rfl ?_
    refine sm_if_ge (off := 13) 74 84 (by decide +kernel) (by decide) rfl (fun q5 => ?_) (fun q5 => ?_)
    · have hf := hf.1 q5
      refine sm_aload_n (k := 0) 85 0 (by decide +kernel) rfl rfl rfl ?_
      obtain ⟨z1, ez1, hf⟩ := hf
      refine sm_get 88 (by decide +kernel) fl_M_43 ez1 rfl ?_
      refine sm_iload (i := 4) 90 4 (by decide +kernel) rfl rfl ?_
      refine sm_iload_n (k := 3) 91 3 (by decide +kernel) rfl rfl rfl ?_
      obtain ⟨h2, eh2, hf⟩ := hf
      refine sm_iast 92 (by decide +kernel) eh2 rfl ?_
      exact sm_sub [0, 1, 2, 3] rfl hf
    · have hf := hf.2 q5
      refine sm_aload_n (k := 0) 75 0 (by decide +kernel) rfl rfl rfl ?_
      obtain ⟨z3, ez3, hf⟩ := hf
      refine sm_get 78 (by decide +kernel) fl_M_40 ez3 rfl ?_
      refine sm_iload_n (k := 1) 79 1 (by decide +kernel) rfl rfl rfl ?_
      refine sm_iload_n (k := 3) 80 3 (by decide +kernel) rfl rfl rfl ?_
      obtain ⟨h4, eh4, hf⟩ := hf
      refine sm_iast 81 (by decide +kernel) eh4 rfl ?_
      refine sm_goto (off := 11) 92 (by decide +kernel) (by decide) ?_
      exact sm_sub [0, 1, 2, 3] rfl hf
  · have hf := hf.2 q8
    refine sm_iload (i := 5) 55 5 (by decide +kernel) rfl rfl ?_
    refine sm_istore (i := 4) 57 [(4, .int x5), (0, .ref x0), (1, .int x1), (2, .int x2), (3, .int x3), (5, .int x5)] (by decide +kernel) (by decide) (by first | rfl | simp [sm_rfc]) rfl ?_
    refine sm_aload_n (k := 0) 58 1 (by decide +kernel) rfl rfl rfl ?_
    obtain ⟨z6, ez6, hf⟩ := hf
    refine sm_get 61 (by decide +kernel) fl_M_43 ez6 rfl ?_
    refine sm_iload (i := 5) 63 5 (by decide +kernel) rfl rfl ?_
    obtain ⟨z7, ez7, hf⟩ := hf
    refine sm_iald 64 (by decide +kernel) ez7 rfl ?_
    refine sm_istore (i := 5) 66 [(5, .int z7), (4, .int x5), (0, .ref x0), (1, .int x1), (2, .int x2), (3, .int x3)] (by decide +kernel) (by decide) (by first | rfl | simp [sm_rfc]) rfl ?_
    refine sm_goto (off := -19) 47 (by decide +kernel) (by decide) ?_
    exact sm_sub [2, 3, 4, 5, 1, 0] rfl hf
def fM_replace_92 (N d : Nat) (h : sm_H) (Q : Option Value → sm_H → Prop) (x0 : Nat) (x1 : Int32) (x2 : Int32) (x3 : Int32) : Prop := ∃ z1 : Nat, sm_g h x0 5 15 = some (.ref z1) ∧ ∃ z2 : Int32, sm_gi h z1 1 x1 = some z2 ∧ ((z2 = x2 → ∃ z3 : Nat, sm_g h x0 5 15 = some (.ref z3) ∧ ∃ h4, sm_pi h z3 x1 x3 = some h4 ∧ Q none h4) ∧ (¬ z2 = x2 → Q none h))
set_option maxRecDepth 20000 in
set_option maxHeartbeats 4000000 in
theorem kM_replace_92 {N d : Nat} {h : sm_H} {Q : Option Value → sm_H → Prop} {x0 : Nat} {x1 : Int32} {x2 : Int32} {x3 : Int32} (hf : fM_replace_92 N d h Q x0 x1 x2 x3) : sm_W N (d + 1) mm_M_replace 92 [(0, .ref x0), (1, .int x1), (2, .int x2), (3, .int x3)] [] h Q := by
  unfold fM_replace_92 at hf
  refine sm_aload_n (k := 0) 93 0 (by decide +kernel) rfl rfl rfl ?_
  obtain ⟨z1, ez1, hf⟩ := hf
  refine sm_get 96 (by decide +kernel) fl_M_46 ez1 rfl ?_
  refine sm_iload_n (k := 1) 97 1 (by decide +kernel) rfl rfl rfl ?_
  obtain ⟨z2, ez2, hf⟩ := hf
  refine sm_iald 98 (by decide +kernel) ez2 rfl ?_
  refine sm_iload_n (k := 2) 99 2 (by decide +kernel) rfl rfl rfl ?_
  refine sm_icmp_ne (off := 10) 102 109 (by decide +kernel) (by decide) rfl (fun q5 => ?_) (fun q5 => ?_)
  · have hf := hf.2 q5
    exact sm_vret rfl (by decide +kernel) hf
  · have hf := hf.1 q5
    refine sm_aload_n (k := 0) 103 0 (by decide +kernel) rfl rfl rfl ?_
    obtain ⟨z3, ez3, hf⟩ := hf
    refine sm_get 106 (by decide +kernel) fl_M_46 ez3 rfl ?_
    refine sm_iload_n (k := 1) 107 1 (by decide +kernel) rfl rfl rfl ?_
    refine sm_iload_n (k := 3) 108 3 (by decide +kernel) rfl rfl rfl ?_
    obtain ⟨h4, eh4, hf⟩ := hf
    refine sm_iast 109 (by decide +kernel) eh4 rfl ?_
    exact sm_vret rfl (by decide +kernel) hf
theorem cM_replace {N d : Nat} {h : sm_H} {Q : Option Value → sm_H → Prop} {x0 : Nat} {x1 : Int32} {x2 : Int32} {x3 : Int32} (hb : ∃ fs, h[x0]? = some (.inr (5, fs))) (hf : fM_replace_0 N d h Q x0 x1 x2 x3) : sm_V N (d + 1) mm_M_replace 5 x0 [.int x1, .int x2, .int x3] h Q := ⟨hb, sm_meth (by decide +kernel) (fun _ => Nat.le_of_ble_eq_true rfl) (fun _ => rfl) (kM_replace_0 hf)⟩
def fM_remove_0 (N d : Nat) (h : sm_H) (Q : Option Value → sm_H → Prop) (x0 : Nat) (x1 : Int32) (x2 : Int32) : Prop := ∃ z1 : Nat, sm_g h x0 5 13 = some (.ref z1) ∧ ∃ z2 : Int32, sm_gi h z1 1 x1 = some z2 ∧ sm_W N (d + 1) mm_M_remove 10 [(0, .ref x0), (1, .int x1), (2, .int x2), (3, .int (-1)), (4, .int z2)] [] h Q
set_option maxRecDepth 20000 in
set_option maxHeartbeats 4000000 in
theorem kM_remove_0 {N d : Nat} {h : sm_H} {Q : Option Value → sm_H → Prop} {x0 : Nat} {x1 : Int32} {x2 : Int32} (hf : fM_remove_0 N d h Q x0 x1 x2) : sm_W N (d + 1) mm_M_remove 0 [(0, .ref x0), (1, .int x1), (2, .int x2)] [] h Q := by
  unfold fM_remove_0 at hf
  refine sm_iconst (i := -1) (x := (-1)) 1 (by decide +kernel) rfl rfl ?_
  refine sm_istore_n (k := 3) 2 [(3, .int (-1)), (0, .ref x0), (1, .int x1), (2, .int x2)] (by decide +kernel) rfl (by decide) (by first | rfl | simp [sm_rfc]) rfl ?_
  refine sm_aload_n (k := 0) 3 1 (by decide +kernel) rfl rfl rfl ?_
  obtain ⟨z1, ez1, hf⟩ := hf
  refine sm_get 6 (by decide +kernel) fl_M_40 ez1 rfl ?_
  refine sm_iload_n (k := 1) 7 2 (by decide +kernel) rfl rfl rfl ?_
  obtain ⟨z2, ez2, hf⟩ := hf
  refine sm_iald 8 (by decide +kernel) ez2 rfl ?_
  refine sm_istore (i := 4) 10 [(4, .int z2), (3, .int (-1)), (0, .ref x0), (1, .int x1), (2, .int x2)] (by decide +kernel) (by decide) (by first | rfl | simp [sm_rfc]) rfl ?_
  exact sm_sub [2, 3, 4, 1, 0] rfl hf
def fM_remove_10 (N d : Nat) (h : sm_H) (Q : Option Value → sm_H → Prop) (x0 : Nat) (x1 : Int32) (x2 : Int32) (x3 : Int32) (x4 : Int32) : Prop := ((x4 = x2 → ((0 ≤ x3 → ∃ z1 : Nat, sm_g h x0 5 14 = some (.ref z1) ∧ ∃ z2 : Nat, sm_g h x0 5 14 = some (.ref z2) ∧ ∃ z3 : Int32, sm_gi h z2 1 x2 = some z3 ∧ ∃ h4, sm_pi h z1 x3 z3 = some h4 ∧ sm_W N (d + 1) mm_M_remove 62 [(0, .ref x0), (1, .int x1), (2, .int x2), (3, .int x3)] [] h4 Q) ∧ (¬ 0 ≤ x3 → ∃ z5 : Nat, sm_g h x0 5 13 = some (.ref z5) ∧ ∃ z6 : Nat, sm_g h x0 5 14 = some (.ref z6) ∧ ∃ z7 : Int32, sm_gi h z6 1 x2 = some z7 ∧ ∃ h8, sm_pi h z5 x1 z7 = some h8 ∧ sm_W N (d + 1) mm_M_remove 62 [(0, .ref x0), (1, .int x1), (2, .int x2), (3, .int x3)] [] h8 Q))) ∧ (¬ x4 = x2 → ∃ z10 : Nat, sm_g h x0 5 14 = some (.ref z10) ∧ ∃ z11 : Int32, sm_gi h z10 1 x4 = some z11 ∧ sm_W N (d + 1) mm_M_remove 10 [(0, .ref x0), (1, .int x1), (2, .int x2), (3, .int x4), (4, .int z11)] [] h Q))
set_option maxRecDepth 20000 in
set_option maxHeartbeats 4000000 in
theorem kM_remove_10 {N d : Nat} {h : sm_H} {Q : Option Value → sm_H → Prop} {x0 : Nat} {x1 : Int32} {x2 : Int32} {x3 : Int32} {x4 : Int32} (hf : fM_remove_10 N d h Q x0 x1 x2 x3 x4) : sm_W N (d + 1) mm_M_remove 10 [(0, .ref x0), (1, .int x1), (2, .int x2), (3, .int x3), (4, .int x4)] [] h Q := by
  unfold fM_remove_10 at hf
  refine sm_iload (i := 4) 12 4 (by decide +kernel) rfl rfl ?_
  refine sm_iload_n (k := 2) 13 2 (by decide +kernel) rfl rfl rfl ?_
  refine sm_icmp_eq (off := 18) 16 31 (by decide +kernel) (by decide) rfl (fun q12 => ?_) (fun q12 => ?_)
  · have hf := hf.1 q12
    refine sm_iload_n (k := 3) 32 3 (by decide +kernel) rfl rfl rfl ?_
    refine sm_if_ge (off := 18) 35 50 (by decide +kernel) (by decide) rfl (fun q9 => ?_) (fun q9 => ?_)
    · have hf := hf.1 q9
      refine sm_aload_n (k := 0) 51 0 (by decide +kernel) rfl rfl rfl ?_
      obtain ⟨z1, ez1, hf⟩ := hf
      refine sm_get 54 (by decide +kernel) fl_M_43 ez1 rfl ?_
      refine sm_iload_n (k := 3) 55 3 (by decide +kernel) rfl rfl rfl ?_
      refine sm_aload_n (k := 0) 56 0 (by decide +kernel) rfl rfl rfl ?_
      obtain ⟨z2, ez2, hf⟩ := hf
      refine sm_get 59 (by decide +kernel) fl_M_43 ez2 rfl ?_
      refine sm_iload_n (k := 2) 60 2 (by decide +kernel) rfl rfl rfl ?_
      obtain ⟨z3, ez3, hf⟩ := hf
      refine sm_iald 61 (by decide +kernel) ez3 rfl ?_
      obtain ⟨h4, eh4, hf⟩ := hf
      refine sm_iast 62 (by decide +kernel) eh4 rfl ?_
      exact sm_sub [0, 1, 2, 3] rfl hf
    · have hf := hf.2 q9
      refine sm_aload_n (k := 0) 36 0 (by decide +kernel) rfl rfl rfl ?_
      obtain ⟨z5, ez5, hf⟩ := hf
      refine sm_get 39 (by decide +kernel) fl_M_40 ez5 rfl ?_
      refine sm_iload_n (k := 1) 40 1 (by decide +kernel) rfl rfl rfl ?_
      refine sm_aload_n (k := 0) 41 0 (by decide +kernel) rfl rfl rfl ?_
      obtain ⟨z6, ez6, hf⟩ := hf
      refine sm_get 44 (by decide +kernel) fl_M_43 ez6 rfl ?_
      refine sm_iload_n (k := 2) 45 2 (by decide +kernel) rfl rfl rfl ?_
      obtain ⟨z7, ez7, hf⟩ := hf
      refine sm_iald 46 (by decide +kernel) ez7 rfl ?_
      obtain ⟨h8, eh8, hf⟩ := hf
      refine sm_iast 47 (by decide +kernel) eh8 rfl ?_
      refine sm_goto (off := 15) 62 (by decide +kernel) (by decide) ?_
      exact sm_sub [0, 1, 2, 3] rfl hf
  · have hf := hf.2 q12
    refine sm_iload (i := 4) 18 4 (by decide +kernel) rfl rfl ?_
    refine sm_istore_n (k := 3) 19 [(3, .int x4), (0, .ref x0), (1, .int x1), (2, .int x2), (4, .int x4)] (by decide +kernel) rfl (by decide) (by first | rfl | simp [sm_rfc]) rfl ?_
    refine sm_aload_n (k := 0) 20 1 (by decide +kernel) rfl rfl rfl ?_
    obtain ⟨z10, ez10, hf⟩ := hf
    refine sm_get 23 (by decide +kernel) fl_M_43 ez10 rfl ?_
    refine sm_iload (i := 4) 25 4 (by decide +kernel) rfl rfl ?_
    obtain ⟨z11, ez11, hf⟩ := hf
    refine sm_iald 26 (by decide +kernel) ez11 rfl ?_
    refine sm_istore (i := 4) 28 [(4, .int z11), (3, .int x4), (0, .ref x0), (1, .int x1), (2, .int x2)] (by decide +kernel) (by decide) (by first | rfl | simp [sm_rfc]) rfl ?_
    refine sm_goto (off := -18) 10 (by decide +kernel) (by decide) ?_
    exact sm_sub [2, 3, 4, 1, 0] rfl hf
def fM_remove_62 (N d : Nat) (h : sm_H) (Q : Option Value → sm_H → Prop) (x0 : Nat) (x1 : Int32) (x2 : Int32) (x3 : Int32) : Prop := ∃ z1 : Nat, sm_g h x0 5 15 = some (.ref z1) ∧ ∃ z2 : Int32, sm_gi h z1 1 x1 = some z2 ∧ ((z2 = x2 → ∃ z3 : Nat, sm_g h x0 5 15 = some (.ref z3) ∧ ∃ h4, sm_pi h z3 x1 x3 = some h4 ∧ Q none h4) ∧ (¬ z2 = x2 → Q none h))
set_option maxRecDepth 20000 in
set_option maxHeartbeats 4000000 in
theorem kM_remove_62 {N d : Nat} {h : sm_H} {Q : Option Value → sm_H → Prop} {x0 : Nat} {x1 : Int32} {x2 : Int32} {x3 : Int32} (hf : fM_remove_62 N d h Q x0 x1 x2 x3) : sm_W N (d + 1) mm_M_remove 62 [(0, .ref x0), (1, .int x1), (2, .int x2), (3, .int x3)] [] h Q := by
  unfold fM_remove_62 at hf
  refine sm_aload_n (k := 0) 63 0 (by decide +kernel) rfl rfl rfl ?_
  obtain ⟨z1, ez1, hf⟩ := hf
  refine sm_get 66 (by decide +kernel) fl_M_46 ez1 rfl ?_
  refine sm_iload_n (k := 1) 67 1 (by decide +kernel) rfl rfl rfl ?_
  obtain ⟨z2, ez2, hf⟩ := hf
  refine sm_iald 68 (by decide +kernel) ez2 rfl ?_
  refine sm_iload_n (k := 2) 69 2 (by decide +kernel) rfl rfl rfl ?_
  refine sm_icmp_ne (off := 10) 72 79 (by decide +kernel) (by decide) rfl (fun q5 => ?_) (fun q5 => ?_)
  · have hf := hf.2 q5
    exact sm_vret rfl (by decide +kernel) hf
  · have hf := hf.1 q5
    refine sm_aload_n (k := 0) 73 0 (by decide +kernel) rfl rfl rfl ?_
    obtain ⟨z3, ez3, hf⟩ := hf
    refine sm_get 76 (by decide +kernel) fl_M_46 ez3 rfl ?_
    refine sm_iload_n (k := 1) 77 1 (by decide +kernel) rfl rfl rfl ?_
    refine sm_iload_n (k := 3) 78 3 (by decide +kernel) rfl rfl rfl ?_
    obtain ⟨h4, eh4, hf⟩ := hf
    refine sm_iast 79 (by decide +kernel) eh4 rfl ?_
    exact sm_vret rfl (by decide +kernel) hf
theorem cM_remove {N d : Nat} {h : sm_H} {Q : Option Value → sm_H → Prop} {x0 : Nat} {x1 : Int32} {x2 : Int32} (hb : ∃ fs, h[x0]? = some (.inr (5, fs))) (hf : fM_remove_0 N d h Q x0 x1 x2) : sm_V N (d + 1) mm_M_remove 5 x0 [.int x1, .int x2] h Q := ⟨hb, sm_meth (by decide +kernel) (fun _ => Nat.le_of_ble_eq_true rfl) (fun _ => rfl) (kM_remove_0 hf)⟩
def fM_isNumber_0 (N d : Nat) (h : sm_H) (Q : Option Value → sm_H → Prop) (x0 : Int32) : Prop := ((x0 = 16 → sm_W N (d + 1) mm_M_isNumber 12 [] [] h Q) ∧ (¬ x0 = 16 → ((x0 = 18 → sm_W N (d + 1) mm_M_isNumber 12 [] [] h Q) ∧ (¬ x0 = 18 → Q (some (.int 0)) h))))
set_option maxRecDepth 20000 in
set_option maxHeartbeats 4000000 in
theorem kM_isNumber_0 {N d : Nat} {h : sm_H} {Q : Option Value → sm_H → Prop} {x0 : Int32} (hf : fM_isNumber_0 N d h Q x0) : sm_W N (d + 1) mm_M_isNumber 0 [(0, .int x0)] [] h Q := by
  unfold fM_isNumber_0 at hf
  refine sm_iload_n (k := 0) 1 0 (by decide +kernel) rfl rfl rfl ?_
  refine sm_bipush (i := 16) (x := 16) 3 (by decide +kernel) (by decide) rfl ?_
  refine sm_icmp_eq (off := 9) 6 12 (by decide +kernel) (by decide) rfl (fun q2 => ?_) (fun q2 => ?_)
  · have hf := hf.1 q2
    exact sm_sub [] rfl hf
  · have hf := hf.2 q2
    refine sm_iload_n (k := 0) 7 0 (by decide +kernel) rfl rfl rfl ?_
    refine sm_bipush (i := 18) (x := 18) 9 (by decide +kernel) (by decide) rfl ?_
    refine sm_icmp_ne (off := 7) 12 16 (by decide +kernel) (by decide) rfl (fun q1 => ?_) (fun q1 => ?_)
    · have hf := hf.2 q1
      refine sm_iconst (i := 0) (x := 0) 17 (by decide +kernel) rfl rfl ?_
      exact sm_zret rfl (by decide +kernel) (by decide) hf
    · have hf := hf.1 q1
      exact sm_sub [] rfl hf
def fM_isNumber_12 (N d : Nat) (h : sm_H) (Q : Option Value → sm_H → Prop)  : Prop := Q (some (.int 1)) h
set_option maxRecDepth 20000 in
set_option maxHeartbeats 4000000 in
theorem kM_isNumber_12 {N d : Nat} {h : sm_H} {Q : Option Value → sm_H → Prop}  (hf : fM_isNumber_12 N d h Q ) : sm_W N (d + 1) mm_M_isNumber 12 [] [] h Q := by
  unfold fM_isNumber_12 at hf
  refine sm_iconst (i := 1) (x := 1) 13 (by decide +kernel) rfl rfl ?_
  refine sm_goto (off := 4) 17 (by decide +kernel) (by decide) ?_
  exact sm_zret rfl (by decide +kernel) (by decide) hf
theorem cM_isNumber {N d : Nat} {h : sm_H} {Q : Option Value → sm_H → Prop} {x0 : Int32} (hf : fM_isNumber_0 N d h Q x0) : sm_T N (d + 1) mm_M_isNumber [.int x0] h Q := sm_meth (by decide +kernel) (fun _ => Nat.le_of_ble_eq_true rfl) (fun _ => rfl) (kM_isNumber_0 hf)
def fM_add_0 (N d : Nat) (h : sm_H) (Q : Option Value → sm_H → Prop) (x0 : Nat) (x1 : Int32) (x2 : Int32) : Prop := ∃ z1 : Nat, sm_g h x0 5 10 = some (.ref z1) ∧ ∃ z2 : Int64, sm_gl h z1 2 x1 = some z2 ∧ ∃ z3 : Nat, sm_g h x0 5 10 = some (.ref z3) ∧ ∃ z4 : Int64, sm_gl h z3 2 x2 = some z4 ∧ (((lg_cmp z2 0) < 0 → sm_W N (d + 1) mm_M_add 32 [(0, .ref x0), (1, .int x1), (2, .int x2), (3, .long z2), (5, .long z4), (7, .long (z2 + z4))] [.int 0] h Q) ∧ (¬ (lg_cmp z2 0) < 0 → sm_W N (d + 1) mm_M_add 32 [(0, .ref x0), (1, .int x1), (2, .int x2), (3, .long z2), (5, .long z4), (7, .long (z2 + z4))] [.int 1] h Q))
set_option maxRecDepth 20000 in
set_option maxHeartbeats 4000000 in
theorem kM_add_0 {N d : Nat} {h : sm_H} {Q : Option Value → sm_H → Prop} {x0 : Nat} {x1 : Int32} {x2 : Int32} (hf : fM_add_0 N d h Q x0 x1 x2) : sm_W N (d + 1) mm_M_add 0 [(0, .ref x0), (1, .int x1), (2, .int x2)] [] h Q := by
  unfold fM_add_0 at hf
  refine sm_aload_n (k := 0) 1 0 (by decide +kernel) rfl rfl rfl ?_
  obtain ⟨z1, ez1, hf⟩ := hf
  refine sm_get 4 (by decide +kernel) fl_M_30 ez1 rfl ?_
  refine sm_iload_n (k := 1) 5 1 (by decide +kernel) rfl rfl rfl ?_
  obtain ⟨z2, ez2, hf⟩ := hf
  refine sm_lald 6 (by decide +kernel) ez2 rfl ?_
  refine sm_lstore_n (k := 3) 7 [(3, .long z2), (0, .ref x0), (1, .int x1), (2, .int x2)] (by decide +kernel) rfl (by decide) (by first | rfl | simp [sm_rfc]) rfl ?_
  refine sm_aload_n (k := 0) 8 1 (by decide +kernel) rfl rfl rfl ?_
  obtain ⟨z3, ez3, hf⟩ := hf
  refine sm_get 11 (by decide +kernel) fl_M_30 ez3 rfl ?_
  refine sm_iload_n (k := 2) 12 3 (by decide +kernel) rfl rfl rfl ?_
  obtain ⟨z4, ez4, hf⟩ := hf
  refine sm_lald 13 (by decide +kernel) ez4 rfl ?_
  refine sm_lstore (i := 5) 15 [(5, .long z4), (3, .long z2), (0, .ref x0), (1, .int x1), (2, .int x2)] (by decide +kernel) (by decide) (by first | rfl | simp [sm_rfc]) rfl ?_
  refine sm_lload_n (k := 3) 16 1 (by decide +kernel) rfl rfl rfl ?_
  refine sm_lload (i := 5) 18 0 (by decide +kernel) rfl rfl ?_
  refine sm_ladd 19 (by decide +kernel) rfl ?_
  refine sm_lstore (i := 7) 21 [(7, .long (z2 + z4)), (5, .long z4), (3, .long z2), (0, .ref x0), (1, .int x1), (2, .int x2)] (by decide +kernel) (by decide) (by first | rfl | simp [sm_rfc]) rfl ?_
  refine sm_lload_n (k := 3) 22 2 (by decide +kernel) rfl rfl rfl ?_
  refine sm_lconst (i := 0) (x := 0) 23 (by decide +kernel) rfl rfl ?_
  refine sm_lcmp 24 (by decide +kernel) rfl ?_
  refine sm_if_lt (off := 7) 27 31 (by decide +kernel) (by decide) rfl (fun q5 => ?_) (fun q5 => ?_)
  · have hf := hf.1 q5
    refine sm_iconst (i := 0) (x := 0) 32 (by decide +kernel) rfl rfl ?_
    exact sm_sub [3, 4, 5, 2, 1, 0] rfl hf
  · have hf := hf.2 q5
    refine sm_iconst (i := 1) (x := 1) 28 (by decide +kernel) rfl rfl ?_
    refine sm_goto (off := 4) 32 (by decide +kernel) (by decide) ?_
    exact sm_sub [3, 4, 5, 2, 1, 0] rfl hf
def fM_add_32 (N d : Nat) (h : sm_H) (Q : Option Value → sm_H → Prop) (x0 : Nat) (x1 : Int32) (x2 : Int32) (x3 : Int64) (x5 : Int64) (x7 : Int64) (y0 : Int32) : Prop := (((lg_cmp x5 0) < 0 → sm_W N (d + 1) mm_M_add 44 [(0, .ref x0), (1, .int x1), (2, .int x2), (3, .long x3), (7, .long x7)] [.int 0, .int y0] h Q) ∧ (¬ (lg_cmp x5 0) < 0 → sm_W N (d + 1) mm_M_add 44 [(0, .ref x0), (1, .int x1), (2, .int x2), (3, .long x3), (7, .long x7)] [.int 1, .int y0] h Q))
set_option maxRecDepth 20000 in
set_option maxHeartbeats 4000000 in
theorem kM_add_32 {N d : Nat} {h : sm_H} {Q : Option Value → sm_H → Prop} {x0 : Nat} {x1 : Int32} {x2 : Int32} {x3 : Int64} {x5 : Int64} {x7 : Int64} {y0 : Int32} (hf : fM_add_32 N d h Q x0 x1 x2 x3 x5 x7 y0) : sm_W N (d + 1) mm_M_add 32 [(0, .ref x0), (1, .int x1), (2, .int x2), (3, .long x3), (5, .long x5), (7, .long x7)] [.int y0] h Q := by
  unfold fM_add_32 at hf
  refine sm_lload (i := 5) 34 4 (by decide +kernel) rfl rfl ?_
  refine sm_lconst (i := 0) (x := 0) 35 (by decide +kernel) rfl rfl ?_
  refine sm_lcmp 36 (by decide +kernel) rfl ?_
  refine sm_if_lt (off := 7) 39 43 (by decide +kernel) (by decide) rfl (fun q1 => ?_) (fun q1 => ?_)
  · have hf := hf.1 q1
    refine sm_iconst (i := 0) (x := 0) 44 (by decide +kernel) rfl rfl ?_
    exact sm_sub [0, 1, 2, 3, 5] rfl hf
  · have hf := hf.2 q1
    refine sm_iconst (i := 1) (x := 1) 40 (by decide +kernel) rfl rfl ?_
    refine sm_goto (off := 4) 44 (by decide +kernel) (by decide) ?_
    exact sm_sub [0, 1, 2, 3, 5] rfl hf
def fM_add_44 (N d : Nat) (h : sm_H) (Q : Option Value → sm_H → Prop) (x0 : Nat) (x1 : Int32) (x2 : Int32) (x3 : Int64) (x7 : Int64) (y0 : Int32) (y1 : Int32) : Prop := ((y1 = y0 → (((lg_cmp x7 0) < 0 → sm_W N (d + 1) mm_M_add 59 [(0, .ref x0), (1, .int x1), (2, .int x2), (3, .long x3), (7, .long x7)] [.int 0] h Q) ∧ (¬ (lg_cmp x7 0) < 0 → sm_W N (d + 1) mm_M_add 59 [(0, .ref x0), (1, .int x1), (2, .int x2), (3, .long x3), (7, .long x7)] [.int 1] h Q))) ∧ (¬ y1 = y0 → sm_W N (d + 1) mm_M_add 76 [(0, .ref x0), (1, .int x1), (2, .int x2), (7, .long x7)] [] h Q))
set_option maxRecDepth 20000 in
set_option maxHeartbeats 4000000 in
theorem kM_add_44 {N d : Nat} {h : sm_H} {Q : Option Value → sm_H → Prop} {x0 : Nat} {x1 : Int32} {x2 : Int32} {x3 : Int64} {x7 : Int64} {y0 : Int32} {y1 : Int32} (hf : fM_add_44 N d h Q x0 x1 x2 x3 x7 y0 y1) : sm_W N (d + 1) mm_M_add 44 [(0, .ref x0), (1, .int x1), (2, .int x2), (3, .long x3), (7, .long x7)] [.int y0, .int y1] h Q := by
  unfold fM_add_44 at hf
  refine sm_icmp_ne (off := 32) 47 76 (by decide +kernel) (by decide) rfl (fun q2 => ?_) (fun q2 => ?_)
  · have hf := hf.2 q2
    exact sm_sub [0, 1, 2, 4] rfl hf
  · have hf := hf.1 q2
    refine sm_lload (i := 7) 49 4 (by decide +kernel) rfl rfl ?_
    refine sm_lconst (i := 0) (x := 0) 50 (by decide +kernel) rfl rfl ?_
    refine sm_lcmp 51 (by decide +kernel) rfl ?_
    refine sm_if_lt (off := 7) 54 58 (by decide +kernel) (by decide) rfl (fun q1 => ?_) (fun q1 => ?_)
    · have hf := hf.1 q1
      refine sm_iconst (i := 0) (x := 0) 59 (by decide +kernel) rfl rfl ?_
      exact sm_sub [0, 1, 2, 3, 4] rfl hf
    · have hf := hf.2 q1
      refine sm_iconst (i := 1) (x := 1) 55 (by decide +kernel) rfl rfl ?_
      refine sm_goto (off := 4) 59 (by decide +kernel) (by decide) ?_
      exact sm_sub [0, 1, 2, 3, 4] rfl hf
def fM_add_59 (N d : Nat) (h : sm_H) (Q : Option Value → sm_H → Prop) (x0 : Nat) (x1 : Int32) (x2 : Int32) (x3 : Int64) (x7 : Int64) (y0 : Int32) : Prop := (((lg_cmp x3 0) < 0 → sm_W N (d + 1) mm_M_add 70 [(0, .ref x0), (1, .int x1), (2, .int x2), (7, .long x7)] [.int 0, .int y0] h Q) ∧ (¬ (lg_cmp x3 0) < 0 → sm_W N (d + 1) mm_M_add 70 [(0, .ref x0), (1, .int x1), (2, .int x2), (7, .long x7)] [.int 1, .int y0] h Q))
set_option maxRecDepth 20000 in
set_option maxHeartbeats 4000000 in
theorem kM_add_59 {N d : Nat} {h : sm_H} {Q : Option Value → sm_H → Prop} {x0 : Nat} {x1 : Int32} {x2 : Int32} {x3 : Int64} {x7 : Int64} {y0 : Int32} (hf : fM_add_59 N d h Q x0 x1 x2 x3 x7 y0) : sm_W N (d + 1) mm_M_add 59 [(0, .ref x0), (1, .int x1), (2, .int x2), (3, .long x3), (7, .long x7)] [.int y0] h Q := by
  unfold fM_add_59 at hf
  refine sm_lload_n (k := 3) 60 3 (by decide +kernel) rfl rfl rfl ?_
  refine sm_lconst (i := 0) (x := 0) 61 (by decide +kernel) rfl rfl ?_
  refine sm_lcmp 62 (by decide +kernel) rfl ?_
  refine sm_if_lt (off := 7) 65 69 (by decide +kernel) (by decide) rfl (fun q1 => ?_) (fun q1 => ?_)
  · have hf := hf.1 q1
    refine sm_iconst (i := 0) (x := 0) 70 (by decide +kernel) rfl rfl ?_
    exact sm_sub [0, 1, 2, 4] rfl hf
  · have hf := hf.2 q1
    refine sm_iconst (i := 1) (x := 1) 66 (by decide +kernel) rfl rfl ?_
    refine sm_goto (off := 4) 70 (by decide +kernel) (by decide) ?_
    exact sm_sub [0, 1, 2, 4] rfl hf
def fM_add_70 (N d : Nat) (h : sm_H) (Q : Option Value → sm_H → Prop) (x0 : Nat) (x1 : Int32) (x2 : Int32) (x7 : Int64) (y0 : Int32) (y1 : Int32) : Prop := ((y1 = y0 → sm_W N (d + 1) mm_M_add 76 [(0, .ref x0), (1, .int x1), (2, .int x2), (7, .long x7)] [] h Q) ∧ (¬ y1 = y0 → Q (some (.int 8)) h))
set_option maxRecDepth 20000 in
set_option maxHeartbeats 4000000 in
theorem kM_add_70 {N d : Nat} {h : sm_H} {Q : Option Value → sm_H → Prop} {x0 : Nat} {x1 : Int32} {x2 : Int32} {x7 : Int64} {y0 : Int32} {y1 : Int32} (hf : fM_add_70 N d h Q x0 x1 x2 x7 y0 y1) : sm_W N (d + 1) mm_M_add 70 [(0, .ref x0), (1, .int x1), (2, .int x2), (7, .long x7)] [.int y0, .int y1] h Q := by
  unfold fM_add_70 at hf
  refine sm_icmp_eq (off := 6) 73 76 (by decide +kernel) (by decide) rfl (fun q1 => ?_) (fun q1 => ?_)
  · have hf := hf.1 q1
    exact sm_sub [0, 1, 2, 3] rfl hf
  · have hf := hf.2 q1
    refine sm_bipush (i := 8) (x := 8) 75 (by decide +kernel) (by decide) rfl ?_
    exact sm_iret rfl (by decide +kernel) hf
def fM_add_76 (N d : Nat) (h : sm_H) (Q : Option Value → sm_H → Prop) (x0 : Nat) (x1 : Int32) (x2 : Int32) (x7 : Int64) : Prop := ∃ z1 : Nat, sm_g h x0 5 7 = some (.ref z1) ∧ ∃ z2 : Int32, sm_gi h z1 1 x1 = some z2 ∧ ((z2 = 16 → ∃ z3 : Nat, sm_g h x0 5 7 = some (.ref z3) ∧ ∃ z4 : Int32, sm_gi h z3 1 x2 = some z4 ∧ ((z4 = 16 → (((lg_cmp x7 (Int32.toInt64 (Int64.toInt32 x7))) = 0 → sm_W N (d + 1) mm_M_add 113 [(0, .ref x0), (1, .int x1), (7, .long x7)] [.int 1] h Q) ∧ (¬ (lg_cmp x7 (Int32.toInt64 (Int64.toInt32 x7))) = 0 → sm_W N (d + 1) mm_M_add 112 [(0, .ref x0), (1, .int x1), (7, .long x7)] [] h Q))) ∧ (¬ z4 = 16 → sm_W N (d + 1) mm_M_add 112 [(0, .ref x0), (1, .int x1), (7, .long x7)] [] h Q))) ∧ (¬ z2 = 16 → sm_W N (d + 1) mm_M_add 112 [(0, .ref x0), (1, .int x1), (7, .long x7)] [] h Q))
set_option maxRecDepth 20000 in
set_option maxHeartbeats 4000000 in
theorem kM_add_76 {N d : Nat} {h : sm_H} {Q : Option Value → sm_H → Prop} {x0 : Nat} {x1 : Int32} {x2 : Int32} {x7 : Int64} (hf : fM_add_76 N d h Q x0 x1 x2 x7) : sm_W N (d + 1) mm_M_add 76 [(0, .ref x0), (1, .int x1), (2, .int x2), (7, .long x7)] [] h Q := by
  unfold fM_add_76 at hf
  refine sm_aload_n (k := 0) 77 0 (by decide +kernel) rfl rfl rfl ?_
  obtain ⟨z1, ez1, hf⟩ := hf
  refine sm_get 80 (by decide +kernel) fl_M_20 ez1 rfl ?_
  refine sm_iload_n (k := 1) 81 1 (by decide +kernel) rfl rfl rfl ?_
  obtain ⟨z2, ez2, hf⟩ := hf
  refine sm_iald 82 (by decide +kernel) ez2 rfl ?_
  refine sm_bipush (i := 16) (x := 16) 84 (by decide +kernel) (by decide) rfl ?_
  refine sm_icmp_ne (off := 28) 87 112 (by decide +kernel) (by decide) rfl (fun q7 => ?_) (fun q7 => ?_)
  · have hf := hf.2 q7
    exact sm_sub [0, 1, 3] rfl hf
  · have hf := hf.1 q7
    refine sm_aload_n (k := 0) 88 0 (by decide +kernel) rfl rfl rfl ?_
    obtain ⟨z3, ez3, hf⟩ := hf
    refine sm_get 91 (by decide +kernel) fl_M_20 ez3 rfl ?_
    refine sm_iload_n (k := 2) 92 2 (by decide +kernel) rfl rfl rfl ?_
    obtain ⟨z4, ez4, hf⟩ := hf
    refine sm_iald 93 (by decide +kernel) ez4 rfl ?_
    refine sm_bipush (i := 16) (x := 16) 95 (by decide +kernel) (by decide) rfl ?_
    refine sm_icmp_ne (off := 17) 98 112 (by decide +kernel) (by decide) rfl (fun q6 => ?_) (fun q6 => ?_)
    · have hf := hf.2 q6
      exact sm_sub [0, 1, 3] rfl hf
    · have hf := hf.1 q6
      refine sm_lload (i := 7) 100 3 (by decide +kernel) rfl rfl ?_
      refine sm_lload (i := 7) 102 3 (by decide +kernel) rfl rfl ?_
      refine sm_l2i 103 (by decide +kernel) rfl ?_
      refine sm_i2l 104 (by decide +kernel) rfl ?_
      refine sm_lcmp 105 (by decide +kernel) rfl ?_
      refine sm_if_ne (off := 7) 108 112 (by decide +kernel) (by decide) rfl (fun q5 => ?_) (fun q5 => ?_)
      · have hf := hf.2 q5
        exact sm_sub [0, 1, 3] rfl hf
      · have hf := hf.1 q5
        refine sm_iconst (i := 1) (x := 1) 109 (by decide +kernel) rfl rfl ?_
        refine sm_goto (off := 4) 113 (by decide +kernel) (by decide) ?_
        exact sm_sub [0, 1, 3] rfl hf
def fM_add_112 (N d : Nat) (h : sm_H) (Q : Option Value → sm_H → Prop) (x0 : Nat) (x1 : Int32) (x7 : Int64) : Prop := sm_W N (d + 1) mm_M_add 113 [(0, .ref x0), (1, .int x1), (7, .long x7)] [.int 0] h Q
set_option maxRecDepth 20000 in
set_option maxHeartbeats 4000000 in
theorem kM_add_112 {N d : Nat} {h : sm_H} {Q : Option Value → sm_H → Prop} {x0 : Nat} {x1 : Int32} {x7 : Int64} (hf : fM_add_112 N d h Q x0 x1 x7) : sm_W N (d + 1) mm_M_add 112 [(0, .ref x0), (1, .int x1), (7, .long x7)] [] h Q := by
  unfold fM_add_112 at hf
  refine sm_iconst (i := 0) (x := 0) 113 (by decide +kernel) rfl rfl ?_
  exact sm_sub [0, 1, 2] rfl hf
def fM_add_113 (N d : Nat) (h : sm_H) (Q : Option Value → sm_H → Prop) (x0 : Nat) (x1 : Int32) (x7 : Int64) (y0 : Int32) : Prop := ∃ z1 : Nat, sm_g h x0 5 7 = some (.ref z1) ∧ ((y0 = 0 → sm_W N (d + 1) mm_M_add 132 [(0, .ref x0), (1, .int x1), (7, .long x7)] [.int 18, .int x1, .ref z1] h Q) ∧ (¬ y0 = 0 → sm_W N (d + 1) mm_M_add 132 [(0, .ref x0), (1, .int x1), (7, .long x7)] [.int 16, .int x1, .ref z1] h Q))
set_option maxRecDepth 20000 in
set_option maxHeartbeats 4000000 in
theorem kM_add_113 {N d : Nat} {h : sm_H} {Q : Option Value → sm_H → Prop} {x0 : Nat} {x1 : Int32} {x7 : Int64} {y0 : Int32} (hf : fM_add_113 N d h Q x0 x1 x7 y0) : sm_W N (d + 1) mm_M_add 113 [(0, .ref x0), (1, .int x1), (7, .long x7)] [.int y0] h Q := by
  unfold fM_add_113 at hf
  refine sm_istore (i := 9) 115 [(9, .int y0), (0, .ref x0), (1, .int x1), (7, .long x7)] (by decide +kernel) (by decide) (by first | rfl | simp [sm_rfc]) rfl ?_
  refine sm_aload_n (k := 0) 116 1 (by decide +kernel) rfl rfl rfl ?_
  obtain ⟨z1, ez1, hf⟩ := hf
  refine sm_get 119 (by decide +kernel) fl_M_20 ez1 rfl ?_
  refine sm_iload_n (k := 1) 120 2 (by decide +kernel) rfl rfl rfl ?_
  refine sm_iload (i := 9) 122 0 (by decide +kernel) rfl rfl ?_
  refine sm_if_eq (off := 8) 125 130 (by decide +kernel) (by decide) rfl (fun q2 => ?_) (fun q2 => ?_)
  · have hf := hf.1 q2
    refine sm_bipush (i := 18) (x := 18) 132 (by decide +kernel) (by decide) rfl ?_
    exact sm_sub [1, 2, 3] rfl hf
  · have hf := hf.2 q2
    refine sm_bipush (i := 16) (x := 16) 127 (by decide +kernel) (by decide) rfl ?_
    refine sm_goto (off := 5) 132 (by decide +kernel) (by decide) ?_
    exact sm_sub [1, 2, 3] rfl hf
def fM_add_132 (N d : Nat) (h : sm_H) (Q : Option Value → sm_H → Prop) (x0 : Nat) (x1 : Int32) (x7 : Int64) (y0 : Int32) (y1 : Int32) (y2 : Nat) : Prop := ∃ h1, sm_pi h y2 y1 y0 = some h1 ∧ ∃ z2 : Nat, sm_g h1 x0 5 10 = some (.ref z2) ∧ ∃ h3, sm_pl h1 z2 x1 x7 = some h3 ∧ Q (some (.int 0)) h3
set_option maxRecDepth 20000 in
set_option maxHeartbeats 4000000 in
theorem kM_add_132 {N d : Nat} {h : sm_H} {Q : Option Value → sm_H → Prop} {x0 : Nat} {x1 : Int32} {x7 : Int64} {y0 : Int32} {y1 : Int32} {y2 : Nat} (hf : fM_add_132 N d h Q x0 x1 x7 y0 y1 y2) : sm_W N (d + 1) mm_M_add 132 [(0, .ref x0), (1, .int x1), (7, .long x7)] [.int y0, .int y1, .ref y2] h Q := by
  unfold fM_add_132 at hf
  obtain ⟨h1, eh1, hf⟩ := hf
  refine sm_iast 133 (by decide +kernel) eh1 rfl ?_
  refine sm_aload_n (k := 0) 134 0 (by decide +kernel) rfl rfl rfl ?_
  obtain ⟨z2, ez2, hf⟩ := hf
  refine sm_get 137 (by decide +kernel) fl_M_30 ez2 rfl ?_
  refine sm_iload_n (k := 1) 138 1 (by decide +kernel) rfl rfl rfl ?_
  refine sm_lload (i := 7) 140 2 (by decide +kernel) rfl rfl ?_
  obtain ⟨h3, eh3, hf⟩ := hf
  refine sm_last 141 (by decide +kernel) eh3 rfl ?_
  refine sm_iconst (i := 0) (x := 0) 142 (by decide +kernel) rfl rfl ?_
  exact sm_iret rfl (by decide +kernel) hf
theorem cM_add {N d : Nat} {h : sm_H} {Q : Option Value → sm_H → Prop} {x0 : Nat} {x1 : Int32} {x2 : Int32} (hb : ∃ fs, h[x0]? = some (.inr (5, fs))) (hf : fM_add_0 N d h Q x0 x1 x2) : sm_V N (d + 1) mm_M_add 5 x0 [.int x1, .int x2] h Q := ⟨hb, sm_meth (by decide +kernel) (fun _ => Nat.le_of_ble_eq_true rfl) (fun _ => rfl) (kM_add_0 hf)⟩
