def fM_makes_0 (N d : Nat) (h : sm_H) (Q : Option Value → sm_H → Prop) (x0 : Nat) (x1 : Int32) (x2 : Int32) (x3 : Int32) : Prop := sm_V N d mm_M_goMaking 5 x0 [.int x1] h (fun r2 h1 => ∃ z3 : Int32, r2 = some (.int z3) ∧ ((0 ≤ z3 → ∃ z4 : Int32, sm_g h1 x0 5 24 = some (.int z4) ∧ sm_V N d mm_M_meets 5 x0 [.int z3, .int (z4 - 1)] h1 (fun r6 h5 => ∃ z7 : Int32, r6 = some (.int z7) ∧ ((0 ≤ z7 → ((x2 = 1 → sm_V N d mm_M_replace 5 x0 [.int z3, .int z7, .int x3] h5 (fun r9 h8 => r9 = none ∧ sm_W N (d + 1) mm_M_makes 98 [(0, .ref x0), (2, .int x2), (3, .int x3), (5, .int z7)] [] h8 Q)) ∧ (¬ x2 = 1 → sm_W N (d + 1) mm_M_makes 98 [(0, .ref x0), (2, .int x2), (3, .int x3), (5, .int z7)] [] h5 Q))) ∧ (¬ 0 ≤ z7 → ((x2 = 4 → sm_W N (d + 1) mm_M_makes 48 [(0, .ref x0), (3, .int x3), (4, .int z3)] [] h5 Q) ∧ (¬ x2 = 4 → ((x2 = 6 → sm_W N (d + 1) mm_M_makes 48 [(0, .ref x0), (3, .int x3), (4, .int z3)] [] h5 Q) ∧ (¬ x2 = 6 → sm_W N (d + 1) mm_M_makes 62 [(0, .ref x0), (4, .int z3), (6, .int x3)] [] h5 Q)))))))) ∧ (¬ 0 ≤ z3 → Q (some (.int 6)) h1)))
set_option maxRecDepth 20000 in
set_option maxHeartbeats 4000000 in
theorem kM_makes_0 {N d : Nat} {h : sm_H} {Q : Option Value → sm_H → Prop} {x0 : Nat} {x1 : Int32} {x2 : Int32} {x3 : Int32} (hf : fM_makes_0 N d h Q x0 x1 x2 x3) : sm_W N (d + 1) mm_M_makes 0 [(0, .ref x0), (1, .int x1), (2, .int x2), (3, .int x3)] [] h Q := by
  unfold fM_makes_0 at hf
  refine sm_aload_n (k := 0) 1 0 (by decide +kernel) rfl rfl rfl ?_
  refine sm_iload_n (k := 1) 2 1 (by decide +kernel) rfl rfl rfl ?_
  refine sm_callV (M2 := mm_M_goMaking) (av := [.int x1]) (rest := []) 5 (by decide +kernel) ml_M_223 (Nat.le_refl _) rfl rfl (by first | exact Nat.le_of_ble_eq_true rfl | simp [sm_rfc, Value.category]) rfl hf ?_
  rintro r2 h1 ⟨z3, rfl, hf⟩
  change sm_W N (d + 1) mm_M_makes 5 [(0, .ref x0), (1, .int x1), (2, .int x2), (3, .int x3)] [.int z3] h1 Q
  refine sm_istore (i := 4) 7 [(4, .int z3), (0, .ref x0), (1, .int x1), (2, .int x2), (3, .int x3)] (by decide +kernel) (by decide) (by first | rfl | simp [sm_rfc]) rfl ?_
  refine sm_iload (i := 4) 9 0 (by decide +kernel) rfl rfl ?_
  refine sm_if_ge (off := 6) 12 15 (by decide +kernel) (by decide) rfl (fun q14 => ?_) (fun q14 => ?_)
  · have hf := hf.1 q14
    refine sm_aload_n (k := 0) 16 1 (by decide +kernel) rfl rfl rfl ?_
    refine sm_iload (i := 4) 18 0 (by decide +kernel) rfl rfl ?_
    refine sm_aload_n (k := 0) 19 1 (by decide +kernel) rfl rfl rfl ?_
    obtain ⟨z4, ez4, hf⟩ := hf
    refine sm_get 22 (by decide +kernel) fl_M_186 ez4 rfl ?_
    refine sm_iconst (i := 1) (x := 1) 23 (by decide +kernel) rfl rfl ?_
    refine sm_isub 24 (by decide +kernel) rfl ?_
    refine sm_callV (M2 := mm_M_meets) (av := [.int z3, .int (z4 - 1)]) (rest := []) 27 (by decide +kernel) ml_M_217 (Nat.le_refl _) rfl rfl (by first | exact Nat.le_of_ble_eq_true rfl | simp [sm_rfc, Value.category]) rfl hf ?_
    rintro r6 h5 ⟨z7, rfl, hf⟩
    change sm_W N (d + 1) mm_M_makes 27 [(4, .int z3), (0, .ref x0), (1, .int x1), (2, .int x2), (3, .int x3)] [.int z7] h5 Q
    refine sm_istore (i := 5) 29 [(5, .int z7), (4, .int z3), (0, .ref x0), (1, .int x1), (2, .int x2), (3, .int x3)] (by decide +kernel) (by decide) (by first | rfl | simp [sm_rfc]) rfl ?_
    refine sm_iload (i := 5) 31 0 (by decide +kernel) rfl rfl ?_
    refine sm_if_ge (off := 53) 34 84 (by decide +kernel) (by decide) rfl (fun q13 => ?_) (fun q13 => ?_)
    · have hf := hf.1 q13
      refine sm_iload_n (k := 2) 85 4 (by decide +kernel) rfl rfl rfl ?_
      refine sm_iconst (i := 1) (x := 1) 86 (by decide +kernel) rfl rfl ?_
      refine sm_icmp_ne (off := 12) 89 98 (by decide +kernel) (by decide) rfl (fun q10 => ?_) (fun q10 => ?_)
      · have hf := hf.2 q10
        exact sm_sub [2, 4, 5, 0] rfl hf
      · have hf := hf.1 q10
        refine sm_aload_n (k := 0) 90 2 (by decide +kernel) rfl rfl rfl ?_
        refine sm_iload (i := 4) 92 1 (by decide +kernel) rfl rfl ?_
        refine sm_iload (i := 5) 94 0 (by decide +kernel) rfl rfl ?_
        refine sm_iload_n (k := 3) 95 5 (by decide +kernel) rfl rfl rfl ?_
        refine sm_callV (M2 := mm_M_replace) (av := [.int z3, .int z7, .int x3]) (rest := []) 98 (by decide +kernel) ml_M_226 (Nat.le_refl _) rfl rfl (by first | exact Nat.le_of_ble_eq_true rfl | simp [sm_rfc, Value.category]) rfl hf ?_
        rintro r9 h8 ⟨rfl, hf⟩
        change sm_W N (d + 1) mm_M_makes 98 [(5, .int z7), (4, .int z3), (0, .ref x0), (1, .int x1), (2, .int x2), (3, .int x3)] [] h8 Q
        exact sm_sub [2, 4, 5, 0] rfl hf
    · have hf := hf.2 q13
      refine sm_iload_n (k := 3) 35 5 (by decide +kernel) rfl rfl rfl ?_
      refine sm_istore (i := 6) 37 [(6, .int x3), (5, .int z7), (4, .int z3), (0, .ref x0), (1, .int x1), (2, .int x2), (3, .int x3)] (by decide +kernel) (by decide) (by first | rfl | simp [sm_rfc]) rfl ?_
      refine sm_iload_n (k := 2) 38 5 (by decide +kernel) rfl rfl rfl ?_
      refine sm_iconst (i := 4) (x := 4) 39 (by decide +kernel) rfl rfl ?_
      refine sm_icmp_eq (off := 9) 42 48 (by decide +kernel) (by decide) rfl (fun q12 => ?_) (fun q12 => ?_)
      · have hf := hf.1 q12
        exact sm_sub [3, 6, 2] rfl hf
      · have hf := hf.2 q12
        refine sm_iload_n (k := 2) 43 5 (by decide +kernel) rfl rfl rfl ?_
        refine sm_bipush (i := 6) (x := 6) 45 (by decide +kernel) (by decide) rfl ?_
        refine sm_icmp_ne (off := 17) 48 62 (by decide +kernel) (by decide) rfl (fun q11 => ?_) (fun q11 => ?_)
        · have hf := hf.2 q11
          exact sm_sub [3, 2, 0] rfl hf
        · have hf := hf.1 q11
          exact sm_sub [3, 6, 2] rfl hf
  · have hf := hf.2 q14
    refine sm_bipush (i := 6) (x := 6) 14 (by decide +kernel) (by decide) rfl ?_
    exact sm_iret rfl (by decide +kernel) hf
def fM_makes_48 (N d : Nat) (h : sm_H) (Q : Option Value → sm_H → Prop) (x0 : Nat) (x3 : Int32) (x4 : Int32) : Prop := sm_V N d mm_M_make 5 x0 [.int 4] h (fun r2 h1 => ∃ z3 : Int32, r2 = some (.int z3) ∧ sm_V N d mm_M_append 5 x0 [.int z3, .int x3] h1 (fun r5 h4 => r5 = none ∧ sm_W N (d + 1) mm_M_makes 62 [(0, .ref x0), (4, .int x4), (6, .int z3)] [] h4 Q))
set_option maxRecDepth 20000 in
set_option maxHeartbeats 4000000 in
theorem kM_makes_48 {N d : Nat} {h : sm_H} {Q : Option Value → sm_H → Prop} {x0 : Nat} {x3 : Int32} {x4 : Int32} (hf : fM_makes_48 N d h Q x0 x3 x4) : sm_W N (d + 1) mm_M_makes 48 [(0, .ref x0), (3, .int x3), (4, .int x4)] [] h Q := by
  unfold fM_makes_48 at hf
  refine sm_aload_n (k := 0) 49 0 (by decide +kernel) rfl rfl rfl ?_
  refine sm_iconst (i := 4) (x := 4) 50 (by decide +kernel) rfl rfl ?_
  refine sm_callV (M2 := mm_M_make) (av := [.int 4]) (rest := []) 53 (by decide +kernel) ml_M_113 (Nat.le_refl _) rfl rfl (by first | exact Nat.le_of_ble_eq_true rfl | simp [sm_rfc, Value.category]) rfl hf ?_
  rintro r2 h1 ⟨z3, rfl, hf⟩
  change sm_W N (d + 1) mm_M_makes 53 [(0, .ref x0), (3, .int x3), (4, .int x4)] [.int z3] h1 Q
  refine sm_istore (i := 6) 55 [(6, .int z3), (0, .ref x0), (3, .int x3), (4, .int x4)] (by decide +kernel) (by decide) (by first | rfl | simp [sm_rfc]) rfl ?_
  refine sm_aload_n (k := 0) 56 1 (by decide +kernel) rfl rfl rfl ?_
  refine sm_iload (i := 6) 58 0 (by decide +kernel) rfl rfl ?_
  refine sm_iload_n (k := 3) 59 2 (by decide +kernel) rfl rfl rfl ?_
  refine sm_callV (M2 := mm_M_append) (av := [.int z3, .int x3]) (rest := []) 62 (by decide +kernel) ml_M_133 (Nat.le_refl _) rfl rfl (by first | exact Nat.le_of_ble_eq_true rfl | simp [sm_rfc, Value.category]) rfl hf ?_
  rintro r5 h4 ⟨rfl, hf⟩
  change sm_W N (d + 1) mm_M_makes 62 [(6, .int z3), (0, .ref x0), (3, .int x3), (4, .int x4)] [] h4 Q
  exact sm_sub [1, 3, 0] rfl hf
def fM_makes_62 (N d : Nat) (h : sm_H) (Q : Option Value → sm_H → Prop) (x0 : Nat) (x4 : Int32) (x6 : Int32) : Prop := ∃ z1 : Int32, sm_g h x0 5 24 = some (.int z1) ∧ sm_V N d mm_M_name 5 x0 [.int x6, .int (z1 - 1)] h (fun r3 h2 => r3 = none ∧ sm_V N d mm_M_append 5 x0 [.int x4, .int x6] h2 (fun r5 h4 => r5 = none ∧ Q (some (.int 0)) h4))
set_option maxRecDepth 20000 in
set_option maxHeartbeats 4000000 in
theorem kM_makes_62 {N d : Nat} {h : sm_H} {Q : Option Value → sm_H → Prop} {x0 : Nat} {x4 : Int32} {x6 : Int32} (hf : fM_makes_62 N d h Q x0 x4 x6) : sm_W N (d + 1) mm_M_makes 62 [(0, .ref x0), (4, .int x4), (6, .int x6)] [] h Q := by
  unfold fM_makes_62 at hf
  refine sm_aload_n (k := 0) 63 0 (by decide +kernel) rfl rfl rfl ?_
  refine sm_iload (i := 6) 65 2 (by decide +kernel) rfl rfl ?_
  refine sm_aload_n (k := 0) 66 0 (by decide +kernel) rfl rfl rfl ?_
  obtain ⟨z1, ez1, hf⟩ := hf
  refine sm_get 69 (by decide +kernel) fl_M_186 ez1 rfl ?_
  refine sm_iconst (i := 1) (x := 1) 70 (by decide +kernel) rfl rfl ?_
  refine sm_isub 71 (by decide +kernel) rfl ?_
  refine sm_callV (M2 := mm_M_name) (av := [.int x6, .int (z1 - 1)]) (rest := []) 74 (by decide +kernel) ml_M_220 (Nat.le_refl _) rfl rfl (by first | exact Nat.le_of_ble_eq_true rfl | simp [sm_rfc, Value.category]) rfl hf ?_
  rintro r3 h2 ⟨rfl, hf⟩
  change sm_W N (d + 1) mm_M_makes 74 [(0, .ref x0), (4, .int x4), (6, .int x6)] [] h2 Q
  refine sm_aload_n (k := 0) 75 0 (by decide +kernel) rfl rfl rfl ?_
  refine sm_iload (i := 4) 77 1 (by decide +kernel) rfl rfl ?_
  refine sm_iload (i := 6) 79 2 (by decide +kernel) rfl rfl ?_
  refine sm_callV (M2 := mm_M_append) (av := [.int x4, .int x6]) (rest := []) 82 (by decide +kernel) ml_M_133 (Nat.le_refl _) rfl rfl (by first | exact Nat.le_of_ble_eq_true rfl | simp [sm_rfc, Value.category]) rfl hf ?_
  rintro r5 h4 ⟨rfl, hf⟩
  change sm_W N (d + 1) mm_M_makes 82 [(0, .ref x0), (4, .int x4), (6, .int x6)] [] h4 Q
  refine sm_iconst (i := 0) (x := 0) 83 (by decide +kernel) rfl rfl ?_
  exact sm_iret rfl (by decide +kernel) hf
def fM_makes_98 (N d : Nat) (h : sm_H) (Q : Option Value → sm_H → Prop) (x0 : Nat) (x2 : Int32) (x3 : Int32) (x5 : Int32) : Prop := ((x2 = 1 → Q (some (.int 0)) h) ∧ (¬ x2 = 1 → ((x2 = 3 → ∃ z6 : Nat, sm_g h x0 5 7 = some (.ref z6) ∧ ∃ z7 : Int32, sm_gi h z6 1 x5 = some z7 ∧ sm_T N d mm_M_isNumber [.int z7] h (fun r9 h8 => ∃ z10 : Int32, r9 = some (.int z10) ∧ ((z10 = 0 → Q (some (.int 7)) h8) ∧ (¬ z10 = 0 → sm_V N d mm_M_add 5 x0 [.int x5, .int x3] h8 (fun r12 h11 => ∃ z13 : Int32, r12 = some (.int z13) ∧ Q (some (.int z13)) h11))))) ∧ (¬ x2 = 3 → ∃ z1 : Nat, sm_g h x0 5 7 = some (.ref z1) ∧ ∃ z2 : Int32, sm_gi h z1 1 x5 = some z2 ∧ ((z2 = 4 → ∃ z3 : Nat, sm_g h x0 5 13 = some (.ref z3) ∧ ∃ z4 : Int32, sm_gi h z3 1 x5 = some z4 ∧ sm_W N (d + 1) mm_M_makes 159 [(0, .ref x0), (2, .int x2), (3, .int x3), (5, .int x5), (6, .int z4)] [] h Q) ∧ (¬ z2 = 4 → Q (some (.int 7)) h))))))
set_option maxRecDepth 20000 in
set_option maxHeartbeats 4000000 in
theorem kM_makes_98 {N d : Nat} {h : sm_H} {Q : Option Value → sm_H → Prop} {x0 : Nat} {x2 : Int32} {x3 : Int32} {x5 : Int32} (hf : fM_makes_98 N d h Q x0 x2 x3 x5) : sm_W N (d + 1) mm_M_makes 98 [(0, .ref x0), (2, .int x2), (3, .int x3), (5, .int x5)] [] h Q := by
  unfold fM_makes_98 at hf
  refine sm_iload_n (k := 2) 99 1 (by decide +kernel) rfl rfl rfl ?_
  refine sm_iconst (i := 1) (x := 1) 100 (by decide +kernel) rfl rfl ?_
  refine sm_icmp_ne (off := 5) 103 105 (by decide +kernel) (by decide) rfl (fun q16 => ?_) (fun q16 => ?_)
  · have hf := hf.2 q16
    refine sm_iload_n (k := 2) 106 1 (by decide +kernel) rfl rfl rfl ?_
    refine sm_iconst (i := 3) (x := 3) 107 (by decide +kernel) rfl rfl ?_
    refine sm_icmp_ne (off := 29) 110 136 (by decide +kernel) (by decide) rfl (fun q15 => ?_) (fun q15 => ?_)
    · have hf := hf.2 q15
      refine sm_aload_n (k := 0) 137 0 (by decide +kernel) rfl rfl rfl ?_
      obtain ⟨z1, ez1, hf⟩ := hf
      refine sm_get 140 (by decide +kernel) fl_M_20 ez1 rfl ?_
      refine sm_iload (i := 5) 142 3 (by decide +kernel) rfl rfl ?_
      obtain ⟨z2, ez2, hf⟩ := hf
      refine sm_iald 143 (by decide +kernel) ez2 rfl ?_
      refine sm_iconst (i := 4) (x := 4) 144 (by decide +kernel) rfl rfl ?_
      refine sm_icmp_eq (off := 6) 147 150 (by decide +kernel) (by decide) rfl (fun q5 => ?_) (fun q5 => ?_)
      · have hf := hf.1 q5
        refine sm_aload_n (k := 0) 151 0 (by decide +kernel) rfl rfl rfl ?_
        obtain ⟨z3, ez3, hf⟩ := hf
        refine sm_get 154 (by decide +kernel) fl_M_40 ez3 rfl ?_
        refine sm_iload (i := 5) 156 3 (by decide +kernel) rfl rfl ?_
        obtain ⟨z4, ez4, hf⟩ := hf
        refine sm_iald 157 (by decide +kernel) ez4 rfl ?_
        refine sm_istore (i := 6) 159 [(6, .int z4), (0, .ref x0), (2, .int x2), (3, .int x3), (5, .int x5)] (by decide +kernel) (by decide) (by first | rfl | simp [sm_rfc]) rfl ?_
        exact sm_sub [1, 2, 3, 4, 0] rfl hf
      · have hf := hf.2 q5
        refine sm_bipush (i := 7) (x := 7) 149 (by decide +kernel) (by decide) rfl ?_
        exact sm_iret rfl (by decide +kernel) hf
    · have hf := hf.1 q15
      refine sm_aload_n (k := 0) 111 0 (by decide +kernel) rfl rfl rfl ?_
      obtain ⟨z6, ez6, hf⟩ := hf
      refine sm_get 114 (by decide +kernel) fl_M_20 ez6 rfl ?_
      refine sm_iload (i := 5) 116 3 (by decide +kernel) rfl rfl ?_
      obtain ⟨z7, ez7, hf⟩ := hf
      refine sm_iald 117 (by decide +kernel) ez7 rfl ?_
      refine sm_callS (M2 := mm_M_isNumber) (av := [.int z7]) (rest := []) 120 (by decide +kernel) ml_M_230 (Nat.le_refl _) rfl rfl (by first | exact Nat.le_of_ble_eq_true rfl | simp [sm_rfc, Value.category]) rfl hf ?_
      rintro r9 h8 ⟨z10, rfl, hf⟩
      change sm_W N (d + 1) mm_M_makes 120 [(0, .ref x0), (2, .int x2), (3, .int x3), (5, .int x5)] [.int z10] h8 Q
      refine sm_if_eq (off := 13) 123 133 (by decide +kernel) (by decide) rfl (fun q14 => ?_) (fun q14 => ?_)
      · have hf := hf.1 q14
        refine sm_bipush (i := 7) (x := 7) 135 (by decide +kernel) (by decide) rfl ?_
        exact sm_iret rfl (by decide +kernel) hf
      · have hf := hf.2 q14
        refine sm_aload_n (k := 0) 124 0 (by decide +kernel) rfl rfl rfl ?_
        refine sm_iload (i := 5) 126 3 (by decide +kernel) rfl rfl ?_
        refine sm_iload_n (k := 3) 127 2 (by decide +kernel) rfl rfl rfl ?_
        refine sm_callV (M2 := mm_M_add) (av := [.int x5, .int x3]) (rest := []) 130 (by decide +kernel) ml_M_233 (Nat.le_refl _) rfl rfl (by first | exact Nat.le_of_ble_eq_true rfl | simp [sm_rfc, Value.category]) rfl hf ?_
        rintro r12 h11 ⟨z13, rfl, hf⟩
        change sm_W N (d + 1) mm_M_makes 130 [(0, .ref x0), (2, .int x2), (3, .int x3), (5, .int x5)] [.int z13] h11 Q
        refine sm_goto (off := 5) 135 (by decide +kernel) (by decide) ?_
        exact sm_iret rfl (by decide +kernel) hf
  · have hf := hf.1 q16
    refine sm_iconst (i := 0) (x := 0) 104 (by decide +kernel) rfl rfl ?_
    exact sm_iret rfl (by decide +kernel) hf
def fM_makes_159 (N d : Nat) (h : sm_H) (Q : Option Value → sm_H → Prop) (x0 : Nat) (x2 : Int32) (x3 : Int32) (x5 : Int32) (x6 : Int32) : Prop := ((x6 < 0 → sm_W N (d + 1) mm_M_makes 194 [(0, .ref x0), (3, .int x3), (5, .int x5)] [] h Q) ∧ (¬ x6 < 0 → ((x2 = 6 → sm_V N d mm_M_same 5 x0 [.int x6, .int x3] h (fun r2 h1 => ∃ z3 : Int32, r2 = some (.int z3) ∧ ((z3 = 0 → ∃ z4 : Nat, sm_g h1 x0 5 14 = some (.ref z4) ∧ ∃ z5 : Int32, sm_gi h1 z4 1 x6 = some z5 ∧ sm_W N (d + 1) mm_M_makes 159 [(0, .ref x0), (2, .int x2), (3, .int x3), (5, .int x5), (6, .int z5)] [] h1 Q) ∧ (¬ z3 = 0 → Q (some (.int 0)) h1)))) ∧ (¬ x2 = 6 → sm_W N (d + 1) mm_M_makes 194 [(0, .ref x0), (3, .int x3), (5, .int x5)] [] h Q))))
set_option maxRecDepth 20000 in
set_option maxHeartbeats 4000000 in
theorem kM_makes_159 {N d : Nat} {h : sm_H} {Q : Option Value → sm_H → Prop} {x0 : Nat} {x2 : Int32} {x3 : Int32} {x5 : Int32} {x6 : Int32} (hf : fM_makes_159 N d h Q x0 x2 x3 x5 x6) : sm_W N (d + 1) mm_M_makes 159 [(0, .ref x0), (2, .int x2), (3, .int x3), (5, .int x5), (6, .int x6)] [] h Q := by
  unfold fM_makes_159 at hf
  refine sm_iload (i := 6) 161 4 (by decide +kernel) rfl rfl ?_
  refine sm_if_lt (off := 33) 164 194 (by decide +kernel) (by decide) rfl (fun q8 => ?_) (fun q8 => ?_)
  · have hf := hf.1 q8
    exact sm_sub [0, 2, 3] rfl hf
  · have hf := hf.2 q8
    refine sm_iload_n (k := 2) 165 1 (by decide +kernel) rfl rfl rfl ?_
    refine sm_bipush (i := 6) (x := 6) 167 (by decide +kernel) (by decide) rfl ?_
    refine sm_icmp_ne (off := 27) 170 194 (by decide +kernel) (by decide) rfl (fun q7 => ?_) (fun q7 => ?_)
    · have hf := hf.2 q7
      exact sm_sub [0, 2, 3] rfl hf
    · have hf := hf.1 q7
      refine sm_aload_n (k := 0) 171 0 (by decide +kernel) rfl rfl rfl ?_
      refine sm_iload (i := 6) 173 4 (by decide +kernel) rfl rfl ?_
      refine sm_iload_n (k := 3) 174 2 (by decide +kernel) rfl rfl rfl ?_
      refine sm_callV (M2 := mm_M_same) (av := [.int x6, .int x3]) (rest := []) 177 (by decide +kernel) ml_M_236 (Nat.le_refl _) rfl rfl (by first | exact Nat.le_of_ble_eq_true rfl | simp [sm_rfc, Value.category]) rfl hf ?_
      rintro r2 h1 ⟨z3, rfl, hf⟩
      change sm_W N (d + 1) mm_M_makes 177 [(0, .ref x0), (2, .int x2), (3, .int x3), (5, .int x5), (6, .int x6)] [.int z3] h1 Q
      refine sm_if_eq (off := 5) 180 182 (by decide +kernel) (by decide) rfl (fun q6 => ?_) (fun q6 => ?_)
      · have hf := hf.1 q6
        refine sm_aload_n (k := 0) 183 0 (by decide +kernel) rfl rfl rfl ?_
        obtain ⟨z4, ez4, hf⟩ := hf
        refine sm_get 186 (by decide +kernel) fl_M_43 ez4 rfl ?_
        refine sm_iload (i := 6) 188 4 (by decide +kernel) rfl rfl ?_
        obtain ⟨z5, ez5, hf⟩ := hf
        refine sm_iald 189 (by decide +kernel) ez5 rfl ?_
        refine sm_istore (i := 6) 191 [(6, .int z5), (0, .ref x0), (2, .int x2), (3, .int x3), (5, .int x5)] (by decide +kernel) (by decide) (by first | rfl | simp [sm_rfc]) rfl ?_
        refine sm_goto (off := -32) 159 (by decide +kernel) (by decide) ?_
        exact sm_sub [1, 2, 3, 4, 0] rfl hf
      · have hf := hf.2 q6
        refine sm_iconst (i := 0) (x := 0) 181 (by decide +kernel) rfl rfl ?_
        exact sm_iret rfl (by decide +kernel) hf
def fM_makes_194 (N d : Nat) (h : sm_H) (Q : Option Value → sm_H → Prop) (x0 : Nat) (x3 : Int32) (x5 : Int32) : Prop := sm_V N d mm_M_append 5 x0 [.int x5, .int x3] h (fun r2 h1 => r2 = none ∧ Q (some (.int 0)) h1)
set_option maxRecDepth 20000 in
set_option maxHeartbeats 4000000 in
theorem kM_makes_194 {N d : Nat} {h : sm_H} {Q : Option Value → sm_H → Prop} {x0 : Nat} {x3 : Int32} {x5 : Int32} (hf : fM_makes_194 N d h Q x0 x3 x5) : sm_W N (d + 1) mm_M_makes 194 [(0, .ref x0), (3, .int x3), (5, .int x5)] [] h Q := by
  unfold fM_makes_194 at hf
  refine sm_aload_n (k := 0) 195 0 (by decide +kernel) rfl rfl rfl ?_
  refine sm_iload (i := 5) 197 2 (by decide +kernel) rfl rfl ?_
  refine sm_iload_n (k := 3) 198 1 (by decide +kernel) rfl rfl rfl ?_
  refine sm_callV (M2 := mm_M_append) (av := [.int x5, .int x3]) (rest := []) 201 (by decide +kernel) ml_M_133 (Nat.le_refl _) rfl rfl (by first | exact Nat.le_of_ble_eq_true rfl | simp [sm_rfc, Value.category]) rfl hf ?_
  rintro r2 h1 ⟨rfl, hf⟩
  change sm_W N (d + 1) mm_M_makes 201 [(0, .ref x0), (3, .int x3), (5, .int x5)] [] h1 Q
  refine sm_iconst (i := 0) (x := 0) 202 (by decide +kernel) rfl rfl ?_
  exact sm_iret rfl (by decide +kernel) hf
theorem cM_makes {N d : Nat} {h : sm_H} {Q : Option Value → sm_H → Prop} {x0 : Nat} {x1 : Int32} {x2 : Int32} {x3 : Int32} (hb : ∃ fs, h[x0]? = some (.inr (5, fs))) (hf : fM_makes_0 N d h Q x0 x1 x2 x3) : sm_V N (d + 1) mm_M_makes 5 x0 [.int x1, .int x2, .int x3] h Q := ⟨hb, sm_meth (by decide +kernel) (fun _ => Nat.le_of_ble_eq_true rfl) (fun _ => rfl) (kM_makes_0 hf)⟩
def fM_takes_0 (N d : Nat) (h : sm_H) (Q : Option Value → sm_H → Prop) (x0 : Nat) (x1 : Int32) (x2 : Int32) (x3 : Int32) : Prop := sm_W N (d + 1) mm_M_takes 9 [(0, .ref x0), (2, .int x2), (3, .int x3), (4, .int x1), (5, .int (-1)), (6, .int 0)] [] h Q
set_option maxRecDepth 20000 in
set_option maxHeartbeats 4000000 in
theorem kM_takes_0 {N d : Nat} {h : sm_H} {Q : Option Value → sm_H → Prop} {x0 : Nat} {x1 : Int32} {x2 : Int32} {x3 : Int32} (hf : fM_takes_0 N d h Q x0 x1 x2 x3) : sm_W N (d + 1) mm_M_takes 0 [(0, .ref x0), (1, .int x1), (2, .int x2), (3, .int x3)] [] h Q := by
  unfold fM_takes_0 at hf
  refine sm_iload_n (k := 1) 1 1 (by decide +kernel) rfl rfl rfl ?_
  refine sm_istore (i := 4) 3 [(4, .int x1), (0, .ref x0), (1, .int x1), (2, .int x2), (3, .int x3)] (by decide +kernel) (by decide) (by first | rfl | simp [sm_rfc]) rfl ?_
  refine sm_iconst (i := -1) (x := (-1)) 4 (by decide +kernel) rfl rfl ?_
  refine sm_istore (i := 5) 6 [(5, .int (-1)), (4, .int x1), (0, .ref x0), (1, .int x1), (2, .int x2), (3, .int x3)] (by decide +kernel) (by decide) (by first | rfl | simp [sm_rfc]) rfl ?_
  refine sm_iconst (i := 0) (x := 0) 7 (by decide +kernel) rfl rfl ?_
  refine sm_istore (i := 6) 9 [(6, .int 0), (5, .int (-1)), (4, .int x1), (0, .ref x0), (1, .int x1), (2, .int x2), (3, .int x3)] (by decide +kernel) (by decide) (by first | rfl | simp [sm_rfc]) rfl ?_
  exact sm_sub [3, 5, 6, 2, 1, 0] rfl hf
def fM_takes_9 (N d : Nat) (h : sm_H) (Q : Option Value → sm_H → Prop) (x0 : Nat) (x2 : Int32) (x3 : Int32) (x4 : Int32) (x5 : Int32) (x6 : Int32) : Prop := ∃ z1 : Int32, sm_g h x0 5 24 = some (.int z1) ∧ ((z1 ≤ x6 → sm_W N (d + 1) mm_M_takes 43 [(0, .ref x0), (2, .int x2), (3, .int x3), (4, .int x4), (5, .int x5)] [] h Q) ∧ (¬ z1 ≤ x6 → ((x4 < 0 → sm_W N (d + 1) mm_M_takes 43 [(0, .ref x0), (2, .int x2), (3, .int x3), (4, .int x4), (5, .int x5)] [] h Q) ∧ (¬ x4 < 0 → sm_V N d mm_M_meets 5 x0 [.int x4, .int x6] h (fun r3 h2 => ∃ z4 : Int32, r3 = some (.int z4) ∧ sm_W N (d + 1) mm_M_takes 9 [(0, .ref x0), (2, .int x2), (3, .int x3), (4, .int z4), (5, .int x4), (6, .int (x6 + 1))] [] h2 Q)))))
set_option maxRecDepth 20000 in
set_option maxHeartbeats 4000000 in
theorem kM_takes_9 {N d : Nat} {h : sm_H} {Q : Option Value → sm_H → Prop} {x0 : Nat} {x2 : Int32} {x3 : Int32} {x4 : Int32} {x5 : Int32} {x6 : Int32} (hf : fM_takes_9 N d h Q x0 x2 x3 x4 x5 x6) : sm_W N (d + 1) mm_M_takes 9 [(0, .ref x0), (2, .int x2), (3, .int x3), (4, .int x4), (5, .int x5), (6, .int x6)] [] h Q := by
  unfold fM_takes_9 at hf
  refine sm_iload (i := 6) 11 5 (by decide +kernel) rfl rfl ?_
  refine sm_aload_n (k := 0) 12 0 (by decide +kernel) rfl rfl rfl ?_
  obtain ⟨z1, ez1, hf⟩ := hf
  refine sm_get 15 (by decide +kernel) fl_M_186 ez1 rfl ?_
  refine sm_icmp_ge (off := 28) 18 43 (by decide +kernel) (by decide) rfl (fun q6 => ?_) (fun q6 => ?_)
  · have hf := hf.1 q6
    exact sm_sub [0, 1, 2, 3, 4] rfl hf
  · have hf := hf.2 q6
    refine sm_iload (i := 4) 20 3 (by decide +kernel) rfl rfl ?_
    refine sm_if_lt (off := 23) 23 43 (by decide +kernel) (by decide) rfl (fun q5 => ?_) (fun q5 => ?_)
    · have hf := hf.1 q5
      exact sm_sub [0, 1, 2, 3, 4] rfl hf
    · have hf := hf.2 q5
      refine sm_iload (i := 4) 25 3 (by decide +kernel) rfl rfl ?_
      refine sm_istore (i := 5) 27 [(5, .int x4), (0, .ref x0), (2, .int x2), (3, .int x3), (4, .int x4), (6, .int x6)] (by decide +kernel) (by decide) (by first | rfl | simp [sm_rfc]) rfl ?_
      refine sm_aload_n (k := 0) 28 1 (by decide +kernel) rfl rfl rfl ?_
      refine sm_iload (i := 4) 30 4 (by decide +kernel) rfl rfl ?_
      refine sm_iload (i := 6) 32 5 (by decide +kernel) rfl rfl ?_
      refine sm_callV (M2 := mm_M_meets) (av := [.int x4, .int x6]) (rest := []) 35 (by decide +kernel) ml_M_217 (Nat.le_refl _) rfl rfl (by first | exact Nat.le_of_ble_eq_true rfl | simp [sm_rfc, Value.category]) rfl hf ?_
      rintro r3 h2 ⟨z4, rfl, hf⟩
      change sm_W N (d + 1) mm_M_takes 35 [(5, .int x4), (0, .ref x0), (2, .int x2), (3, .int x3), (4, .int x4), (6, .int x6)] [.int z4] h2 Q
      refine sm_istore (i := 4) 37 [(4, .int z4), (5, .int x4), (0, .ref x0), (2, .int x2), (3, .int x3), (6, .int x6)] (by decide +kernel) (by decide) (by first | rfl | simp [sm_rfc]) rfl ?_
      refine sm_iinc (i := 6) (j := 5) (z := 1) (y := x6 + 1) 40 [(6, .int (x6 + 1)), (4, .int z4), (5, .int x4), (0, .ref x0), (2, .int x2), (3, .int x3)] (by decide +kernel) rfl (by rfl) (by decide) rfl rfl ?_
      refine sm_goto (off := -31) 9 (by decide +kernel) (by decide) ?_
      exact sm_sub [3, 4, 5, 1, 2, 0] rfl hf
def fM_takes_43 (N d : Nat) (h : sm_H) (Q : Option Value → sm_H → Prop) (x0 : Nat) (x2 : Int32) (x3 : Int32) (x4 : Int32) (x5 : Int32) : Prop := ((0 ≤ x4 → ((x3 = 0 → ∃ z6 : Nat, sm_g h x0 5 7 = some (.ref z6) ∧ ∃ z7 : Int32, sm_gi h z6 1 x5 = some z7 ∧ ((z7 = 3 → sm_V N d mm_M_remove 5 x0 [.int x5, .int x4] h (fun r14 h13 => r14 = none ∧ Q (some (.int 0)) h13)) ∧ (¬ z7 = 3 → sm_V N d mm_M_make 5 x0 [.int 10] h (fun r9 h8 => ∃ z10 : Int32, r9 = some (.int z10) ∧ sm_V N d mm_M_replace 5 x0 [.int x5, .int x4, .int z10] h8 (fun r12 h11 => r12 = none ∧ Q (some (.int 0)) h11))))) ∧ (¬ x3 = 0 → ∃ z1 : Nat, sm_g h x0 5 7 = some (.ref z1) ∧ ∃ z2 : Int32, sm_gi h z1 1 x4 = some z2 ∧ ((z2 = 4 → ∃ z3 : Nat, sm_g h x0 5 13 = some (.ref z3) ∧ ∃ z4 : Int32, sm_gi h z3 1 x4 = some z4 ∧ sm_W N (d + 1) mm_M_takes 115 [(0, .ref x0), (2, .int x2), (4, .int x4), (6, .int z4)] [] h Q) ∧ (¬ z2 = 4 → Q (some (.int 7)) h))))) ∧ (¬ 0 ≤ x4 → Q (some (.int 0)) h))
set_option maxRecDepth 20000 in
set_option maxHeartbeats 4000000 in
theorem kM_takes_43 {N d : Nat} {h : sm_H} {Q : Option Value → sm_H → Prop} {x0 : Nat} {x2 : Int32} {x3 : Int32} {x4 : Int32} {x5 : Int32} (hf : fM_takes_43 N d h Q x0 x2 x3 x4 x5) : sm_W N (d + 1) mm_M_takes 43 [(0, .ref x0), (2, .int x2), (3, .int x3), (4, .int x4), (5, .int x5)] [] h Q := by
  unfold fM_takes_43 at hf
  refine sm_iload (i := 4) 45 3 (by decide +kernel) rfl rfl ?_
  refine sm_if_ge (off := 5) 48 50 (by decide +kernel) (by decide) rfl (fun q17 => ?_) (fun q17 => ?_)
  · have hf := hf.1 q17
    refine sm_iload_n (k := 3) 51 2 (by decide +kernel) rfl rfl rfl ?_
    refine sm_if_ne (off := 41) 54 92 (by decide +kernel) (by decide) rfl (fun q16 => ?_) (fun q16 => ?_)
    · have hf := hf.2 q16
      refine sm_aload_n (k := 0) 93 0 (by decide +kernel) rfl rfl rfl ?_
      obtain ⟨z1, ez1, hf⟩ := hf
      refine sm_get 96 (by decide +kernel) fl_M_20 ez1 rfl ?_
      refine sm_iload (i := 4) 98 3 (by decide +kernel) rfl rfl ?_
      obtain ⟨z2, ez2, hf⟩ := hf
      refine sm_iald 99 (by decide +kernel) ez2 rfl ?_
      refine sm_iconst (i := 4) (x := 4) 100 (by decide +kernel) rfl rfl ?_
      refine sm_icmp_eq (off := 6) 103 106 (by decide +kernel) (by decide) rfl (fun q5 => ?_) (fun q5 => ?_)
      · have hf := hf.1 q5
        refine sm_aload_n (k := 0) 107 0 (by decide +kernel) rfl rfl rfl ?_
        obtain ⟨z3, ez3, hf⟩ := hf
        refine sm_get 110 (by decide +kernel) fl_M_40 ez3 rfl ?_
        refine sm_iload (i := 4) 112 3 (by decide +kernel) rfl rfl ?_
        obtain ⟨z4, ez4, hf⟩ := hf
        refine sm_iald 113 (by decide +kernel) ez4 rfl ?_
        refine sm_istore (i := 6) 115 [(6, .int z4), (0, .ref x0), (2, .int x2), (3, .int x3), (4, .int x4), (5, .int x5)] (by decide +kernel) (by decide) (by first | rfl | simp [sm_rfc]) rfl ?_
        exact sm_sub [1, 2, 4, 0] rfl hf
      · have hf := hf.2 q5
        refine sm_bipush (i := 7) (x := 7) 105 (by decide +kernel) (by decide) rfl ?_
        exact sm_iret rfl (by decide +kernel) hf
    · have hf := hf.1 q16
      refine sm_aload_n (k := 0) 55 0 (by decide +kernel) rfl rfl rfl ?_
      obtain ⟨z6, ez6, hf⟩ := hf
      refine sm_get 58 (by decide +kernel) fl_M_20 ez6 rfl ?_
      refine sm_iload (i := 5) 60 4 (by decide +kernel) rfl rfl ?_
      obtain ⟨z7, ez7, hf⟩ := hf
      refine sm_iald 61 (by decide +kernel) ez7 rfl ?_
      refine sm_iconst (i := 3) (x := 3) 62 (by decide +kernel) rfl rfl ?_
      refine sm_icmp_ne (off := 14) 65 76 (by decide +kernel) (by decide) rfl (fun q15 => ?_) (fun q15 => ?_)
      · have hf := hf.2 q15
        refine sm_aload_n (k := 0) 77 0 (by decide +kernel) rfl rfl rfl ?_
        refine sm_iload (i := 5) 79 4 (by decide +kernel) rfl rfl ?_
        refine sm_iload (i := 4) 81 3 (by decide +kernel) rfl rfl ?_
        refine sm_aload_n (k := 0) 82 0 (by decide +kernel) rfl rfl rfl ?_
        refine sm_bipush (i := 10) (x := 10) 84 (by decide +kernel) (by decide) rfl ?_
        refine sm_callV (M2 := mm_M_make) (av := [.int 10]) (rest := [.int x4, .int x5, .ref x0]) 87 (by decide +kernel) ml_M_113 (Nat.le_refl _) rfl rfl (by first | exact Nat.le_of_ble_eq_true rfl | simp [sm_rfc, Value.category]) rfl hf ?_
        rintro r9 h8 ⟨z10, rfl, hf⟩
        change sm_W N (d + 1) mm_M_takes 87 [(0, .ref x0), (2, .int x2), (3, .int x3), (4, .int x4), (5, .int x5)] [.int z10, .int x4, .int x5, .ref x0] h8 Q
        refine sm_callV (M2 := mm_M_replace) (av := [.int x5, .int x4, .int z10]) (rest := []) 90 (by decide +kernel) ml_M_226 (Nat.le_refl _) rfl rfl (by first | exact Nat.le_of_ble_eq_true rfl | simp [sm_rfc, Value.category]) rfl hf ?_
        rintro r12 h11 ⟨rfl, hf⟩
        change sm_W N (d + 1) mm_M_takes 90 [(0, .ref x0), (2, .int x2), (3, .int x3), (4, .int x4), (5, .int x5)] [] h11 Q
        refine sm_iconst (i := 0) (x := 0) 91 (by decide +kernel) rfl rfl ?_
        exact sm_iret rfl (by decide +kernel) hf
      · have hf := hf.1 q15
        refine sm_aload_n (k := 0) 66 0 (by decide +kernel) rfl rfl rfl ?_
        refine sm_iload (i := 5) 68 4 (by decide +kernel) rfl rfl ?_
        refine sm_iload (i := 4) 70 3 (by decide +kernel) rfl rfl ?_
        refine sm_callV (M2 := mm_M_remove) (av := [.int x5, .int x4]) (rest := []) 73 (by decide +kernel) ml_M_239 (Nat.le_refl _) rfl rfl (by first | exact Nat.le_of_ble_eq_true rfl | simp [sm_rfc, Value.category]) rfl hf ?_
        rintro r14 h13 ⟨rfl, hf⟩
        change sm_W N (d + 1) mm_M_takes 73 [(0, .ref x0), (2, .int x2), (3, .int x3), (4, .int x4), (5, .int x5)] [] h13 Q
        refine sm_goto (off := 17) 90 (by decide +kernel) (by decide) ?_
        refine sm_iconst (i := 0) (x := 0) 91 (by decide +kernel) rfl rfl ?_
        exact sm_iret rfl (by decide +kernel) hf
  · have hf := hf.2 q17
    refine sm_iconst (i := 0) (x := 0) 49 (by decide +kernel) rfl rfl ?_
    exact sm_iret rfl (by decide +kernel) hf
def fM_takes_115 (N d : Nat) (h : sm_H) (Q : Option Value → sm_H → Prop) (x0 : Nat) (x2 : Int32) (x4 : Int32) (x6 : Int32) : Prop := ((x6 < 0 → Q (some (.int 0)) h) ∧ (¬ x6 < 0 → ∃ z1 : Nat, sm_g h x0 5 14 = some (.ref z1) ∧ ∃ z2 : Int32, sm_gi h z1 1 x6 = some z2 ∧ sm_V N d mm_M_same 5 x0 [.int x6, .int x2] h (fun r4 h3 => ∃ z5 : Int32, r4 = some (.int z5) ∧ ((z5 = 0 → sm_W N (d + 1) mm_M_takes 147 [(0, .ref x0), (2, .int x2), (4, .int x4), (7, .int z2)] [] h3 Q) ∧ (¬ z5 = 0 → sm_V N d mm_M_remove 5 x0 [.int x4, .int x6] h3 (fun r7 h6 => r7 = none ∧ sm_W N (d + 1) mm_M_takes 147 [(0, .ref x0), (2, .int x2), (4, .int x4), (7, .int z2)] [] h6 Q))))))
set_option maxRecDepth 20000 in
set_option maxHeartbeats 4000000 in
theorem kM_takes_115 {N d : Nat} {h : sm_H} {Q : Option Value → sm_H → Prop} {x0 : Nat} {x2 : Int32} {x4 : Int32} {x6 : Int32} (hf : fM_takes_115 N d h Q x0 x2 x4 x6) : sm_W N (d + 1) mm_M_takes 115 [(0, .ref x0), (2, .int x2), (4, .int x4), (6, .int x6)] [] h Q := by
  unfold fM_takes_115 at hf
  refine sm_iload (i := 6) 117 3 (by decide +kernel) rfl rfl ?_
  refine sm_if_lt (off := 37) 120 154 (by decide +kernel) (by decide) rfl (fun q9 => ?_) (fun q9 => ?_)
  · have hf := hf.1 q9
    refine sm_iconst (i := 0) (x := 0) 155 (by decide +kernel) rfl rfl ?_
    exact sm_iret rfl (by decide +kernel) hf
  · have hf := hf.2 q9
    refine sm_aload_n (k := 0) 121 0 (by decide +kernel) rfl rfl rfl ?_
    obtain ⟨z1, ez1, hf⟩ := hf
    refine sm_get 124 (by decide +kernel) fl_M_43 ez1 rfl ?_
    refine sm_iload (i := 6) 126 3 (by decide +kernel) rfl rfl ?_
    obtain ⟨z2, ez2, hf⟩ := hf
    refine sm_iald 127 (by decide +kernel) ez2 rfl ?_
    refine sm_istore (i := 7) 129 [(7, .int z2), (0, .ref x0), (2, .int x2), (4, .int x4), (6, .int x6)] (by decide +kernel) (by decide) (by first | rfl | simp [sm_rfc]) rfl ?_
    refine sm_aload_n (k := 0) 130 1 (by decide +kernel) rfl rfl rfl ?_
    refine sm_iload (i := 6) 132 4 (by decide +kernel) rfl rfl ?_
    refine sm_iload_n (k := 2) 133 2 (by decide +kernel) rfl rfl rfl ?_
    refine sm_callV (M2 := mm_M_same) (av := [.int x6, .int x2]) (rest := []) 136 (by decide +kernel) ml_M_236 (Nat.le_refl _) rfl rfl (by first | exact Nat.le_of_ble_eq_true rfl | simp [sm_rfc, Value.category]) rfl hf ?_
    rintro r4 h3 ⟨z5, rfl, hf⟩
    change sm_W N (d + 1) mm_M_takes 136 [(7, .int z2), (0, .ref x0), (2, .int x2), (4, .int x4), (6, .int x6)] [.int z5] h3 Q
    refine sm_if_eq (off := 11) 139 147 (by decide +kernel) (by decide) rfl (fun q8 => ?_) (fun q8 => ?_)
    · have hf := hf.1 q8
      exact sm_sub [1, 2, 3, 0] rfl hf
    · have hf := hf.2 q8
      refine sm_aload_n (k := 0) 140 1 (by decide +kernel) rfl rfl rfl ?_
      refine sm_iload (i := 4) 142 3 (by decide +kernel) rfl rfl ?_
      refine sm_iload (i := 6) 144 4 (by decide +kernel) rfl rfl ?_
      refine sm_callV (M2 := mm_M_remove) (av := [.int x4, .int x6]) (rest := []) 147 (by decide +kernel) ml_M_239 (Nat.le_refl _) rfl rfl (by first | exact Nat.le_of_ble_eq_true rfl | simp [sm_rfc, Value.category]) rfl hf ?_
      rintro r7 h6 ⟨rfl, hf⟩
      change sm_W N (d + 1) mm_M_takes 147 [(7, .int z2), (0, .ref x0), (2, .int x2), (4, .int x4), (6, .int x6)] [] h6 Q
      exact sm_sub [1, 2, 3, 0] rfl hf
def fM_takes_147 (N d : Nat) (h : sm_H) (Q : Option Value → sm_H → Prop) (x0 : Nat) (x2 : Int32) (x4 : Int32) (x7 : Int32) : Prop := sm_W N (d + 1) mm_M_takes 115 [(0, .ref x0), (2, .int x2), (4, .int x4), (6, .int x7)] [] h Q
set_option maxRecDepth 20000 in
set_option maxHeartbeats 4000000 in
theorem kM_takes_147 {N d : Nat} {h : sm_H} {Q : Option Value → sm_H → Prop} {x0 : Nat} {x2 : Int32} {x4 : Int32} {x7 : Int32} (hf : fM_takes_147 N d h Q x0 x2 x4 x7) : sm_W N (d + 1) mm_M_takes 147 [(0, .ref x0), (2, .int x2), (4, .int x4), (7, .int x7)] [] h Q := by
  unfold fM_takes_147 at hf
  refine sm_iload (i := 7) 149 3 (by decide +kernel) rfl rfl ?_
  refine sm_istore (i := 6) 151 [(6, .int x7), (0, .ref x0), (2, .int x2), (4, .int x4), (7, .int x7)] (by decide +kernel) (by decide) (by first | rfl | simp [sm_rfc]) rfl ?_
  refine sm_goto (off := -36) 115 (by decide +kernel) (by decide) ?_
  exact sm_sub [1, 2, 3, 0] rfl hf
theorem cM_takes {N d : Nat} {h : sm_H} {Q : Option Value → sm_H → Prop} {x0 : Nat} {x1 : Int32} {x2 : Int32} {x3 : Int32} (hb : ∃ fs, h[x0]? = some (.inr (5, fs))) (hf : fM_takes_0 N d h Q x0 x1 x2 x3) : sm_V N (d + 1) mm_M_takes 5 x0 [.int x1, .int x2, .int x3] h Q := ⟨hb, sm_meth (by decide +kernel) (fun _ => Nat.le_of_ble_eq_true rfl) (fun _ => rfl) (kM_takes_0 hf)⟩
def fM_isChanged_0 (N d : Nat) (h : sm_H) (Q : Option Value → sm_H → Prop) (x0 : Nat) : Prop := ∃ z1 : Int32, sm_g h x0 5 19 = some (.int z1) ∧ ∃ z2 : Int32, sm_g h x0 5 22 = some (.int z2) ∧ ((z1 = z2 → sm_W N (d + 1) mm_M_isChanged 16 [(0, .ref x0)] [.int 0] h Q) ∧ (¬ z1 = z2 → sm_W N (d + 1) mm_M_isChanged 16 [(0, .ref x0)] [.int 1] h Q))
set_option maxRecDepth 20000 in
set_option maxHeartbeats 4000000 in
theorem kM_isChanged_0 {N d : Nat} {h : sm_H} {Q : Option Value → sm_H → Prop} {x0 : Nat} (hf : fM_isChanged_0 N d h Q x0) : sm_W N (d + 1) mm_M_isChanged 0 [(0, .ref x0)] [] h Q := by
  unfold fM_isChanged_0 at hf
  refine sm_aload_n (k := 0) 1 0 (by decide +kernel) rfl rfl rfl ?_
  obtain ⟨z1, ez1, hf⟩ := hf
  refine sm_get 4 (by decide +kernel) fl_M_149 ez1 rfl ?_
  refine sm_aload_n (k := 0) 5 0 (by decide +kernel) rfl rfl rfl ?_
  obtain ⟨z2, ez2, hf⟩ := hf
  refine sm_get 8 (by decide +kernel) fl_M_242 ez2 rfl ?_
  refine sm_icmp_eq (off := 7) 11 15 (by decide +kernel) (by decide) rfl (fun q3 => ?_) (fun q3 => ?_)
  · have hf := hf.1 q3
    refine sm_iconst (i := 0) (x := 0) 16 (by decide +kernel) rfl rfl ?_
    exact sm_sub [0] rfl hf
  · have hf := hf.2 q3
    refine sm_iconst (i := 1) (x := 1) 12 (by decide +kernel) rfl rfl ?_
    refine sm_goto (off := 4) 16 (by decide +kernel) (by decide) ?_
    exact sm_sub [0] rfl hf
def fM_isChanged_16 (N d : Nat) (h : sm_H) (Q : Option Value → sm_H → Prop) (x0 : Nat) (y0 : Int32) : Prop := sm_W N (d + 1) mm_M_isChanged 19 [(0, .ref x0), (1, .int y0), (2, .int 0)] [] h Q
set_option maxRecDepth 20000 in
set_option maxHeartbeats 4000000 in
theorem kM_isChanged_16 {N d : Nat} {h : sm_H} {Q : Option Value → sm_H → Prop} {x0 : Nat} {y0 : Int32} (hf : fM_isChanged_16 N d h Q x0 y0) : sm_W N (d + 1) mm_M_isChanged 16 [(0, .ref x0)] [.int y0] h Q := by
  unfold fM_isChanged_16 at hf
  refine sm_istore_n (k := 1) 17 [(1, .int y0), (0, .ref x0)] (by decide +kernel) rfl (by decide) (by first | rfl | simp [sm_rfc]) rfl ?_
  refine sm_iconst (i := 0) (x := 0) 18 (by decide +kernel) rfl rfl ?_
  refine sm_istore_n (k := 2) 19 [(2, .int 0), (1, .int y0), (0, .ref x0)] (by decide +kernel) rfl (by decide) (by first | rfl | simp [sm_rfc]) rfl ?_
  exact sm_sub [2, 1, 0] rfl hf
def fM_isChanged_19 (N d : Nat) (h : sm_H) (Q : Option Value → sm_H → Prop) (x0 : Nat) (x1 : Int32) (x2 : Int32) : Prop := ∃ z1 : Int32, sm_g h x0 5 19 = some (.int z1) ∧ ((z1 ≤ x2 → sm_W N (d + 1) mm_M_isChanged 58 [(0, .ref x0), (1, .int x1)] [] h Q) ∧ (¬ z1 ≤ x2 → ((x1 = 0 → ∃ z2 : Nat, sm_g h x0 5 21 = some (.ref z2) ∧ ∃ z3 : Int32, sm_gi h z2 0 x2 = some z3 ∧ ∃ z4 : Nat, sm_g h x0 5 23 = some (.ref z4) ∧ ∃ z5 : Int32, sm_gi h z4 0 x2 = some z5 ∧ ((z3 = z5 → sm_W N (d + 1) mm_M_isChanged 51 [(0, .ref x0), (2, .int x2)] [.int 0] h Q) ∧ (¬ z3 = z5 → sm_W N (d + 1) mm_M_isChanged 51 [(0, .ref x0), (2, .int x2)] [.int 1] h Q))) ∧ (¬ x1 = 0 → sm_W N (d + 1) mm_M_isChanged 58 [(0, .ref x0), (1, .int x1)] [] h Q))))
set_option maxRecDepth 20000 in
set_option maxHeartbeats 4000000 in
theorem kM_isChanged_19 {N d : Nat} {h : sm_H} {Q : Option Value → sm_H → Prop} {x0 : Nat} {x1 : Int32} {x2 : Int32} (hf : fM_isChanged_19 N d h Q x0 x1 x2) : sm_W N (d + 1) mm_M_isChanged 19 [(0, .ref x0), (1, .int x1), (2, .int x2)] [] h Q := by
  unfold fM_isChanged_19 at hf
  refine sm_iload_n (k := 2) 20 2 (by decide +kernel) rfl rfl rfl ?_
  refine sm_aload_n (k := 0) 21 0 (by decide +kernel) rfl rfl rfl ?_
  obtain ⟨z1, ez1, hf⟩ := hf
  refine sm_get 24 (by decide +kernel) fl_M_149 ez1 rfl ?_
  refine sm_icmp_ge (off := 34) 27 58 (by decide +kernel) (by decide) rfl (fun q8 => ?_) (fun q8 => ?_)
  · have hf := hf.1 q8
    exact sm_sub [0, 1] rfl hf
  · have hf := hf.2 q8
    refine sm_iload_n (k := 1) 28 1 (by decide +kernel) rfl rfl rfl ?_
    refine sm_if_ne (off := 30) 31 58 (by decide +kernel) (by decide) rfl (fun q7 => ?_) (fun q7 => ?_)
    · have hf := hf.2 q7
      exact sm_sub [0, 1] rfl hf
    · have hf := hf.1 q7
      refine sm_aload_n (k := 0) 32 0 (by decide +kernel) rfl rfl rfl ?_
      obtain ⟨z2, ez2, hf⟩ := hf
      refine sm_get 35 (by decide +kernel) fl_M_58 ez2 rfl ?_
      refine sm_iload_n (k := 2) 36 2 (by decide +kernel) rfl rfl rfl ?_
      obtain ⟨z3, ez3, hf⟩ := hf
      refine sm_bald 37 (by decide +kernel) ez3 rfl ?_
      refine sm_aload_n (k := 0) 38 0 (by decide +kernel) rfl rfl rfl ?_
      obtain ⟨z4, ez4, hf⟩ := hf
      refine sm_get 41 (by decide +kernel) fl_M_61 ez4 rfl ?_
      refine sm_iload_n (k := 2) 42 2 (by decide +kernel) rfl rfl rfl ?_
      obtain ⟨z5, ez5, hf⟩ := hf
      refine sm_bald 43 (by decide +kernel) ez5 rfl ?_
      refine sm_icmp_eq (off := 7) 46 50 (by decide +kernel) (by decide) rfl (fun q6 => ?_) (fun q6 => ?_)
      · have hf := hf.1 q6
        refine sm_iconst (i := 0) (x := 0) 51 (by decide +kernel) rfl rfl ?_
        exact sm_sub [0, 2] rfl hf
      · have hf := hf.2 q6
        refine sm_iconst (i := 1) (x := 1) 47 (by decide +kernel) rfl rfl ?_
        refine sm_goto (off := 4) 51 (by decide +kernel) (by decide) ?_
        exact sm_sub [0, 2] rfl hf
def fM_isChanged_51 (N d : Nat) (h : sm_H) (Q : Option Value → sm_H → Prop) (x0 : Nat) (x2 : Int32) (y0 : Int32) : Prop := sm_W N (d + 1) mm_M_isChanged 19 [(0, .ref x0), (1, .int y0), (2, .int (x2 + 1))] [] h Q
set_option maxRecDepth 20000 in
set_option maxHeartbeats 4000000 in
theorem kM_isChanged_51 {N d : Nat} {h : sm_H} {Q : Option Value → sm_H → Prop} {x0 : Nat} {x2 : Int32} {y0 : Int32} (hf : fM_isChanged_51 N d h Q x0 x2 y0) : sm_W N (d + 1) mm_M_isChanged 51 [(0, .ref x0), (2, .int x2)] [.int y0] h Q := by
  unfold fM_isChanged_51 at hf
  refine sm_istore_n (k := 1) 52 [(1, .int y0), (0, .ref x0), (2, .int x2)] (by decide +kernel) rfl (by decide) (by first | rfl | simp [sm_rfc]) rfl ?_
  refine sm_iinc (i := 2) (j := 2) (z := 1) (y := x2 + 1) 55 [(2, .int (x2 + 1)), (1, .int y0), (0, .ref x0)] (by decide +kernel) rfl (by rfl) (by decide) rfl rfl ?_
  refine sm_goto (off := -36) 19 (by decide +kernel) (by decide) ?_
  exact sm_sub [2, 1, 0] rfl hf
def fM_isChanged_58 (N d : Nat) (h : sm_H) (Q : Option Value → sm_H → Prop) (x0 : Nat) (x1 : Int32) : Prop := ∃ z1 : Int32, sm_g h x0 5 19 = some (.int z1) ∧ ∃ h2, sm_p h x0 5 22 (.int z1) = some h2 ∧ sm_W N (d + 1) mm_M_isChanged 68 [(0, .ref x0), (1, .int x1), (2, .int 0)] [] h2 Q
set_option maxRecDepth 20000 in
set_option maxHeartbeats 4000000 in
theorem kM_isChanged_58 {N d : Nat} {h : sm_H} {Q : Option Value → sm_H → Prop} {x0 : Nat} {x1 : Int32} (hf : fM_isChanged_58 N d h Q x0 x1) : sm_W N (d + 1) mm_M_isChanged 58 [(0, .ref x0), (1, .int x1)] [] h Q := by
  unfold fM_isChanged_58 at hf
  refine sm_aload_n (k := 0) 59 0 (by decide +kernel) rfl rfl rfl ?_
  refine sm_aload_n (k := 0) 60 0 (by decide +kernel) rfl rfl rfl ?_
  obtain ⟨z1, ez1, hf⟩ := hf
  refine sm_get 63 (by decide +kernel) fl_M_149 ez1 rfl ?_
  obtain ⟨h2, eh2, hf⟩ := hf
  refine sm_put (ty := .int) 66 (by decide +kernel) fp_M_242 (fun _ => rfl) rfl rfl eh2 rfl ?_
  refine sm_iconst (i := 0) (x := 0) 67 (by decide +kernel) rfl rfl ?_
  refine sm_istore_n (k := 2) 68 [(2, .int 0), (0, .ref x0), (1, .int x1)] (by decide +kernel) rfl (by decide) (by first | rfl | simp [sm_rfc]) rfl ?_
  exact sm_sub [1, 2, 0] rfl hf
def fM_isChanged_68 (N d : Nat) (h : sm_H) (Q : Option Value → sm_H → Prop) (x0 : Nat) (x1 : Int32) (x2 : Int32) : Prop := ∃ z1 : Int32, sm_g h x0 5 19 = some (.int z1) ∧ ((z1 ≤ x2 → ((x1 = 0 ∨ x1 = 1) ∧ Q (some (.int x1)) h)) ∧ (¬ z1 ≤ x2 → ∃ z2 : Nat, sm_g h x0 5 23 = some (.ref z2) ∧ ∃ z3 : Nat, sm_g h x0 5 21 = some (.ref z3) ∧ ∃ z4 : Int32, sm_gi h z3 0 x2 = some z4 ∧ ∃ h5, sm_pb h z2 x2 z4 = some h5 ∧ sm_W N (d + 1) mm_M_isChanged 68 [(0, .ref x0), (1, .int x1), (2, .int (x2 + 1))] [] h5 Q))
set_option maxRecDepth 20000 in
set_option maxHeartbeats 4000000 in
theorem kM_isChanged_68 {N d : Nat} {h : sm_H} {Q : Option Value → sm_H → Prop} {x0 : Nat} {x1 : Int32} {x2 : Int32} (hf : fM_isChanged_68 N d h Q x0 x1 x2) : sm_W N (d + 1) mm_M_isChanged 68 [(0, .ref x0), (1, .int x1), (2, .int x2)] [] h Q := by
  unfold fM_isChanged_68 at hf
  refine sm_iload_n (k := 2) 69 2 (by decide +kernel) rfl rfl rfl ?_
  refine sm_aload_n (k := 0) 70 0 (by decide +kernel) rfl rfl rfl ?_
  obtain ⟨z1, ez1, hf⟩ := hf
  refine sm_get 73 (by decide +kernel) fl_M_149 ez1 rfl ?_
  refine sm_icmp_ge (off := 21) 76 94 (by decide +kernel) (by decide) rfl (fun q6 => ?_) (fun q6 => ?_)
  · have hf := hf.1 q6
    refine sm_iload_n (k := 1) 95 1 (by decide +kernel) rfl rfl rfl ?_
    exact sm_zret rfl (by decide +kernel) hf.1 hf.2
  · have hf := hf.2 q6
    refine sm_aload_n (k := 0) 77 0 (by decide +kernel) rfl rfl rfl ?_
    obtain ⟨z2, ez2, hf⟩ := hf
    refine sm_get 80 (by decide +kernel) fl_M_61 ez2 rfl ?_
    refine sm_iload_n (k := 2) 81 2 (by decide +kernel) rfl rfl rfl ?_
    refine sm_aload_n (k := 0) 82 0 (by decide +kernel) rfl rfl rfl ?_
    obtain ⟨z3, ez3, hf⟩ := hf
    refine sm_get 85 (by decide +kernel) fl_M_58 ez3 rfl ?_
    refine sm_iload_n (k := 2) 86 2 (by decide +kernel) rfl rfl rfl ?_
    obtain ⟨z4, ez4, hf⟩ := hf
    refine sm_bald 87 (by decide +kernel) ez4 rfl ?_
    obtain ⟨h5, eh5, hf⟩ := hf
    refine sm_bast 88 (by decide +kernel) eh5 rfl ?_
    refine sm_iinc (i := 2) (j := 2) (z := 1) (y := x2 + 1) 91 [(2, .int (x2 + 1)), (0, .ref x0), (1, .int x1)] (by decide +kernel) rfl (by rfl) (by decide) rfl rfl ?_
    refine sm_goto (off := -23) 68 (by decide +kernel) (by decide) ?_
    exact sm_sub [1, 2, 0] rfl hf
theorem cM_isChanged {N d : Nat} {h : sm_H} {Q : Option Value → sm_H → Prop} {x0 : Nat} (hb : ∃ fs, h[x0]? = some (.inr (5, fs))) (hf : fM_isChanged_0 N d h Q x0) : sm_V N (d + 1) mm_M_isChanged 5 x0 [] h Q := ⟨hb, sm_meth (by decide +kernel) (fun _ => Nat.le_of_ble_eq_true rfl) (fun _ => rfl) (kM_isChanged_0 hf)⟩
def fM_apply_0 (N d : Nat) (h : sm_H) (Q : Option Value → sm_H → Prop) (x0 : Nat) (x1 : Int32) : Prop := sm_T N d mm_M_isSlot [.int x1] h (fun r2 h1 => ∃ z3 : Int32, r2 = some (.int z3) ∧ ((z3 = 0 → Q (some (.int (-1))) h1) ∧ (¬ z3 = 0 → ∃ z4 : Int32, sm_g h1 x0 5 3 = some (.int z4) ∧ ((z4 = 0 → Q (some (.int (-2))) h1) ∧ (¬ z4 = 0 → ∃ h5, sm_p h1 x0 5 6 (.int 0) = some h5 ∧ sm_V N d mm_M_whole 5 x0 [.int (2000 * x1)] h5 (fun r7 h6 => ∃ z8 : Int32, r7 = some (.int z8) ∧ sm_V N d mm_M_load 5 x0 [.int (2000 * x1), .int z8] h6 (fun r10 h9 => ∃ z11 : Int32, r10 = some (.int z11) ∧ sm_V N d mm_M_whole 5 x0 [.int 8000] h9 (fun r13 h12 => ∃ z14 : Int32, r13 = some (.int z14) ∧ sm_V N d mm_M_load 5 x0 [.int 8000, .int z14] h12 (fun r16 h15 => ∃ z17 : Int32, r16 = some (.int z17) ∧ sm_V N d mm_M_print 5 x0 [.int z11] h15 (fun r19 h18 => r19 = none ∧ sm_V N d mm_M_isChanged 5 x0 [] h18 (fun r21 h20 => ∃ z22 : Int32, r21 = some (.int z22) ∧ ∃ z23 : Nat, sm_g h20 x0 5 13 = some (.ref z23) ∧ ∃ z24 : Int32, sm_gi h20 z23 1 z17 = some z24 ∧ sm_W N (d + 1) mm_M_apply 82 [(0, .ref x0), (1, .int x1), (2, .int z11), (4, .int 0), (5, .int 0), (6, .int z24)] [] h20 Q)))))))))))
set_option maxRecDepth 20000 in
set_option maxHeartbeats 4000000 in
theorem kM_apply_0 {N d : Nat} {h : sm_H} {Q : Option Value → sm_H → Prop} {x0 : Nat} {x1 : Int32} (hf : fM_apply_0 N d h Q x0 x1) : sm_W N (d + 1) mm_M_apply 0 [(0, .ref x0), (1, .int x1)] [] h Q := by
  unfold fM_apply_0 at hf
  refine sm_iload_n (k := 1) 1 1 (by decide +kernel) rfl rfl rfl ?_
  refine sm_callS (M2 := mm_M_isSlot) (av := [.int x1]) (rest := []) 4 (by decide +kernel) ml_M_143 (Nat.le_refl _) rfl rfl (by first | exact Nat.le_of_ble_eq_true rfl | simp [sm_rfc, Value.category]) rfl hf ?_
  rintro r2 h1 ⟨z3, rfl, hf⟩
  change sm_W N (d + 1) mm_M_apply 4 [(0, .ref x0), (1, .int x1)] [.int z3] h1 Q
  refine sm_if_ne (off := 5) 7 9 (by decide +kernel) (by decide) rfl (fun q26 => ?_) (fun q26 => ?_)
  · have hf := hf.2 q26
    refine sm_aload_n (k := 0) 10 0 (by decide +kernel) rfl rfl rfl ?_
    obtain ⟨z4, ez4, hf⟩ := hf
    refine sm_get 13 (by decide +kernel) fl_M_204 ez4 rfl ?_
    refine sm_if_ne (off := 6) 16 19 (by decide +kernel) (by decide) rfl (fun q25 => ?_) (fun q25 => ?_)
    · have hf := hf.2 q25
      refine sm_aload_n (k := 0) 20 0 (by decide +kernel) rfl rfl rfl ?_
      refine sm_iconst (i := 0) (x := 0) 21 (by decide +kernel) rfl rfl ?_
      obtain ⟨h5, eh5, hf⟩ := hf
      refine sm_put (ty := .int) 24 (by decide +kernel) fp_M_94 (fun _ => rfl) rfl rfl eh5 rfl ?_
      refine sm_aload_n (k := 0) 25 0 (by decide +kernel) rfl rfl rfl ?_
      refine sm_sipush (i := 2000) (x := 2000) 28 (by decide +kernel) (by decide) rfl ?_
      refine sm_iload_n (k := 1) 29 1 (by decide +kernel) rfl rfl rfl ?_
      refine sm_imul 30 (by decide +kernel) rfl ?_
      refine sm_aload_n (k := 0) 31 0 (by decide +kernel) rfl rfl rfl ?_
      refine sm_sipush (i := 2000) (x := 2000) 34 (by decide +kernel) (by decide) rfl ?_
      refine sm_iload_n (k := 1) 35 1 (by decide +kernel) rfl rfl rfl ?_
      refine sm_imul 36 (by decide +kernel) rfl ?_
      refine sm_callV (M2 := mm_M_whole) (av := [.int (2000 * x1)]) (rest := [.int (2000 * x1), .ref x0]) 39 (by decide +kernel) ml_M_102 (Nat.le_refl _) rfl rfl (by first | exact Nat.le_of_ble_eq_true rfl | simp [sm_rfc, Value.category]) rfl hf ?_
      rintro r7 h6 ⟨z8, rfl, hf⟩
      change sm_W N (d + 1) mm_M_apply 39 [(0, .ref x0), (1, .int x1)] [.int z8, .int (2000 * x1), .ref x0] h6 Q
      refine sm_callV (M2 := mm_M_load) (av := [.int (2000 * x1), .int z8]) (rest := []) 42 (by decide +kernel) ml_M_140 (Nat.le_refl _) rfl rfl (by first | exact Nat.le_of_ble_eq_true rfl | simp [sm_rfc, Value.category]) rfl hf ?_
      rintro r10 h9 ⟨z11, rfl, hf⟩
      change sm_W N (d + 1) mm_M_apply 42 [(0, .ref x0), (1, .int x1)] [.int z11] h9 Q
      refine sm_istore_n (k := 2) 43 [(2, .int z11), (0, .ref x0), (1, .int x1)] (by decide +kernel) rfl (by decide) (by first | rfl | simp [sm_rfc]) rfl ?_
      refine sm_aload_n (k := 0) 44 1 (by decide +kernel) rfl rfl rfl ?_
      refine sm_sipush (i := 8000) (x := 8000) 47 (by decide +kernel) (by decide) rfl ?_
      refine sm_aload_n (k := 0) 48 1 (by decide +kernel) rfl rfl rfl ?_
      refine sm_sipush (i := 8000) (x := 8000) 51 (by decide +kernel) (by decide) rfl ?_
      refine sm_callV (M2 := mm_M_whole) (av := [.int 8000]) (rest := [.int 8000, .ref x0]) 54 (by decide +kernel) ml_M_102 (Nat.le_refl _) rfl rfl (by first | exact Nat.le_of_ble_eq_true rfl | simp [sm_rfc, Value.category]) rfl hf ?_
      rintro r13 h12 ⟨z14, rfl, hf⟩
      change sm_W N (d + 1) mm_M_apply 54 [(2, .int z11), (0, .ref x0), (1, .int x1)] [.int z14, .int 8000, .ref x0] h12 Q
      refine sm_callV (M2 := mm_M_load) (av := [.int 8000, .int z14]) (rest := []) 57 (by decide +kernel) ml_M_140 (Nat.le_refl _) rfl rfl (by first | exact Nat.le_of_ble_eq_true rfl | simp [sm_rfc, Value.category]) rfl hf ?_
      rintro r16 h15 ⟨z17, rfl, hf⟩
      change sm_W N (d + 1) mm_M_apply 57 [(2, .int z11), (0, .ref x0), (1, .int x1)] [.int z17] h15 Q
      refine sm_istore_n (k := 3) 58 [(3, .int z17), (2, .int z11), (0, .ref x0), (1, .int x1)] (by decide +kernel) rfl (by decide) (by first | rfl | simp [sm_rfc]) rfl ?_
      refine sm_aload_n (k := 0) 59 2 (by decide +kernel) rfl rfl rfl ?_
      refine sm_iload_n (k := 2) 60 1 (by decide +kernel) rfl rfl rfl ?_
      refine sm_callV (M2 := mm_M_print) (av := [.int z11]) (rest := []) 63 (by decide +kernel) ml_M_245 (Nat.le_refl _) rfl rfl (by first | exact Nat.le_of_ble_eq_true rfl | simp [sm_rfc, Value.category]) rfl hf ?_
      rintro r19 h18 ⟨rfl, hf⟩
      change sm_W N (d + 1) mm_M_apply 63 [(3, .int z17), (2, .int z11), (0, .ref x0), (1, .int x1)] [] h18 Q
      refine sm_aload_n (k := 0) 64 2 (by decide +kernel) rfl rfl rfl ?_
      refine sm_callV (M2 := mm_M_isChanged) (av := []) (rest := []) 67 (by decide +kernel) ml_M_248 (Nat.le_refl _) rfl rfl (by first | exact Nat.le_of_ble_eq_true rfl | simp [sm_rfc, Value.category]) rfl hf ?_
      rintro r21 h20 ⟨z22, rfl, hf⟩
      change sm_W N (d + 1) mm_M_apply 67 [(3, .int z17), (2, .int z11), (0, .ref x0), (1, .int x1)] [.int z22] h20 Q
      refine sm_pop 68 (by decide +kernel) (by first | rfl | simp [sm_rfc]) rfl ?_
      refine sm_iconst (i := 0) (x := 0) 69 (by decide +kernel) rfl rfl ?_
      refine sm_istore (i := 4) 71 [(4, .int 0), (3, .int z17), (2, .int z11), (0, .ref x0), (1, .int x1)] (by decide +kernel) (by decide) (by first | rfl | simp [sm_rfc]) rfl ?_
      refine sm_iconst (i := 0) (x := 0) 72 (by decide +kernel) rfl rfl ?_
      refine sm_istore (i := 5) 74 [(5, .int 0), (4, .int 0), (3, .int z17), (2, .int z11), (0, .ref x0), (1, .int x1)] (by decide +kernel) (by decide) (by first | rfl | simp [sm_rfc]) rfl ?_
      refine sm_aload_n (k := 0) 75 4 (by decide +kernel) rfl rfl rfl ?_
      obtain ⟨z23, ez23, hf⟩ := hf
      refine sm_get 78 (by decide +kernel) fl_M_40 ez23 rfl ?_
      refine sm_iload_n (k := 3) 79 2 (by decide +kernel) rfl rfl rfl ?_
      obtain ⟨z24, ez24, hf⟩ := hf
      refine sm_iald 80 (by decide +kernel) ez24 rfl ?_
      refine sm_istore (i := 6) 82 [(6, .int z24), (5, .int 0), (4, .int 0), (3, .int z17), (2, .int z11), (0, .ref x0), (1, .int x1)] (by decide +kernel) (by decide) (by first | rfl | simp [sm_rfc]) rfl ?_
      exact sm_sub [5, 6, 4, 2, 1, 0] rfl hf
    · have hf := hf.1 q25
      refine sm_bipush (i := -2) (x := (-2)) 18 (by decide +kernel) (by decide) rfl ?_
      exact sm_iret rfl (by decide +kernel) hf
  · have hf := hf.1 q26
    refine sm_iconst (i := -1) (x := (-1)) 8 (by decide +kernel) rfl rfl ?_
    exact sm_iret rfl (by decide +kernel) hf
def fM_apply_82 (N d : Nat) (h : sm_H) (Q : Option Value → sm_H → Prop) (x0 : Nat) (x1 : Int32) (x2 : Int32) (x4 : Int32) (x5 : Int32) (x6 : Int32) : Prop := ((x6 < 0 → ∃ z1 : Int32, sm_g h x0 5 19 = some (.int z1) ∧ ((2000 < z1 → sm_W N (d + 1) mm_M_apply 257 [(0, .ref x0)] [] h Q) ∧ (¬ 2000 < z1 → ∃ z2 : Int32, sm_g h x0 5 20 = some (.int z2) ∧ ((z2 ≤ 16 → sm_W N (d + 1) mm_M_apply 272 [(0, .ref x0), (1, .int x1), (4, .int x4), (6, .int 0)] [] h Q) ∧ (¬ z2 ≤ 16 → sm_W N (d + 1) mm_M_apply 257 [(0, .ref x0)] [] h Q))))) ∧ (¬ x6 < 0 → sm_V N d mm_M_operator 5 x0 [.int x6] h (fun r6 h5 => ∃ z7 : Int32, r6 = some (.int z7) ∧ ∃ z8 : Nat, sm_g h5 x0 5 13 = some (.ref z8) ∧ ∃ z9 : Int32, sm_gi h5 z8 1 x6 = some z9 ∧ sm_W N (d + 1) mm_M_apply 107 [(0, .ref x0), (1, .int x1), (2, .int x2), (4, .int x4), (5, .int x5), (6, .int x6), (7, .int z7), (8, .int 0), (9, .int z9)] [] h5 Q)))
set_option maxRecDepth 20000 in
set_option maxHeartbeats 4000000 in
theorem kM_apply_82 {N d : Nat} {h : sm_H} {Q : Option Value → sm_H → Prop} {x0 : Nat} {x1 : Int32} {x2 : Int32} {x4 : Int32} {x5 : Int32} {x6 : Int32} (hf : fM_apply_82 N d h Q x0 x1 x2 x4 x5 x6) : sm_W N (d + 1) mm_M_apply 82 [(0, .ref x0), (1, .int x1), (2, .int x2), (4, .int x4), (5, .int x5), (6, .int x6)] [] h Q := by
  unfold fM_apply_82 at hf
  refine sm_iload (i := 6) 84 5 (by decide +kernel) rfl rfl ?_
  refine sm_if_lt (off := 154) 87 238 (by decide +kernel) (by decide) rfl (fun q10 => ?_) (fun q10 => ?_)
  · have hf := hf.1 q10
    refine sm_aload_n (k := 0) 239 0 (by decide +kernel) rfl rfl rfl ?_
    obtain ⟨z1, ez1, hf⟩ := hf
    refine sm_get 242 (by decide +kernel) fl_M_149 ez1 rfl ?_
    refine sm_sipush (i := 2000) (x := 2000) 245 (by decide +kernel) (by decide) rfl ?_
    refine sm_icmp_gt (off := 12) 248 257 (by decide +kernel) (by decide) rfl (fun q4 => ?_) (fun q4 => ?_)
    · have hf := hf.1 q4
      exact sm_sub [0] rfl hf
    · have hf := hf.2 q4
      refine sm_aload_n (k := 0) 249 0 (by decide +kernel) rfl rfl rfl ?_
      obtain ⟨z2, ez2, hf⟩ := hf
      refine sm_get 252 (by decide +kernel) fl_M_157 ez2 rfl ?_
      refine sm_bipush (i := 16) (x := 16) 254 (by decide +kernel) (by decide) rfl ?_
      refine sm_icmp_le (off := 15) 257 269 (by decide +kernel) (by decide) rfl (fun q3 => ?_) (fun q3 => ?_)
      · have hf := hf.1 q3
        refine sm_iconst (i := 0) (x := 0) 270 (by decide +kernel) rfl rfl ?_
        refine sm_istore (i := 6) 272 [(6, .int 0), (0, .ref x0), (1, .int x1), (2, .int x2), (4, .int x4), (5, .int x5)] (by decide +kernel) (by decide) (by first | rfl | simp [sm_rfc]) rfl ?_
        exact sm_sub [1, 2, 4, 0] rfl hf
      · have hf := hf.2 q3
        exact sm_sub [0] rfl hf
  · have hf := hf.2 q10
    refine sm_aload_n (k := 0) 88 0 (by decide +kernel) rfl rfl rfl ?_
    refine sm_iload (i := 6) 90 5 (by decide +kernel) rfl rfl ?_
    refine sm_callV (M2 := mm_M_operator) (av := [.int x6]) (rest := []) 93 (by decide +kernel) ml_M_192 (Nat.le_refl _) rfl rfl (by first | exact Nat.le_of_ble_eq_true rfl | simp [sm_rfc, Value.category]) rfl hf ?_
    rintro r6 h5 ⟨z7, rfl, hf⟩
    change sm_W N (d + 1) mm_M_apply 93 [(0, .ref x0), (1, .int x1), (2, .int x2), (4, .int x4), (5, .int x5), (6, .int x6)] [.int z7] h5 Q
    refine sm_istore (i := 7) 95 [(7, .int z7), (0, .ref x0), (1, .int x1), (2, .int x2), (4, .int x4), (5, .int x5), (6, .int x6)] (by decide +kernel) (by decide) (by first | rfl | simp [sm_rfc]) rfl ?_
    refine sm_iconst (i := 0) (x := 0) 96 (by decide +kernel) rfl rfl ?_
    refine sm_istore (i := 8) 98 [(8, .int 0), (7, .int z7), (0, .ref x0), (1, .int x1), (2, .int x2), (4, .int x4), (5, .int x5), (6, .int x6)] (by decide +kernel) (by decide) (by first | rfl | simp [sm_rfc]) rfl ?_
    refine sm_aload_n (k := 0) 99 2 (by decide +kernel) rfl rfl rfl ?_
    obtain ⟨z8, ez8, hf⟩ := hf
    refine sm_get 102 (by decide +kernel) fl_M_40 ez8 rfl ?_
    refine sm_iload (i := 6) 104 7 (by decide +kernel) rfl rfl ?_
    obtain ⟨z9, ez9, hf⟩ := hf
    refine sm_iald 105 (by decide +kernel) ez9 rfl ?_
    refine sm_istore (i := 9) 107 [(9, .int z9), (8, .int 0), (7, .int z7), (0, .ref x0), (1, .int x1), (2, .int x2), (4, .int x4), (5, .int x5), (6, .int x6)] (by decide +kernel) (by decide) (by first | rfl | simp [sm_rfc]) rfl ?_
    exact sm_sub [3, 4, 5, 6, 7, 8, 2, 1, 0] rfl hf
def fM_apply_107 (N d : Nat) (h : sm_H) (Q : Option Value → sm_H → Prop) (x0 : Nat) (x1 : Int32) (x2 : Int32) (x4 : Int32) (x5 : Int32) (x6 : Int32) (x7 : Int32) (x8 : Int32) (x9 : Int32) : Prop := ((x9 < 0 → ∃ z1 : Nat, sm_g h x0 5 14 = some (.ref z1) ∧ ∃ z2 : Int32, sm_gi h z1 1 x6 = some z2 ∧ sm_W N (d + 1) mm_M_apply 82 [(0, .ref x0), (1, .int x1), (2, .int x2), (4, .int x4), (5, .int (x5 + 1)), (6, .int z2)] [] h Q) ∧ (¬ x9 < 0 → ∃ z3 : Nat, sm_g h x0 5 14 = some (.ref z3) ∧ ∃ z4 : Int32, sm_gi h z3 1 x9 = some z4 ∧ sm_V N d mm_M_split 5 x0 [.int x9] h (fun r6 h5 => ∃ z7 : Int32, r6 = some (.int z7) ∧ ((x7 = 2 → sm_W N (d + 1) mm_M_apply 140 [(0, .ref x0), (1, .int x1), (2, .int x2), (4, .int x4), (5, .int x5), (6, .int x6), (7, .int x7), (8, .int x8), (9, .int x9), (10, .int z4)] [] h5 Q) ∧ (¬ x7 = 2 → ((x7 = 5 → sm_W N (d + 1) mm_M_apply 140 [(0, .ref x0), (1, .int x1), (2, .int x2), (4, .int x4), (5, .int x5), (6, .int x6), (7, .int x7), (8, .int x8), (9, .int x9), (10, .int z4)] [] h5 Q) ∧ (¬ x7 = 5 → sm_V N d mm_M_makes 5 x0 [.int x2, .int x7, .int x9] h5 (fun r9 h8 => ∃ z10 : Int32, r9 = some (.int z10) ∧ sm_W N (d + 1) mm_M_apply 170 [(0, .ref x0), (1, .int x1), (2, .int x2), (4, .int x4), (5, .int x5), (6, .int x6), (7, .int x7), (8, .int x8), (10, .int z4)] [.int z10] h8 Q))))))))
set_option maxRecDepth 20000 in
set_option maxHeartbeats 4000000 in
theorem kM_apply_107 {N d : Nat} {h : sm_H} {Q : Option Value → sm_H → Prop} {x0 : Nat} {x1 : Int32} {x2 : Int32} {x4 : Int32} {x5 : Int32} {x6 : Int32} {x7 : Int32} {x8 : Int32} {x9 : Int32} (hf : fM_apply_107 N d h Q x0 x1 x2 x4 x5 x6 x7 x8 x9) : sm_W N (d + 1) mm_M_apply 107 [(0, .ref x0), (1, .int x1), (2, .int x2), (4, .int x4), (5, .int x5), (6, .int x6), (7, .int x7), (8, .int x8), (9, .int x9)] [] h Q := by
  unfold fM_apply_107 at hf
  refine sm_iload (i := 9) 109 8 (by decide +kernel) rfl rfl ?_
  refine sm_if_lt (off := 114) 112 223 (by decide +kernel) (by decide) rfl (fun q13 => ?_) (fun q13 => ?_)
  · have hf := hf.1 q13
    refine sm_iinc (i := 5) (j := 4) (z := 1) (y := x5 + 1) 226 [(5, .int (x5 + 1)), (0, .ref x0), (1, .int x1), (2, .int x2), (4, .int x4), (6, .int x6), (7, .int x7), (8, .int x8), (9, .int x9)] (by decide +kernel) rfl (by rfl) (by decide) rfl rfl ?_
    refine sm_aload_n (k := 0) 227 1 (by decide +kernel) rfl rfl rfl ?_
    obtain ⟨z1, ez1, hf⟩ := hf
    refine sm_get 230 (by decide +kernel) fl_M_43 ez1 rfl ?_
    refine sm_iload (i := 6) 232 5 (by decide +kernel) rfl rfl ?_
    obtain ⟨z2, ez2, hf⟩ := hf
    refine sm_iald 233 (by decide +kernel) ez2 rfl ?_
    refine sm_istore (i := 6) 235 [(6, .int z2), (5, .int (x5 + 1)), (0, .ref x0), (1, .int x1), (2, .int x2), (4, .int x4), (7, .int x7), (8, .int x8), (9, .int x9)] (by decide +kernel) (by decide) (by first | rfl | simp [sm_rfc]) rfl ?_
    refine sm_goto (off := -153) 82 (by decide +kernel) (by decide) ?_
    exact sm_sub [2, 3, 4, 5, 1, 0] rfl hf
  · have hf := hf.2 q13
    refine sm_aload_n (k := 0) 113 0 (by decide +kernel) rfl rfl rfl ?_
    obtain ⟨z3, ez3, hf⟩ := hf
    refine sm_get 116 (by decide +kernel) fl_M_43 ez3 rfl ?_
    refine sm_iload (i := 9) 118 8 (by decide +kernel) rfl rfl ?_
    obtain ⟨z4, ez4, hf⟩ := hf
    refine sm_iald 119 (by decide +kernel) ez4 rfl ?_
    refine sm_istore (i := 10) 121 [(10, .int z4), (0, .ref x0), (1, .int x1), (2, .int x2), (4, .int x4), (5, .int x5), (6, .int x6), (7, .int x7), (8, .int x8), (9, .int x9)] (by decide +kernel) (by decide) (by first | rfl | simp [sm_rfc]) rfl ?_
    refine sm_aload_n (k := 0) 122 1 (by decide +kernel) rfl rfl rfl ?_
    refine sm_iload (i := 9) 124 9 (by decide +kernel) rfl rfl ?_
    refine sm_callV (M2 := mm_M_split) (av := [.int x9]) (rest := []) 127 (by decide +kernel) ml_M_198 (Nat.le_refl _) rfl rfl (by first | exact Nat.le_of_ble_eq_true rfl | simp [sm_rfc, Value.category]) rfl hf ?_
    rintro r6 h5 ⟨z7, rfl, hf⟩
    change sm_W N (d + 1) mm_M_apply 127 [(10, .int z4), (0, .ref x0), (1, .int x1), (2, .int x2), (4, .int x4), (5, .int x5), (6, .int x6), (7, .int x7), (8, .int x8), (9, .int x9)] [.int z7] h5 Q
    refine sm_pop 128 (by decide +kernel) (by first | rfl | simp [sm_rfc]) rfl ?_
    refine sm_iload (i := 7) 130 7 (by decide +kernel) rfl rfl ?_
    refine sm_iconst (i := 2) (x := 2) 131 (by decide +kernel) rfl rfl ?_
    refine sm_icmp_eq (off := 9) 134 140 (by decide +kernel) (by decide) rfl (fun q12 => ?_) (fun q12 => ?_)
    · have hf := hf.1 q12
      exact sm_sub [1, 2, 3, 4, 5, 6, 7, 8, 9, 0] rfl hf
    · have hf := hf.2 q12
      refine sm_iload (i := 7) 136 7 (by decide +kernel) rfl rfl ?_
      refine sm_iconst (i := 5) (x := 5) 137 (by decide +kernel) rfl rfl ?_
      refine sm_icmp_ne (off := 24) 140 161 (by decide +kernel) (by decide) rfl (fun q11 => ?_) (fun q11 => ?_)
      · have hf := hf.2 q11
        refine sm_aload_n (k := 0) 162 1 (by decide +kernel) rfl rfl rfl ?_
        refine sm_iload_n (k := 2) 163 3 (by decide +kernel) rfl rfl rfl ?_
        refine sm_iload (i := 7) 165 7 (by decide +kernel) rfl rfl ?_
        refine sm_iload (i := 9) 167 9 (by decide +kernel) rfl rfl ?_
        refine sm_callV (M2 := mm_M_makes) (av := [.int x2, .int x7, .int x9]) (rest := []) 170 (by decide +kernel) ml_M_256 (Nat.le_refl _) rfl rfl (by first | exact Nat.le_of_ble_eq_true rfl | simp [sm_rfc, Value.category]) rfl hf ?_
        rintro r9 h8 ⟨z10, rfl, hf⟩
        change sm_W N (d + 1) mm_M_apply 170 [(10, .int z4), (0, .ref x0), (1, .int x1), (2, .int x2), (4, .int x4), (5, .int x5), (6, .int x6), (7, .int x7), (8, .int x8), (9, .int x9)] [.int z10] h8 Q
        exact sm_sub [1, 2, 3, 4, 5, 6, 7, 8, 0] rfl hf
      · have hf := hf.1 q11
        exact sm_sub [1, 2, 3, 4, 5, 6, 7, 8, 9, 0] rfl hf
def fM_apply_140 (N d : Nat) (h : sm_H) (Q : Option Value → sm_H → Prop) (x0 : Nat) (x1 : Int32) (x2 : Int32) (x4 : Int32) (x5 : Int32) (x6 : Int32) (x7 : Int32) (x8 : Int32) (x9 : Int32) (x10 : Int32) : Prop := ((x7 = 5 → sm_W N (d + 1) mm_M_apply 155 [(0, .ref x0), (1, .int x1), (2, .int x2), (4, .int x4), (5, .int x5), (6, .int x6), (7, .int x7), (8, .int x8), (10, .int x10)] [.int 1, .int x9, .int x2, .ref x0] h Q) ∧ (¬ x7 = 5 → sm_W N (d + 1) mm_M_apply 155 [(0, .ref x0), (1, .int x1), (2, .int x2), (4, .int x4), (5, .int x5), (6, .int x6), (7, .int x7), (8, .int x8), (10, .int x10)] [.int 0, .int x9, .int x2, .ref x0] h Q))
set_option maxRecDepth 20000 in
set_option maxHeartbeats 4000000 in
theorem kM_apply_140 {N d : Nat} {h : sm_H} {Q : Option Value → sm_H → Prop} {x0 : Nat} {x1 : Int32} {x2 : Int32} {x4 : Int32} {x5 : Int32} {x6 : Int32} {x7 : Int32} {x8 : Int32} {x9 : Int32} {x10 : Int32} (hf : fM_apply_140 N d h Q x0 x1 x2 x4 x5 x6 x7 x8 x9 x10) : sm_W N (d + 1) mm_M_apply 140 [(0, .ref x0), (1, .int x1), (2, .int x2), (4, .int x4), (5, .int x5), (6, .int x6), (7, .int x7), (8, .int x8), (9, .int x9), (10, .int x10)] [] h Q := by
  unfold fM_apply_140 at hf
  refine sm_aload_n (k := 0) 141 0 (by decide +kernel) rfl rfl rfl ?_
  refine sm_iload_n (k := 2) 142 2 (by decide +kernel) rfl rfl rfl ?_
  refine sm_iload (i := 9) 144 8 (by decide +kernel) rfl rfl ?_
  refine sm_iload (i := 7) 146 6 (by decide +kernel) rfl rfl ?_
  refine sm_iconst (i := 5) (x := 5) 147 (by decide +kernel) rfl rfl ?_
  refine sm_icmp_ne (off := 7) 150 154 (by decide +kernel) (by decide) rfl (fun q1 => ?_) (fun q1 => ?_)
  · have hf := hf.2 q1
    refine sm_iconst (i := 0) (x := 0) 155 (by decide +kernel) rfl rfl ?_
    exact sm_sub [0, 1, 2, 3, 4, 5, 6, 7, 9] rfl hf
  · have hf := hf.1 q1
    refine sm_iconst (i := 1) (x := 1) 151 (by decide +kernel) rfl rfl ?_
    refine sm_goto (off := 4) 155 (by decide +kernel) (by decide) ?_
    exact sm_sub [0, 1, 2, 3, 4, 5, 6, 7, 9] rfl hf
def fM_apply_155 (N d : Nat) (h : sm_H) (Q : Option Value → sm_H → Prop) (x0 : Nat) (x1 : Int32) (x2 : Int32) (x4 : Int32) (x5 : Int32) (x6 : Int32) (x7 : Int32) (x8 : Int32) (x10 : Int32) (y0 : Int32) (y1 : Int32) (y2 : Int32) (y3 : Nat) : Prop := sm_V N d mm_M_takes 5 y3 [.int y2, .int y1, .int y0] h (fun r2 h1 => ∃ z3 : Int32, r2 = some (.int z3) ∧ sm_W N (d + 1) mm_M_apply 170 [(0, .ref x0), (1, .int x1), (2, .int x2), (4, .int x4), (5, .int x5), (6, .int x6), (7, .int x7), (8, .int x8), (10, .int x10)] [.int z3] h1 Q)
set_option maxRecDepth 20000 in
set_option maxHeartbeats 4000000 in
theorem kM_apply_155 {N d : Nat} {h : sm_H} {Q : Option Value → sm_H → Prop} {x0 : Nat} {x1 : Int32} {x2 : Int32} {x4 : Int32} {x5 : Int32} {x6 : Int32} {x7 : Int32} {x8 : Int32} {x10 : Int32} {y0 : Int32} {y1 : Int32} {y2 : Int32} {y3 : Nat} (hf : fM_apply_155 N d h Q x0 x1 x2 x4 x5 x6 x7 x8 x10 y0 y1 y2 y3) : sm_W N (d + 1) mm_M_apply 155 [(0, .ref x0), (1, .int x1), (2, .int x2), (4, .int x4), (5, .int x5), (6, .int x6), (7, .int x7), (8, .int x8), (10, .int x10)] [.int y0, .int y1, .int y2, .ref y3] h Q := by
  unfold fM_apply_155 at hf
  refine sm_callV (M2 := mm_M_takes) (av := [.int y2, .int y1, .int y0]) (rest := []) 158 (by decide +kernel) ml_M_252 (Nat.le_refl _) rfl rfl (by first | exact Nat.le_of_ble_eq_true rfl | simp [sm_rfc, Value.category]) rfl hf ?_
  rintro r2 h1 ⟨z3, rfl, hf⟩
  change sm_W N (d + 1) mm_M_apply 158 [(0, .ref x0), (1, .int x1), (2, .int x2), (4, .int x4), (5, .int x5), (6, .int x6), (7, .int x7), (8, .int x8), (10, .int x10)] [.int z3] h1 Q
  refine sm_goto (off := 12) 170 (by decide +kernel) (by decide) ?_
  exact sm_sub [0, 1, 2, 3, 4, 5, 6, 7, 8] rfl hf
def fM_apply_170 (N d : Nat) (h : sm_H) (Q : Option Value → sm_H → Prop) (x0 : Nat) (x1 : Int32) (x2 : Int32) (x4 : Int32) (x5 : Int32) (x6 : Int32) (x7 : Int32) (x8 : Int32) (x10 : Int32) (y0 : Int32) : Prop := ((y0 ≤ 0 → sm_V N d mm_M_print 5 x0 [.int x2] h (fun r2 h1 => r2 = none ∧ sm_V N d mm_M_isChanged 5 x0 [] h1 (fun r4 h3 => ∃ z5 : Int32, r4 = some (.int z5) ∧ ((z5 = 0 → sm_W N (d + 1) mm_M_apply 210 [(0, .ref x0), (1, .int x1), (2, .int x2), (5, .int x5), (6, .int x6), (7, .int x7), (8, .int x8), (10, .int x10)] [.int 0, .int x4] h3 Q) ∧ (¬ z5 = 0 → sm_W N (d + 1) mm_M_apply 210 [(0, .ref x0), (1, .int x1), (2, .int x2), (5, .int x5), (6, .int x6), (7, .int x7), (8, .int x8), (10, .int x10)] [.int 1, .int x4] h3 Q))))) ∧ (¬ y0 ≤ 0 → sm_V N d mm_M_fail 5 x0 [.int y0, .int x5, .int x8] h (fun r8 h7 => ∃ z9 : Int32, r8 = some (.int z9) ∧ Q (some (.int (z9 - 20))) h7)))
set_option maxRecDepth 20000 in
set_option maxHeartbeats 4000000 in
theorem kM_apply_170 {N d : Nat} {h : sm_H} {Q : Option Value → sm_H → Prop} {x0 : Nat} {x1 : Int32} {x2 : Int32} {x4 : Int32} {x5 : Int32} {x6 : Int32} {x7 : Int32} {x8 : Int32} {x10 : Int32} {y0 : Int32} (hf : fM_apply_170 N d h Q x0 x1 x2 x4 x5 x6 x7 x8 x10 y0) : sm_W N (d + 1) mm_M_apply 170 [(0, .ref x0), (1, .int x1), (2, .int x2), (4, .int x4), (5, .int x5), (6, .int x6), (7, .int x7), (8, .int x8), (10, .int x10)] [.int y0] h Q := by
  unfold fM_apply_170 at hf
  refine sm_istore (i := 11) 172 [(11, .int y0), (0, .ref x0), (1, .int x1), (2, .int x2), (4, .int x4), (5, .int x5), (6, .int x6), (7, .int x7), (8, .int x8), (10, .int x10)] (by decide +kernel) (by decide) (by first | rfl | simp [sm_rfc]) rfl ?_
  refine sm_iload (i := 11) 174 0 (by decide +kernel) rfl rfl ?_
  refine sm_if_le (off := 17) 177 191 (by decide +kernel) (by decide) rfl (fun q10 => ?_) (fun q10 => ?_)
  · have hf := hf.1 q10
    refine sm_aload_n (k := 0) 192 1 (by decide +kernel) rfl rfl rfl ?_
    refine sm_iload_n (k := 2) 193 3 (by decide +kernel) rfl rfl rfl ?_
    refine sm_callV (M2 := mm_M_print) (av := [.int x2]) (rest := []) 196 (by decide +kernel) ml_M_245 (Nat.le_refl _) rfl rfl (by first | exact Nat.le_of_ble_eq_true rfl | simp [sm_rfc, Value.category]) rfl hf ?_
    rintro r2 h1 ⟨rfl, hf⟩
    change sm_W N (d + 1) mm_M_apply 196 [(11, .int y0), (0, .ref x0), (1, .int x1), (2, .int x2), (4, .int x4), (5, .int x5), (6, .int x6), (7, .int x7), (8, .int x8), (10, .int x10)] [] h1 Q
    refine sm_iload (i := 4) 198 4 (by decide +kernel) rfl rfl ?_
    refine sm_aload_n (k := 0) 199 1 (by decide +kernel) rfl rfl rfl ?_
    refine sm_callV (M2 := mm_M_isChanged) (av := []) (rest := [.int x4]) 202 (by decide +kernel) ml_M_248 (Nat.le_refl _) rfl rfl (by first | exact Nat.le_of_ble_eq_true rfl | simp [sm_rfc, Value.category]) rfl hf ?_
    rintro r4 h3 ⟨z5, rfl, hf⟩
    change sm_W N (d + 1) mm_M_apply 202 [(11, .int y0), (0, .ref x0), (1, .int x1), (2, .int x2), (4, .int x4), (5, .int x5), (6, .int x6), (7, .int x7), (8, .int x8), (10, .int x10)] [.int z5, .int x4] h3 Q
    refine sm_if_eq (off := 7) 205 209 (by decide +kernel) (by decide) rfl (fun q6 => ?_) (fun q6 => ?_)
    · have hf := hf.1 q6
      refine sm_iconst (i := 0) (x := 0) 210 (by decide +kernel) rfl rfl ?_
      exact sm_sub [1, 2, 3, 5, 6, 7, 8, 9] rfl hf
    · have hf := hf.2 q6
      refine sm_iconst (i := 1) (x := 1) 206 (by decide +kernel) rfl rfl ?_
      refine sm_goto (off := 4) 210 (by decide +kernel) (by decide) ?_
      exact sm_sub [1, 2, 3, 5, 6, 7, 8, 9] rfl hf
  · have hf := hf.2 q10
    refine sm_aload_n (k := 0) 178 1 (by decide +kernel) rfl rfl rfl ?_
    refine sm_iload (i := 11) 180 0 (by decide +kernel) rfl rfl ?_
    refine sm_iload (i := 5) 182 5 (by decide +kernel) rfl rfl ?_
    refine sm_iload (i := 8) 184 8 (by decide +kernel) rfl rfl ?_
    refine sm_callV (M2 := mm_M_fail) (av := [.int y0, .int x5, .int x8]) (rest := []) 187 (by decide +kernel) ml_M_195 (Nat.le_refl _) rfl rfl (by first | exact Nat.le_of_ble_eq_true rfl | simp [sm_rfc, Value.category]) rfl hf ?_
    rintro r8 h7 ⟨z9, rfl, hf⟩
    change sm_W N (d + 1) mm_M_apply 187 [(11, .int y0), (0, .ref x0), (1, .int x1), (2, .int x2), (4, .int x4), (5, .int x5), (6, .int x6), (7, .int x7), (8, .int x8), (10, .int x10)] [.int z9] h7 Q
    refine sm_bipush (i := 20) (x := 20) 189 (by decide +kernel) (by decide) rfl ?_
    refine sm_isub 190 (by decide +kernel) rfl ?_
    exact sm_iret rfl (by decide +kernel) hf
def fM_apply_210 (N d : Nat) (h : sm_H) (Q : Option Value → sm_H → Prop) (x0 : Nat) (x1 : Int32) (x2 : Int32) (x5 : Int32) (x6 : Int32) (x7 : Int32) (x8 : Int32) (x10 : Int32) (y0 : Int32) (y1 : Int32) : Prop := sm_W N (d + 1) mm_M_apply 107 [(0, .ref x0), (1, .int x1), (2, .int x2), (4, .int (y1 + y0)), (5, .int x5), (6, .int x6), (7, .int x7), (8, .int (x8 + 1)), (9, .int x10)] [] h Q
set_option maxRecDepth 20000 in
set_option maxHeartbeats 4000000 in
theorem kM_apply_210 {N d : Nat} {h : sm_H} {Q : Option Value → sm_H → Prop} {x0 : Nat} {x1 : Int32} {x2 : Int32} {x5 : Int32} {x6 : Int32} {x7 : Int32} {x8 : Int32} {x10 : Int32} {y0 : Int32} {y1 : Int32} (hf : fM_apply_210 N d h Q x0 x1 x2 x5 x6 x7 x8 x10 y0 y1) : sm_W N (d + 1) mm_M_apply 210 [(0, .ref x0), (1, .int x1), (2, .int x2), (5, .int x5), (6, .int x6), (7, .int x7), (8, .int x8), (10, .int x10)] [.int y0, .int y1] h Q := by
  unfold fM_apply_210 at hf
  refine sm_iadd 211 (by decide +kernel) rfl ?_
  refine sm_istore (i := 4) 213 [(4, .int (y1 + y0)), (0, .ref x0), (1, .int x1), (2, .int x2), (5, .int x5), (6, .int x6), (7, .int x7), (8, .int x8), (10, .int x10)] (by decide +kernel) (by decide) (by first | rfl | simp [sm_rfc]) rfl ?_
  refine sm_iload (i := 10) 215 8 (by decide +kernel) rfl rfl ?_
  refine sm_istore (i := 9) 217 [(9, .int x10), (4, .int (y1 + y0)), (0, .ref x0), (1, .int x1), (2, .int x2), (5, .int x5), (6, .int x6), (7, .int x7), (8, .int x8), (10, .int x10)] (by decide +kernel) (by decide) (by first | rfl | simp [sm_rfc]) rfl ?_
  refine sm_iinc (i := 8) (j := 8) (z := 1) (y := x8 + 1) 220 [(8, .int (x8 + 1)), (9, .int x10), (4, .int (y1 + y0)), (0, .ref x0), (1, .int x1), (2, .int x2), (5, .int x5), (6, .int x6), (7, .int x7), (10, .int x10)] (by decide +kernel) rfl (by rfl) (by decide) rfl rfl ?_
  refine sm_goto (off := -113) 107 (by decide +kernel) (by decide) ?_
  exact sm_sub [3, 4, 5, 2, 6, 7, 8, 0, 1] rfl hf
def fM_apply_257 (N d : Nat) (h : sm_H) (Q : Option Value → sm_H → Prop) (x0 : Nat) : Prop := sm_V N d mm_M_fail 5 x0 [.int 9, .int (-1), .int (-1)] h (fun r2 h1 => ∃ z3 : Int32, r2 = some (.int z3) ∧ Q (some (.int (z3 - 20))) h1)
set_option maxRecDepth 20000 in
set_option maxHeartbeats 4000000 in
theorem kM_apply_257 {N d : Nat} {h : sm_H} {Q : Option Value → sm_H → Prop} {x0 : Nat} (hf : fM_apply_257 N d h Q x0) : sm_W N (d + 1) mm_M_apply 257 [(0, .ref x0)] [] h Q := by
  unfold fM_apply_257 at hf
  refine sm_aload_n (k := 0) 258 0 (by decide +kernel) rfl rfl rfl ?_
  refine sm_bipush (i := 9) (x := 9) 260 (by decide +kernel) (by decide) rfl ?_
  refine sm_iconst (i := -1) (x := (-1)) 261 (by decide +kernel) rfl rfl ?_
  refine sm_iconst (i := -1) (x := (-1)) 262 (by decide +kernel) rfl rfl ?_
  refine sm_callV (M2 := mm_M_fail) (av := [.int 9, .int (-1), .int (-1)]) (rest := []) 265 (by decide +kernel) ml_M_195 (Nat.le_refl _) rfl rfl (by first | exact Nat.le_of_ble_eq_true rfl | simp [sm_rfc, Value.category]) rfl hf ?_
  rintro r2 h1 ⟨z3, rfl, hf⟩
  change sm_W N (d + 1) mm_M_apply 265 [(0, .ref x0)] [.int z3] h1 Q
  refine sm_bipush (i := 20) (x := 20) 267 (by decide +kernel) (by decide) rfl ?_
  refine sm_isub 268 (by decide +kernel) rfl ?_
  exact sm_iret rfl (by decide +kernel) hf
def fM_apply_272 (N d : Nat) (h : sm_H) (Q : Option Value → sm_H → Prop) (x0 : Nat) (x1 : Int32) (x4 : Int32) (x6 : Int32) : Prop := ∃ z1 : Int32, sm_g h x0 5 19 = some (.int z1) ∧ ((z1 ≤ x6 → Q (some (.int x4)) h) ∧ (¬ z1 ≤ x6 → ∃ z2 : Nat, sm_g h x0 5 1 = some (.ref z2) ∧ ∃ z3 : Nat, sm_g h x0 5 21 = some (.ref z3) ∧ ∃ z4 : Int32, sm_gi h z3 0 x6 = some z4 ∧ ∃ h5, sm_pb h z2 ((2000 * x1) + x6) z4 = some h5 ∧ sm_W N (d + 1) mm_M_apply 272 [(0, .ref x0), (1, .int x1), (4, .int x4), (6, .int (x6 + 1))] [] h5 Q))
set_option maxRecDepth 20000 in
set_option maxHeartbeats 4000000 in
theorem kM_apply_272 {N d : Nat} {h : sm_H} {Q : Option Value → sm_H → Prop} {x0 : Nat} {x1 : Int32} {x4 : Int32} {x6 : Int32} (hf : fM_apply_272 N d h Q x0 x1 x4 x6) : sm_W N (d + 1) mm_M_apply 272 [(0, .ref x0), (1, .int x1), (4, .int x4), (6, .int x6)] [] h Q := by
  unfold fM_apply_272 at hf
  refine sm_iload (i := 6) 274 3 (by decide +kernel) rfl rfl ?_
  refine sm_aload_n (k := 0) 275 0 (by decide +kernel) rfl rfl rfl ?_
  obtain ⟨z1, ez1, hf⟩ := hf
  refine sm_get 278 (by decide +kernel) fl_M_149 ez1 rfl ?_
  refine sm_icmp_ge (off := 29) 281 307 (by decide +kernel) (by decide) rfl (fun q6 => ?_) (fun q6 => ?_)
  · have hf := hf.1 q6
    refine sm_iload (i := 4) 309 2 (by decide +kernel) rfl rfl ?_
    exact sm_iret rfl (by decide +kernel) hf
  · have hf := hf.2 q6
    refine sm_aload_n (k := 0) 282 0 (by decide +kernel) rfl rfl rfl ?_
    obtain ⟨z2, ez2, hf⟩ := hf
    refine sm_get 285 (by decide +kernel) fl_M_7 ez2 rfl ?_
    refine sm_sipush (i := 2000) (x := 2000) 288 (by decide +kernel) (by decide) rfl ?_
    refine sm_iload_n (k := 1) 289 1 (by decide +kernel) rfl rfl rfl ?_
    refine sm_imul 290 (by decide +kernel) rfl ?_
    refine sm_iload (i := 6) 292 3 (by decide +kernel) rfl rfl ?_
    refine sm_iadd 293 (by decide +kernel) rfl ?_
    refine sm_aload_n (k := 0) 294 0 (by decide +kernel) rfl rfl rfl ?_
    obtain ⟨z3, ez3, hf⟩ := hf
    refine sm_get 297 (by decide +kernel) fl_M_58 ez3 rfl ?_
    refine sm_iload (i := 6) 299 3 (by decide +kernel) rfl rfl ?_
    obtain ⟨z4, ez4, hf⟩ := hf
    refine sm_bald 300 (by decide +kernel) ez4 rfl ?_
    obtain ⟨h5, eh5, hf⟩ := hf
    refine sm_bast 301 (by decide +kernel) eh5 rfl ?_
    refine sm_iinc (i := 6) (j := 3) (z := 1) (y := x6 + 1) 304 [(6, .int (x6 + 1)), (0, .ref x0), (1, .int x1), (4, .int x4)] (by decide +kernel) rfl (by rfl) (by decide) rfl rfl ?_
    refine sm_goto (off := -32) 272 (by decide +kernel) (by decide) ?_
    exact sm_sub [1, 2, 3, 0] rfl hf
theorem cM_apply {N d : Nat} {h : sm_H} {Q : Option Value → sm_H → Prop} {x0 : Nat} {x1 : Int32} (hb : ∃ fs, h[x0]? = some (.inr (5, fs))) (hf : fM_apply_0 N d h Q x0 x1) : sm_V N (d + 1) mm_M_apply 5 x0 [.int x1] h Q := ⟨hb, sm_meth (by decide +kernel) (fun _ => Nat.le_of_ble_eq_true rfl) (fun _ => rfl) (kM_apply_0 hf)⟩
def fM_place_0 (N d : Nat) (h : sm_H) (Q : Option Value → sm_H → Prop) (x0 : Nat) (x1 : Int32) : Prop := ((x1 = 0 → ∃ z3 : Int32, sm_g h x0 5 4 = some (.int z3) ∧ Q (some (.int z3)) h) ∧ (¬ x1 = 0 → ((x1 = 1 → ∃ z1 : Int32, sm_g h x0 5 5 = some (.int z1) ∧ Q (some (.int z1)) h) ∧ (¬ x1 = 1 → Q (some (.int (-1))) h))))
set_option maxRecDepth 20000 in
set_option maxHeartbeats 4000000 in
theorem kM_place_0 {N d : Nat} {h : sm_H} {Q : Option Value → sm_H → Prop} {x0 : Nat} {x1 : Int32} (hf : fM_place_0 N d h Q x0 x1) : sm_W N (d + 1) mm_M_place 0 [(0, .ref x0), (1, .int x1)] [] h Q := by
  unfold fM_place_0 at hf
  refine sm_iload_n (k := 1) 1 1 (by decide +kernel) rfl rfl rfl ?_
  refine sm_if_ne (off := 10) 4 11 (by decide +kernel) (by decide) rfl (fun q4 => ?_) (fun q4 => ?_)
  · have hf := hf.2 q4
    refine sm_iload_n (k := 1) 12 1 (by decide +kernel) rfl rfl rfl ?_
    refine sm_iconst (i := 1) (x := 1) 13 (by decide +kernel) rfl rfl ?_
    refine sm_icmp_ne (off := 10) 16 23 (by decide +kernel) (by decide) rfl (fun q2 => ?_) (fun q2 => ?_)
    · have hf := hf.2 q2
      refine sm_iconst (i := -1) (x := (-1)) 24 (by decide +kernel) rfl rfl ?_
      exact sm_iret rfl (by decide +kernel) hf
    · have hf := hf.1 q2
      refine sm_aload_n (k := 0) 17 0 (by decide +kernel) rfl rfl rfl ?_
      obtain ⟨z1, ez1, hf⟩ := hf
      refine sm_get 20 (by decide +kernel) fl_M_17 ez1 rfl ?_
      refine sm_goto (off := 4) 24 (by decide +kernel) (by decide) ?_
      exact sm_iret rfl (by decide +kernel) hf
  · have hf := hf.1 q4
    refine sm_aload_n (k := 0) 5 0 (by decide +kernel) rfl rfl rfl ?_
    obtain ⟨z3, ez3, hf⟩ := hf
    refine sm_get 8 (by decide +kernel) fl_M_13 ez3 rfl ?_
    refine sm_goto (off := 16) 24 (by decide +kernel) (by decide) ?_
    exact sm_iret rfl (by decide +kernel) hf
theorem cM_place {N d : Nat} {h : sm_H} {Q : Option Value → sm_H → Prop} {x0 : Nat} {x1 : Int32} (hb : ∃ fs, h[x0]? = some (.inr (5, fs))) (hf : fM_place_0 N d h Q x0 x1) : sm_V N (d + 1) mm_M_place 5 x0 [.int x1] h Q := ⟨hb, sm_meth (by decide +kernel) (fun _ => Nat.le_of_ble_eq_true rfl) (fun _ => rfl) (kM_place_0 hf)⟩
def fM_many_0 (N d : Nat) (h : sm_H) (Q : Option Value → sm_H → Prop) (x0 : Nat) (x1 : Int32) (x2 : Int32) : Prop := sm_T N d mm_M_isSlot [.int x1] h (fun r2 h1 => ∃ z3 : Int32, r2 = some (.int z3) ∧ ((z3 = 0 → Q (some (.int (-1))) h1) ∧ (¬ z3 = 0 → ((x2 < 0 → Q (some (.int (-1))) h1) ∧ (¬ x2 < 0 → ((x2 ≤ 2 → ∃ h4, sm_p h1 x0 5 6 (.int 0) = some h4 ∧ sm_V N d mm_M_whole 5 x0 [.int (2000 * x1)] h4 (fun r6 h5 => ∃ z7 : Int32, r6 = some (.int z7) ∧ sm_V N d mm_M_load 5 x0 [.int (2000 * x1), .int z7] h5 (fun r9 h8 => ∃ z10 : Int32, r9 = some (.int z10) ∧ ((x2 = 0 → sm_V N d mm_M_whole 5 x0 [.int (2000 * x1)] h8 (fun r19 h18 => ∃ z20 : Int32, r19 = some (.int z20) ∧ Q (some (.int z20)) h18)) ∧ (¬ x2 = 0 → ((x2 = 1 → sm_V N d mm_M_countOf 5 x0 [.int z10] h8 (fun r15 h14 => ∃ z16 : Int32, r15 = some (.int z16) ∧ Q (some (.int z16)) h14)) ∧ (¬ x2 = 1 → sm_V N d mm_M_print 5 x0 [.int z10] h8 (fun r12 h11 => r12 = none ∧ ∃ z13 : Int32, sm_g h11 x0 5 20 = some (.int z13) ∧ Q (some (.int z13)) h11)))))))) ∧ (¬ x2 ≤ 2 → Q (some (.int (-1))) h1)))))))
set_option maxRecDepth 20000 in
set_option maxHeartbeats 4000000 in
theorem kM_many_0 {N d : Nat} {h : sm_H} {Q : Option Value → sm_H → Prop} {x0 : Nat} {x1 : Int32} {x2 : Int32} (hf : fM_many_0 N d h Q x0 x1 x2) : sm_W N (d + 1) mm_M_many 0 [(0, .ref x0), (1, .int x1), (2, .int x2)] [] h Q := by
  unfold fM_many_0 at hf
  refine sm_iload_n (k := 1) 1 1 (by decide +kernel) rfl rfl rfl ?_
  refine sm_callS (M2 := mm_M_isSlot) (av := [.int x1]) (rest := []) 4 (by decide +kernel) ml_M_143 (Nat.le_refl _) rfl rfl (by first | exact Nat.le_of_ble_eq_true rfl | simp [sm_rfc, Value.category]) rfl hf ?_
  rintro r2 h1 ⟨z3, rfl, hf⟩
  change sm_W N (d + 1) mm_M_many 4 [(0, .ref x0), (1, .int x1), (2, .int x2)] [.int z3] h1 Q
  refine sm_if_eq (off := 12) 7 16 (by decide +kernel) (by decide) rfl (fun q24 => ?_) (fun q24 => ?_)
  · have hf := hf.1 q24
    refine sm_iconst (i := -1) (x := (-1)) 17 (by decide +kernel) rfl rfl ?_
    exact sm_iret rfl (by decide +kernel) hf
  · have hf := hf.2 q24
    refine sm_iload_n (k := 2) 8 2 (by decide +kernel) rfl rfl rfl ?_
    refine sm_if_lt (off := 8) 11 16 (by decide +kernel) (by decide) rfl (fun q23 => ?_) (fun q23 => ?_)
    · have hf := hf.1 q23
      refine sm_iconst (i := -1) (x := (-1)) 17 (by decide +kernel) rfl rfl ?_
      exact sm_iret rfl (by decide +kernel) hf
    · have hf := hf.2 q23
      refine sm_iload_n (k := 2) 12 2 (by decide +kernel) rfl rfl rfl ?_
      refine sm_iconst (i := 2) (x := 2) 13 (by decide +kernel) rfl rfl ?_
      refine sm_icmp_le (off := 5) 16 18 (by decide +kernel) (by decide) rfl (fun q22 => ?_) (fun q22 => ?_)
      · have hf := hf.1 q22
        refine sm_aload_n (k := 0) 19 0 (by decide +kernel) rfl rfl rfl ?_
        refine sm_iconst (i := 0) (x := 0) 20 (by decide +kernel) rfl rfl ?_
        obtain ⟨h4, eh4, hf⟩ := hf
        refine sm_put (ty := .int) 23 (by decide +kernel) fp_M_94 (fun _ => rfl) rfl rfl eh4 rfl ?_
        refine sm_aload_n (k := 0) 24 0 (by decide +kernel) rfl rfl rfl ?_
        refine sm_sipush (i := 2000) (x := 2000) 27 (by decide +kernel) (by decide) rfl ?_
        refine sm_iload_n (k := 1) 28 1 (by decide +kernel) rfl rfl rfl ?_
        refine sm_imul 29 (by decide +kernel) rfl ?_
        refine sm_aload_n (k := 0) 30 0 (by decide +kernel) rfl rfl rfl ?_
        refine sm_sipush (i := 2000) (x := 2000) 33 (by decide +kernel) (by decide) rfl ?_
        refine sm_iload_n (k := 1) 34 1 (by decide +kernel) rfl rfl rfl ?_
        refine sm_imul 35 (by decide +kernel) rfl ?_
        refine sm_callV (M2 := mm_M_whole) (av := [.int (2000 * x1)]) (rest := [.int (2000 * x1), .ref x0]) 38 (by decide +kernel) ml_M_102 (Nat.le_refl _) rfl rfl (by first | exact Nat.le_of_ble_eq_true rfl | simp [sm_rfc, Value.category]) rfl hf ?_
        rintro r6 h5 ⟨z7, rfl, hf⟩
        change sm_W N (d + 1) mm_M_many 38 [(0, .ref x0), (1, .int x1), (2, .int x2)] [.int z7, .int (2000 * x1), .ref x0] h5 Q
        refine sm_callV (M2 := mm_M_load) (av := [.int (2000 * x1), .int z7]) (rest := []) 41 (by decide +kernel) ml_M_140 (Nat.le_refl _) rfl rfl (by first | exact Nat.le_of_ble_eq_true rfl | simp [sm_rfc, Value.category]) rfl hf ?_
        rintro r9 h8 ⟨z10, rfl, hf⟩
        change sm_W N (d + 1) mm_M_many 41 [(0, .ref x0), (1, .int x1), (2, .int x2)] [.int z10] h8 Q
        refine sm_istore_n (k := 3) 42 [(3, .int z10), (0, .ref x0), (1, .int x1), (2, .int x2)] (by decide +kernel) rfl (by decide) (by first | rfl | simp [sm_rfc]) rfl ?_
        refine sm_iload_n (k := 2) 43 3 (by decide +kernel) rfl rfl rfl ?_
        refine sm_if_ne (off := 13) 46 56 (by decide +kernel) (by decide) rfl (fun q21 => ?_) (fun q21 => ?_)
        · have hf := hf.2 q21
          refine sm_iload_n (k := 2) 57 3 (by decide +kernel) rfl rfl rfl ?_
          refine sm_iconst (i := 1) (x := 1) 58 (by decide +kernel) rfl rfl ?_
          refine sm_icmp_ne (off := 9) 61 67 (by decide +kernel) (by decide) rfl (fun q17 => ?_) (fun q17 => ?_)
          · have hf := hf.2 q17
            refine sm_aload_n (k := 0) 68 1 (by decide +kernel) rfl rfl rfl ?_
            refine sm_iload_n (k := 3) 69 0 (by decide +kernel) rfl rfl rfl ?_
            refine sm_callV (M2 := mm_M_print) (av := [.int z10]) (rest := []) 72 (by decide +kernel) ml_M_245 (Nat.le_refl _) rfl rfl (by first | exact Nat.le_of_ble_eq_true rfl | simp [sm_rfc, Value.category]) rfl hf ?_
            rintro r12 h11 ⟨rfl, hf⟩
            change sm_W N (d + 1) mm_M_many 72 [(3, .int z10), (0, .ref x0), (1, .int x1), (2, .int x2)] [] h11 Q
            refine sm_aload_n (k := 0) 73 1 (by decide +kernel) rfl rfl rfl ?_
            obtain ⟨z13, ez13, hf⟩ := hf
            refine sm_get 76 (by decide +kernel) fl_M_157 ez13 rfl ?_
            exact sm_iret rfl (by decide +kernel) hf
          · have hf := hf.1 q17
            refine sm_aload_n (k := 0) 62 1 (by decide +kernel) rfl rfl rfl ?_
            refine sm_iload_n (k := 3) 63 0 (by decide +kernel) rfl rfl rfl ?_
            refine sm_callV (M2 := mm_M_countOf) (av := [.int z10]) (rest := []) 66 (by decide +kernel) ml_M_126 (Nat.le_refl _) rfl rfl (by first | exact Nat.le_of_ble_eq_true rfl | simp [sm_rfc, Value.category]) rfl hf ?_
            rintro r15 h14 ⟨z16, rfl, hf⟩
            change sm_W N (d + 1) mm_M_many 66 [(3, .int z10), (0, .ref x0), (1, .int x1), (2, .int x2)] [.int z16] h14 Q
            exact sm_iret rfl (by decide +kernel) hf
        · have hf := hf.1 q21
          refine sm_aload_n (k := 0) 47 1 (by decide +kernel) rfl rfl rfl ?_
          refine sm_sipush (i := 2000) (x := 2000) 50 (by decide +kernel) (by decide) rfl ?_
          refine sm_iload_n (k := 1) 51 2 (by decide +kernel) rfl rfl rfl ?_
          refine sm_imul 52 (by decide +kernel) rfl ?_
          refine sm_callV (M2 := mm_M_whole) (av := [.int (2000 * x1)]) (rest := []) 55 (by decide +kernel) ml_M_102 (Nat.le_refl _) rfl rfl (by first | exact Nat.le_of_ble_eq_true rfl | simp [sm_rfc, Value.category]) rfl hf ?_
          rintro r19 h18 ⟨z20, rfl, hf⟩
          change sm_W N (d + 1) mm_M_many 55 [(3, .int z10), (0, .ref x0), (1, .int x1), (2, .int x2)] [.int z20] h18 Q
          exact sm_iret rfl (by decide +kernel) hf
      · have hf := hf.2 q22
        refine sm_iconst (i := -1) (x := (-1)) 17 (by decide +kernel) rfl rfl ?_
        exact sm_iret rfl (by decide +kernel) hf
theorem cM_many {N d : Nat} {h : sm_H} {Q : Option Value → sm_H → Prop} {x0 : Nat} {x1 : Int32} {x2 : Int32} (hb : ∃ fs, h[x0]? = some (.inr (5, fs))) (hf : fM_many_0 N d h Q x0 x1 x2) : sm_V N (d + 1) mm_M_many 5 x0 [.int x1, .int x2] h Q := ⟨hb, sm_meth (by decide +kernel) (fun _ => Nat.le_of_ble_eq_true rfl) (fun _ => rfl) (kM_many_0 hf)⟩
def fM_byteAt_0 (N d : Nat) (h : sm_H) (Q : Option Value → sm_H → Prop) (x0 : Nat) (x1 : Int32) (x2 : Int32) : Prop := sm_T N d mm_M_isSlot [.int x1] h (fun r2 h1 => ∃ z3 : Int32, r2 = some (.int z3) ∧ ((z3 = 0 → sm_W N (d + 1) mm_M_byteAt 24 [] [] h1 Q) ∧ (¬ z3 = 0 → ((x2 < 0 → sm_W N (d + 1) mm_M_byteAt 24 [] [] h1 Q) ∧ (¬ x2 < 0 → sm_V N d mm_M_whole 5 x0 [.int (2000 * x1)] h1 (fun r5 h4 => ∃ z6 : Int32, r5 = some (.int z6) ∧ ((x2 < z6 → sm_V N d mm_M_at 5 x0 [.int ((2000 * x1) + x2)] h4 (fun r8 h7 => ∃ z9 : Int32, r8 = some (.int z9) ∧ Q (some (.int z9)) h7)) ∧ (¬ x2 < z6 → sm_W N (d + 1) mm_M_byteAt 24 [] [] h4 Q))))))))
set_option maxRecDepth 20000 in
set_option maxHeartbeats 4000000 in
theorem kM_byteAt_0 {N d : Nat} {h : sm_H} {Q : Option Value → sm_H → Prop} {x0 : Nat} {x1 : Int32} {x2 : Int32} (hf : fM_byteAt_0 N d h Q x0 x1 x2) : sm_W N (d + 1) mm_M_byteAt 0 [(0, .ref x0), (1, .int x1), (2, .int x2)] [] h Q := by
  unfold fM_byteAt_0 at hf
  refine sm_iload_n (k := 1) 1 1 (by decide +kernel) rfl rfl rfl ?_
  refine sm_callS (M2 := mm_M_isSlot) (av := [.int x1]) (rest := []) 4 (by decide +kernel) ml_M_143 (Nat.le_refl _) rfl rfl (by first | exact Nat.le_of_ble_eq_true rfl | simp [sm_rfc, Value.category]) rfl hf ?_
  rintro r2 h1 ⟨z3, rfl, hf⟩
  change sm_W N (d + 1) mm_M_byteAt 4 [(0, .ref x0), (1, .int x1), (2, .int x2)] [.int z3] h1 Q
  refine sm_if_eq (off := 20) 7 24 (by decide +kernel) (by decide) rfl (fun q12 => ?_) (fun q12 => ?_)
  · have hf := hf.1 q12
    exact sm_sub [] rfl hf
  · have hf := hf.2 q12
    refine sm_iload_n (k := 2) 8 2 (by decide +kernel) rfl rfl rfl ?_
    refine sm_if_lt (off := 16) 11 24 (by decide +kernel) (by decide) rfl (fun q11 => ?_) (fun q11 => ?_)
    · have hf := hf.1 q11
      exact sm_sub [] rfl hf
    · have hf := hf.2 q11
      refine sm_iload_n (k := 2) 12 2 (by decide +kernel) rfl rfl rfl ?_
      refine sm_aload_n (k := 0) 13 0 (by decide +kernel) rfl rfl rfl ?_
      refine sm_sipush (i := 2000) (x := 2000) 16 (by decide +kernel) (by decide) rfl ?_
      refine sm_iload_n (k := 1) 17 1 (by decide +kernel) rfl rfl rfl ?_
      refine sm_imul 18 (by decide +kernel) rfl ?_
      refine sm_callV (M2 := mm_M_whole) (av := [.int (2000 * x1)]) (rest := [.int x2]) 21 (by decide +kernel) ml_M_102 (Nat.le_refl _) rfl rfl (by first | exact Nat.le_of_ble_eq_true rfl | simp [sm_rfc, Value.category]) rfl hf ?_
      rintro r5 h4 ⟨z6, rfl, hf⟩
      change sm_W N (d + 1) mm_M_byteAt 21 [(0, .ref x0), (1, .int x1), (2, .int x2)] [.int z6, .int x2] h4 Q
      refine sm_icmp_lt (off := 7) 24 28 (by decide +kernel) (by decide) rfl (fun q10 => ?_) (fun q10 => ?_)
      · have hf := hf.1 q10
        refine sm_aload_n (k := 0) 29 0 (by decide +kernel) rfl rfl rfl ?_
        refine sm_sipush (i := 2000) (x := 2000) 32 (by decide +kernel) (by decide) rfl ?_
        refine sm_iload_n (k := 1) 33 1 (by decide +kernel) rfl rfl rfl ?_
        refine sm_imul 34 (by decide +kernel) rfl ?_
        refine sm_iload_n (k := 2) 35 2 (by decide +kernel) rfl rfl rfl ?_
        refine sm_iadd 36 (by decide +kernel) rfl ?_
        refine sm_callV (M2 := mm_M_at) (av := [.int ((2000 * x1) + x2)]) (rest := []) 39 (by decide +kernel) ml_M_73 (Nat.le_refl _) rfl rfl (by first | exact Nat.le_of_ble_eq_true rfl | simp [sm_rfc, Value.category]) rfl hf ?_
        rintro r8 h7 ⟨z9, rfl, hf⟩
        change sm_W N (d + 1) mm_M_byteAt 39 [(0, .ref x0), (1, .int x1), (2, .int x2)] [.int z9] h7 Q
        exact sm_iret rfl (by decide +kernel) hf
      · have hf := hf.2 q10
        exact sm_sub [] rfl hf
def fM_byteAt_24 (N d : Nat) (h : sm_H) (Q : Option Value → sm_H → Prop)  : Prop := Q (some (.int (-1))) h
set_option maxRecDepth 20000 in
set_option maxHeartbeats 4000000 in
theorem kM_byteAt_24 {N d : Nat} {h : sm_H} {Q : Option Value → sm_H → Prop}  (hf : fM_byteAt_24 N d h Q ) : sm_W N (d + 1) mm_M_byteAt 24 [] [] h Q := by
  unfold fM_byteAt_24 at hf
  refine sm_iconst (i := -1) (x := (-1)) 25 (by decide +kernel) rfl rfl ?_
  refine sm_goto (off := 14) 39 (by decide +kernel) (by decide) ?_
  exact sm_iret rfl (by decide +kernel) hf
theorem cM_byteAt {N d : Nat} {h : sm_H} {Q : Option Value → sm_H → Prop} {x0 : Nat} {x1 : Int32} {x2 : Int32} (hb : ∃ fs, h[x0]? = some (.inr (5, fs))) (hf : fM_byteAt_0 N d h Q x0 x1 x2) : sm_V N (d + 1) mm_M_byteAt 5 x0 [.int x1, .int x2] h Q := ⟨hb, sm_meth (by decide +kernel) (fun _ => Nat.le_of_ble_eq_true rfl) (fun _ => rfl) (kM_byteAt_0 hf)⟩
def fM_copy_0 (N d : Nat) (h : sm_H) (Q : Option Value → sm_H → Prop) (x0 : Nat) (x1 : Int32) (x2 : Int32) : Prop := sm_T N d mm_M_isSlot [.int x1] h (fun r2 h1 => ∃ z3 : Int32, r2 = some (.int z3) ∧ ((z3 = 0 → Q (some (.int 0)) h1) ∧ (¬ z3 = 0 → sm_T N d mm_M_isSlot [.int x2] h1 (fun r5 h4 => ∃ z6 : Int32, r5 = some (.int z6) ∧ ((z6 = 0 → Q (some (.int 0)) h4) ∧ (¬ z6 = 0 → sm_V N d mm_M_whole 5 x0 [.int (2000 * x2)] h4 (fun r8 h7 => ∃ z9 : Int32, r8 = some (.int z9) ∧ sm_W N (d + 1) mm_M_copy 29 [(0, .ref x0), (1, .int x1), (2, .int x2), (3, .int z9), (4, .int 0)] [] h7 Q)))))))
set_option maxRecDepth 20000 in
set_option maxHeartbeats 4000000 in
theorem kM_copy_0 {N d : Nat} {h : sm_H} {Q : Option Value → sm_H → Prop} {x0 : Nat} {x1 : Int32} {x2 : Int32} (hf : fM_copy_0 N d h Q x0 x1 x2) : sm_W N (d + 1) mm_M_copy 0 [(0, .ref x0), (1, .int x1), (2, .int x2)] [] h Q := by
  unfold fM_copy_0 at hf
  refine sm_iload_n (k := 1) 1 1 (by decide +kernel) rfl rfl rfl ?_
  refine sm_callS (M2 := mm_M_isSlot) (av := [.int x1]) (rest := []) 4 (by decide +kernel) ml_M_143 (Nat.le_refl _) rfl rfl (by first | exact Nat.le_of_ble_eq_true rfl | simp [sm_rfc, Value.category]) rfl hf ?_
  rintro r2 h1 ⟨z3, rfl, hf⟩
  change sm_W N (d + 1) mm_M_copy 4 [(0, .ref x0), (1, .int x1), (2, .int x2)] [.int z3] h1 Q
  refine sm_if_eq (off := 10) 7 14 (by decide +kernel) (by decide) rfl (fun q11 => ?_) (fun q11 => ?_)
  · have hf := hf.1 q11
    refine sm_iconst (i := 0) (x := 0) 15 (by decide +kernel) rfl rfl ?_
    exact sm_zret rfl (by decide +kernel) (by decide) hf
  · have hf := hf.2 q11
    refine sm_iload_n (k := 2) 8 2 (by decide +kernel) rfl rfl rfl ?_
    refine sm_callS (M2 := mm_M_isSlot) (av := [.int x2]) (rest := []) 11 (by decide +kernel) ml_M_143 (Nat.le_refl _) rfl rfl (by first | exact Nat.le_of_ble_eq_true rfl | simp [sm_rfc, Value.category]) rfl hf ?_
    rintro r5 h4 ⟨z6, rfl, hf⟩
    change sm_W N (d + 1) mm_M_copy 11 [(0, .ref x0), (1, .int x1), (2, .int x2)] [.int z6] h4 Q
    refine sm_if_ne (off := 5) 14 16 (by decide +kernel) (by decide) rfl (fun q10 => ?_) (fun q10 => ?_)
    · have hf := hf.2 q10
      refine sm_aload_n (k := 0) 17 0 (by decide +kernel) rfl rfl rfl ?_
      refine sm_sipush (i := 2000) (x := 2000) 20 (by decide +kernel) (by decide) rfl ?_
      refine sm_iload_n (k := 2) 21 2 (by decide +kernel) rfl rfl rfl ?_
      refine sm_imul 22 (by decide +kernel) rfl ?_
      refine sm_callV (M2 := mm_M_whole) (av := [.int (2000 * x2)]) (rest := []) 25 (by decide +kernel) ml_M_102 (Nat.le_refl _) rfl rfl (by first | exact Nat.le_of_ble_eq_true rfl | simp [sm_rfc, Value.category]) rfl hf ?_
      rintro r8 h7 ⟨z9, rfl, hf⟩
      change sm_W N (d + 1) mm_M_copy 25 [(0, .ref x0), (1, .int x1), (2, .int x2)] [.int z9] h7 Q
      refine sm_istore_n (k := 3) 26 [(3, .int z9), (0, .ref x0), (1, .int x1), (2, .int x2)] (by decide +kernel) rfl (by decide) (by first | rfl | simp [sm_rfc]) rfl ?_
      refine sm_iconst (i := 0) (x := 0) 27 (by decide +kernel) rfl rfl ?_
      refine sm_istore (i := 4) 29 [(4, .int 0), (3, .int z9), (0, .ref x0), (1, .int x1), (2, .int x2)] (by decide +kernel) (by decide) (by first | rfl | simp [sm_rfc]) rfl ?_
      exact sm_sub [2, 3, 4, 1, 0] rfl hf
    · have hf := hf.1 q10
      refine sm_iconst (i := 0) (x := 0) 15 (by decide +kernel) rfl rfl ?_
      exact sm_zret rfl (by decide +kernel) (by decide) hf
def fM_copy_29 (N d : Nat) (h : sm_H) (Q : Option Value → sm_H → Prop) (x0 : Nat) (x1 : Int32) (x2 : Int32) (x3 : Int32) (x4 : Int32) : Prop := ((x3 ≤ x4 → Q (some (.int 1)) h) ∧ (¬ x3 ≤ x4 → ∃ z1 : Nat, sm_g h x0 5 1 = some (.ref z1) ∧ ∃ z2 : Nat, sm_g h x0 5 1 = some (.ref z2) ∧ ∃ z3 : Int32, sm_gi h z2 0 ((2000 * x2) + x4) = some z3 ∧ ∃ h4, sm_pb h z1 ((2000 * x1) + x4) z3 = some h4 ∧ sm_W N (d + 1) mm_M_copy 29 [(0, .ref x0), (1, .int x1), (2, .int x2), (3, .int x3), (4, .int (x4 + 1))] [] h4 Q))
set_option maxRecDepth 20000 in
set_option maxHeartbeats 4000000 in
theorem kM_copy_29 {N d : Nat} {h : sm_H} {Q : Option Value → sm_H → Prop} {x0 : Nat} {x1 : Int32} {x2 : Int32} {x3 : Int32} {x4 : Int32} (hf : fM_copy_29 N d h Q x0 x1 x2 x3 x4) : sm_W N (d + 1) mm_M_copy 29 [(0, .ref x0), (1, .int x1), (2, .int x2), (3, .int x3), (4, .int x4)] [] h Q := by
  unfold fM_copy_29 at hf
  refine sm_iload (i := 4) 31 4 (by decide +kernel) rfl rfl ?_
  refine sm_iload_n (k := 3) 32 3 (by decide +kernel) rfl rfl rfl ?_
  refine sm_icmp_ge (off := 35) 35 67 (by decide +kernel) (by decide) rfl (fun q5 => ?_) (fun q5 => ?_)
  · have hf := hf.1 q5
    refine sm_iconst (i := 1) (x := 1) 68 (by decide +kernel) rfl rfl ?_
    exact sm_zret rfl (by decide +kernel) (by decide) hf
  · have hf := hf.2 q5
    refine sm_aload_n (k := 0) 36 0 (by decide +kernel) rfl rfl rfl ?_
    obtain ⟨z1, ez1, hf⟩ := hf
    refine sm_get 39 (by decide +kernel) fl_M_7 ez1 rfl ?_
    refine sm_sipush (i := 2000) (x := 2000) 42 (by decide +kernel) (by decide) rfl ?_
    refine sm_iload_n (k := 1) 43 1 (by decide +kernel) rfl rfl rfl ?_
    refine sm_imul 44 (by decide +kernel) rfl ?_
    refine sm_iload (i := 4) 46 4 (by decide +kernel) rfl rfl ?_
    refine sm_iadd 47 (by decide +kernel) rfl ?_
    refine sm_aload_n (k := 0) 48 0 (by decide +kernel) rfl rfl rfl ?_
    obtain ⟨z2, ez2, hf⟩ := hf
    refine sm_get 51 (by decide +kernel) fl_M_7 ez2 rfl ?_
    refine sm_sipush (i := 2000) (x := 2000) 54 (by decide +kernel) (by decide) rfl ?_
    refine sm_iload_n (k := 2) 55 2 (by decide +kernel) rfl rfl rfl ?_
    refine sm_imul 56 (by decide +kernel) rfl ?_
    refine sm_iload (i := 4) 58 4 (by decide +kernel) rfl rfl ?_
    refine sm_iadd 59 (by decide +kernel) rfl ?_
    obtain ⟨z3, ez3, hf⟩ := hf
    refine sm_bald 60 (by decide +kernel) ez3 rfl ?_
    obtain ⟨h4, eh4, hf⟩ := hf
    refine sm_bast 61 (by decide +kernel) eh4 rfl ?_
    refine sm_iinc (i := 4) (j := 4) (z := 1) (y := x4 + 1) 64 [(4, .int (x4 + 1)), (0, .ref x0), (1, .int x1), (2, .int x2), (3, .int x3)] (by decide +kernel) rfl (by rfl) (by decide) rfl rfl ?_
    refine sm_goto (off := -35) 29 (by decide +kernel) (by decide) ?_
    exact sm_sub [1, 2, 3, 4, 0] rfl hf
theorem cM_copy {N d : Nat} {h : sm_H} {Q : Option Value → sm_H → Prop} {x0 : Nat} {x1 : Int32} {x2 : Int32} (hb : ∃ fs, h[x0]? = some (.inr (5, fs))) (hf : fM_copy_0 N d h Q x0 x1 x2) : sm_V N (d + 1) mm_M_copy 5 x0 [.int x1, .int x2] h Q := ⟨hb, sm_meth (by decide +kernel) (fun _ => Nat.le_of_ble_eq_true rfl) (fun _ => rfl) (kM_copy_0 hf)⟩
