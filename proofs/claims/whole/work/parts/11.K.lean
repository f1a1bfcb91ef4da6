def fK_isDocument_0 (N d : Nat) (h : sm_H) (Q : Option Value → sm_H → Prop) (x0 : Nat) (x1 : Nat) (x2 : Int32) : Prop := ∃ h1, sm_p h x0 1 2 (.int 0) = some h1 ∧ sm_V N d mm_K_holderEnd 1 x0 [.ref x1, .int 0, .int x2, .int 3, .int 1] h1 (fun r3 h2 => ∃ z4 : Int32, r3 = some (.int z4) ∧ ((z4 = x2 → Q (some (.int 1)) h2) ∧ (¬ z4 = x2 → Q (some (.int 0)) h2)))
set_option maxRecDepth 20000 in
set_option maxHeartbeats 4000000 in
theorem kK_isDocument_0 {N d : Nat} {h : sm_H} {Q : Option Value → sm_H → Prop} {x0 : Nat} {x1 : Nat} {x2 : Int32} (hf : fK_isDocument_0 N d h Q x0 x1 x2) : sm_W N (d + 1) mm_K_isDocument 0 [(0, .ref x0), (1, .ref x1), (2, .int x2)] [] h Q := by
  unfold fK_isDocument_0 at hf
  refine sm_aload_n (k := 0) 1 0 (by decide +kernel) rfl rfl rfl ?_
  refine sm_iconst (i := 0) (x := 0) 2 (by decide +kernel) rfl rfl ?_
  obtain ⟨h1, eh1, hf⟩ := hf
  refine sm_put (ty := .int) 5 (by decide +kernel) fp_K_24 (fun _ => rfl) rfl rfl eh1 rfl ?_
  refine sm_aload_n (k := 0) 6 0 (by decide +kernel) rfl rfl rfl ?_
  refine sm_aload_n (k := 1) 7 1 (by decide +kernel) rfl rfl rfl ?_
  refine sm_iconst (i := 0) (x := 0) 8 (by decide +kernel) rfl rfl ?_
  refine sm_iload_n (k := 2) 9 2 (by decide +kernel) rfl rfl rfl ?_
  refine sm_iconst (i := 3) (x := 3) 10 (by decide +kernel) rfl rfl ?_
  refine sm_iconst (i := 1) (x := 1) 11 (by decide +kernel) rfl rfl ?_
  refine sm_callV (M2 := mm_K_holderEnd) (av := [.ref x1, .int 0, .int x2, .int 3, .int 1]) (rest := []) 14 (by decide +kernel) ml_K_28 (Nat.le_refl _) rfl rfl (by first | exact Nat.le_of_ble_eq_true rfl | simp [sm_rfc, Value.category]) rfl hf ?_
  rintro r3 h2 ⟨z4, rfl, hf⟩
  change sm_W N (d + 1) mm_K_isDocument 14 [(0, .ref x0), (1, .ref x1), (2, .int x2)] [.int z4] h2 Q
  refine sm_iload_n (k := 2) 15 2 (by decide +kernel) rfl rfl rfl ?_
  refine sm_icmp_ne (off := 7) 18 22 (by decide +kernel) (by decide) rfl (fun q5 => ?_) (fun q5 => ?_)
  · have hf := hf.2 q5
    refine sm_iconst (i := 0) (x := 0) 23 (by decide +kernel) rfl rfl ?_
    exact sm_zret rfl (by decide +kernel) (by decide) hf
  · have hf := hf.1 q5
    refine sm_iconst (i := 1) (x := 1) 19 (by decide +kernel) rfl rfl ?_
    refine sm_goto (off := 4) 23 (by decide +kernel) (by decide) ?_
    exact sm_zret rfl (by decide +kernel) (by decide) hf
theorem cK_isDocument {N d : Nat} {h : sm_H} {Q : Option Value → sm_H → Prop} {x0 : Nat} {x1 : Nat} {x2 : Int32} (hb : ∃ fs, h[x0]? = some (.inr (1, fs))) (hf : fK_isDocument_0 N d h Q x0 x1 x2) : sm_V N (d + 1) mm_K_isDocument 1 x0 [.ref x1, .int x2] h Q := ⟨hb, sm_meth (by decide +kernel) (fun _ => Nat.le_of_ble_eq_true rfl) (fun _ => rfl) (kK_isDocument_0 hf)⟩
def fK_holderEnd_0 (N d : Nat) (h : sm_H) (Q : Option Value → sm_H → Prop) (x0 : Nat) (x1 : Nat) (x2 : Int32) (x3 : Int32) (x4 : Int32) (x5 : Int32) : Prop := ((16 < x5 → Q (some (.int (-1))) h) ∧ (¬ 16 < x5 → ((5 ≤ (x3 - x2) → sm_V N d mm_B_intAt 0 x1 [.int x2] h (fun r2 h1 => ∃ z3 : Int32, r2 = some (.int z3) ∧ ((z3 < 5 → Q (some (.int (-1))) h1) ∧ (¬ z3 < 5 → ((z3 ≤ (x3 - x2) → ∃ z4 : Int32, sm_g h1 x0 1 2 = some (.int z4) ∧ sm_W N (d + 1) mm_K_holderEnd 61 [(0, .ref x0), (1, .ref x1), (4, .int x4), (5, .int x5), (7, .int ((x2 + z3) - 1)), (8, .int z4), (9, .int (x2 + 4)), (10, .int 0)] [] h1 Q) ∧ (¬ z3 ≤ (x3 - x2) → Q (some (.int (-1))) h1)))))) ∧ (¬ 5 ≤ (x3 - x2) → Q (some (.int (-1))) h))))
set_option maxRecDepth 20000 in
set_option maxHeartbeats 4000000 in
theorem kK_holderEnd_0 {N d : Nat} {h : sm_H} {Q : Option Value → sm_H → Prop} {x0 : Nat} {x1 : Nat} {x2 : Int32} {x3 : Int32} {x4 : Int32} {x5 : Int32} (hf : fK_holderEnd_0 N d h Q x0 x1 x2 x3 x4 x5) : sm_W N (d + 1) mm_K_holderEnd 0 [(0, .ref x0), (1, .ref x1), (2, .int x2), (3, .int x3), (4, .int x4), (5, .int x5)] [] h Q := by
  unfold fK_holderEnd_0 at hf
  refine sm_iload (i := 5) 2 5 (by decide +kernel) rfl rfl ?_
  refine sm_bipush (i := 16) (x := 16) 4 (by decide +kernel) (by decide) rfl ?_
  refine sm_icmp_gt (off := 10) 7 14 (by decide +kernel) (by decide) rfl (fun q8 => ?_) (fun q8 => ?_)
  · have hf := hf.1 q8
    refine sm_iconst (i := -1) (x := (-1)) 15 (by decide +kernel) rfl rfl ?_
    exact sm_iret rfl (by decide +kernel) hf
  · have hf := hf.2 q8
    refine sm_iload_n (k := 3) 8 3 (by decide +kernel) rfl rfl rfl ?_
    refine sm_iload_n (k := 2) 9 2 (by decide +kernel) rfl rfl rfl ?_
    refine sm_isub 10 (by decide +kernel) rfl ?_
    refine sm_iconst (i := 5) (x := 5) 11 (by decide +kernel) rfl rfl ?_
    refine sm_icmp_ge (off := 5) 14 16 (by decide +kernel) (by decide) rfl (fun q7 => ?_) (fun q7 => ?_)
    · have hf := hf.1 q7
      refine sm_aload_n (k := 1) 17 1 (by decide +kernel) rfl rfl rfl ?_
      refine sm_iload_n (k := 2) 18 2 (by decide +kernel) rfl rfl rfl ?_
      refine sm_callV (M2 := mm_B_intAt) (av := [.int x2]) (rest := []) 21 (by decide +kernel) ml_K_32 (Nat.le_refl _) rfl rfl (by first | exact Nat.le_of_ble_eq_true rfl | simp [sm_rfc, Value.category]) rfl hf ?_
      rintro r2 h1 ⟨z3, rfl, hf⟩
      change sm_W N (d + 1) mm_K_holderEnd 21 [(0, .ref x0), (1, .ref x1), (2, .int x2), (3, .int x3), (4, .int x4), (5, .int x5)] [.int z3] h1 Q
      refine sm_istore (i := 6) 23 [(6, .int z3), (0, .ref x0), (1, .ref x1), (2, .int x2), (3, .int x3), (4, .int x4), (5, .int x5)] (by decide +kernel) (by decide) (by first | rfl | simp [sm_rfc]) rfl ?_
      refine sm_iload (i := 6) 25 0 (by decide +kernel) rfl rfl ?_
      refine sm_iconst (i := 5) (x := 5) 26 (by decide +kernel) rfl rfl ?_
      refine sm_icmp_lt (off := 11) 29 37 (by decide +kernel) (by decide) rfl (fun q6 => ?_) (fun q6 => ?_)
      · have hf := hf.1 q6
        refine sm_iconst (i := -1) (x := (-1)) 38 (by decide +kernel) rfl rfl ?_
        exact sm_iret rfl (by decide +kernel) hf
      · have hf := hf.2 q6
        refine sm_iload (i := 6) 31 0 (by decide +kernel) rfl rfl ?_
        refine sm_iload_n (k := 3) 32 4 (by decide +kernel) rfl rfl rfl ?_
        refine sm_iload_n (k := 2) 33 3 (by decide +kernel) rfl rfl rfl ?_
        refine sm_isub 34 (by decide +kernel) rfl ?_
        refine sm_icmp_le (off := 5) 37 39 (by decide +kernel) (by decide) rfl (fun q5 => ?_) (fun q5 => ?_)
        · have hf := hf.1 q5
          refine sm_iload_n (k := 2) 40 3 (by decide +kernel) rfl rfl rfl ?_
          refine sm_iload (i := 6) 42 0 (by decide +kernel) rfl rfl ?_
          refine sm_iadd 43 (by decide +kernel) rfl ?_
          refine sm_iconst (i := 1) (x := 1) 44 (by decide +kernel) rfl rfl ?_
          refine sm_isub 45 (by decide +kernel) rfl ?_
          refine sm_istore (i := 7) 47 [(7, .int ((x2 + z3) - 1)), (6, .int z3), (0, .ref x0), (1, .ref x1), (2, .int x2), (3, .int x3), (4, .int x4), (5, .int x5)] (by decide +kernel) (by decide) (by first | rfl | simp [sm_rfc]) rfl ?_
          refine sm_aload_n (k := 0) 48 2 (by decide +kernel) rfl rfl rfl ?_
          obtain ⟨z4, ez4, hf⟩ := hf
          refine sm_get 51 (by decide +kernel) fl_K_24 ez4 rfl ?_
          refine sm_istore (i := 8) 53 [(8, .int z4), (7, .int ((x2 + z3) - 1)), (6, .int z3), (0, .ref x0), (1, .ref x1), (2, .int x2), (3, .int x3), (4, .int x4), (5, .int x5)] (by decide +kernel) (by decide) (by first | rfl | simp [sm_rfc]) rfl ?_
          refine sm_iload_n (k := 2) 54 5 (by decide +kernel) rfl rfl rfl ?_
          refine sm_iconst (i := 4) (x := 4) 55 (by decide +kernel) rfl rfl ?_
          refine sm_iadd 56 (by decide +kernel) rfl ?_
          refine sm_istore (i := 9) 58 [(9, .int (x2 + 4)), (8, .int z4), (7, .int ((x2 + z3) - 1)), (6, .int z3), (0, .ref x0), (1, .ref x1), (2, .int x2), (3, .int x3), (4, .int x4), (5, .int x5)] (by decide +kernel) (by decide) (by first | rfl | simp [sm_rfc]) rfl ?_
          refine sm_iconst (i := 0) (x := 0) 59 (by decide +kernel) rfl rfl ?_
          refine sm_istore (i := 10) 61 [(10, .int 0), (9, .int (x2 + 4)), (8, .int z4), (7, .int ((x2 + z3) - 1)), (6, .int z3), (0, .ref x0), (1, .ref x1), (2, .int x2), (3, .int x3), (4, .int x4), (5, .int x5)] (by decide +kernel) (by decide) (by first | rfl | simp [sm_rfc]) rfl ?_
          exact sm_sub [5, 6, 9, 10, 3, 2, 1, 0] rfl hf
        · have hf := hf.2 q5
          refine sm_iconst (i := -1) (x := (-1)) 38 (by decide +kernel) rfl rfl ?_
          exact sm_iret rfl (by decide +kernel) hf
    · have hf := hf.2 q7
      refine sm_iconst (i := -1) (x := (-1)) 15 (by decide +kernel) rfl rfl ?_
      exact sm_iret rfl (by decide +kernel) hf
def fK_holderEnd_61 (N d : Nat) (h : sm_H) (Q : Option Value → sm_H → Prop) (x0 : Nat) (x1 : Nat) (x4 : Int32) (x5 : Int32) (x7 : Int32) (x8 : Int32) (x9 : Int32) (x10 : Int32) : Prop := ((1000 ≤ x10 → sm_W N (d + 1) mm_K_holderEnd 121 [(0, .ref x0), (1, .ref x1), (7, .int x7), (8, .int x8), (9, .int x9)] [] h Q) ∧ (¬ 1000 ≤ x10 → ((x7 ≤ x9 → sm_W N (d + 1) mm_K_holderEnd 121 [(0, .ref x0), (1, .ref x1), (7, .int x7), (8, .int x8), (9, .int x9)] [] h Q) ∧ (¬ x7 ≤ x9 → sm_V N d mm_K_isRightName 1 x0 [.ref x1, .int x9, .int x7, .int x4, .int x8] h (fun r2 h1 => ∃ z3 : Int32, r2 = some (.int z3) ∧ ((z3 = 0 → Q (some (.int (-1))) h1) ∧ (¬ z3 = 0 → sm_V N d mm_K_checkedEnd 1 x0 [.ref x1, .int x9, .int x7, .int x5] h1 (fun r5 h4 => ∃ z6 : Int32, r5 = some (.int z6) ∧ ((z6 = (-1) → Q (some (.int (-1))) h4) ∧ (¬ z6 = (-1) → sm_W N (d + 1) mm_K_holderEnd 61 [(0, .ref x0), (1, .ref x1), (4, .int x4), (5, .int x5), (7, .int x7), (8, .int x8), (9, .int z6), (10, .int (x10 + 1))] [] h4 Q))))))))))
set_option maxRecDepth 20000 in
set_option maxHeartbeats 4000000 in
theorem kK_holderEnd_61 {N d : Nat} {h : sm_H} {Q : Option Value → sm_H → Prop} {x0 : Nat} {x1 : Nat} {x4 : Int32} {x5 : Int32} {x7 : Int32} {x8 : Int32} {x9 : Int32} {x10 : Int32} (hf : fK_holderEnd_61 N d h Q x0 x1 x4 x5 x7 x8 x9 x10) : sm_W N (d + 1) mm_K_holderEnd 61 [(0, .ref x0), (1, .ref x1), (4, .int x4), (5, .int x5), (7, .int x7), (8, .int x8), (9, .int x9), (10, .int x10)] [] h Q := by
  unfold fK_holderEnd_61 at hf
  refine sm_iload (i := 10) 63 7 (by decide +kernel) rfl rfl ?_
  refine sm_sipush (i := 1000) (x := 1000) 66 (by decide +kernel) (by decide) rfl ?_
  refine sm_icmp_ge (off := 55) 69 121 (by decide +kernel) (by decide) rfl (fun q10 => ?_) (fun q10 => ?_)
  · have hf := hf.1 q10
    exact sm_sub [0, 1, 4, 5, 6] rfl hf
  · have hf := hf.2 q10
    refine sm_iload (i := 9) 71 6 (by decide +kernel) rfl rfl ?_
    refine sm_iload (i := 7) 73 4 (by decide +kernel) rfl rfl ?_
    refine sm_icmp_ge (off := 48) 76 121 (by decide +kernel) (by decide) rfl (fun q9 => ?_) (fun q9 => ?_)
    · have hf := hf.1 q9
      exact sm_sub [0, 1, 4, 5, 6] rfl hf
    · have hf := hf.2 q9
      refine sm_aload_n (k := 0) 77 0 (by decide +kernel) rfl rfl rfl ?_
      refine sm_aload_n (k := 1) 78 1 (by decide +kernel) rfl rfl rfl ?_
      refine sm_iload (i := 9) 80 6 (by decide +kernel) rfl rfl ?_
      refine sm_iload (i := 7) 82 4 (by decide +kernel) rfl rfl ?_
      refine sm_iload (i := 4) 84 2 (by decide +kernel) rfl rfl ?_
      refine sm_iload (i := 8) 86 5 (by decide +kernel) rfl rfl ?_
      refine sm_callV (M2 := mm_K_isRightName) (av := [.ref x1, .int x9, .int x7, .int x4, .int x8]) (rest := []) 89 (by decide +kernel) ml_K_36 (Nat.le_refl _) rfl rfl (by first | exact Nat.le_of_ble_eq_true rfl | simp [sm_rfc, Value.category]) rfl hf ?_
      rintro r2 h1 ⟨z3, rfl, hf⟩
      change sm_W N (d + 1) mm_K_holderEnd 89 [(0, .ref x0), (1, .ref x1), (4, .int x4), (5, .int x5), (7, .int x7), (8, .int x8), (9, .int x9), (10, .int x10)] [.int z3] h1 Q
      refine sm_if_ne (off := 5) 92 94 (by decide +kernel) (by decide) rfl (fun q8 => ?_) (fun q8 => ?_)
      · have hf := hf.2 q8
        refine sm_aload_n (k := 0) 95 0 (by decide +kernel) rfl rfl rfl ?_
        refine sm_aload_n (k := 1) 96 1 (by decide +kernel) rfl rfl rfl ?_
        refine sm_iload (i := 9) 98 6 (by decide +kernel) rfl rfl ?_
        refine sm_iload (i := 7) 100 4 (by decide +kernel) rfl rfl ?_
        refine sm_iload (i := 5) 102 3 (by decide +kernel) rfl rfl ?_
        refine sm_callV (M2 := mm_K_checkedEnd) (av := [.ref x1, .int x9, .int x7, .int x5]) (rest := []) 105 (by decide +kernel) ml_K_40 (Nat.le_refl _) rfl rfl (by first | exact Nat.le_of_ble_eq_true rfl | simp [sm_rfc, Value.category]) rfl hf ?_
        rintro r5 h4 ⟨z6, rfl, hf⟩
        change sm_W N (d + 1) mm_K_holderEnd 105 [(0, .ref x0), (1, .ref x1), (4, .int x4), (5, .int x5), (7, .int x7), (8, .int x8), (9, .int x9), (10, .int x10)] [.int z6] h4 Q
        refine sm_istore (i := 9) 107 [(9, .int z6), (0, .ref x0), (1, .ref x1), (4, .int x4), (5, .int x5), (7, .int x7), (8, .int x8), (10, .int x10)] (by decide +kernel) (by decide) (by first | rfl | simp [sm_rfc]) rfl ?_
        refine sm_iload (i := 9) 109 0 (by decide +kernel) rfl rfl ?_
        refine sm_iconst (i := -1) (x := (-1)) 110 (by decide +kernel) rfl rfl ?_
        refine sm_icmp_ne (off := 5) 113 115 (by decide +kernel) (by decide) rfl (fun q7 => ?_) (fun q7 => ?_)
        · have hf := hf.2 q7
          refine sm_iinc (i := 10) (j := 7) (z := 1) (y := x10 + 1) 118 [(10, .int (x10 + 1)), (9, .int z6), (0, .ref x0), (1, .ref x1), (4, .int x4), (5, .int x5), (7, .int x7), (8, .int x8)] (by decide +kernel) rfl (by rfl) (by decide) rfl rfl ?_
          refine sm_goto (off := -57) 61 (by decide +kernel) (by decide) ?_
          exact sm_sub [2, 3, 4, 5, 6, 7, 1, 0] rfl hf
        · have hf := hf.1 q7
          refine sm_iconst (i := -1) (x := (-1)) 114 (by decide +kernel) rfl rfl ?_
          exact sm_iret rfl (by decide +kernel) hf
      · have hf := hf.1 q8
        refine sm_iconst (i := -1) (x := (-1)) 93 (by decide +kernel) rfl rfl ?_
        exact sm_iret rfl (by decide +kernel) hf
def fK_holderEnd_121 (N d : Nat) (h : sm_H) (Q : Option Value → sm_H → Prop) (x0 : Nat) (x1 : Nat) (x7 : Int32) (x8 : Int32) (x9 : Int32) : Prop := ∃ h1, sm_p h x0 1 2 (.int x8) = some h1 ∧ ((x9 = x7 → sm_V N d mm_B_at 0 x1 [.int x7] h1 (fun r3 h2 => ∃ z4 : Int32, r3 = some (.int z4) ∧ ((z4 = 0 → Q (some (.int (x7 + 1))) h2) ∧ (¬ z4 = 0 → Q (some (.int (-1))) h2)))) ∧ (¬ x9 = x7 → Q (some (.int (-1))) h1))
set_option maxRecDepth 20000 in
set_option maxHeartbeats 4000000 in
theorem kK_holderEnd_121 {N d : Nat} {h : sm_H} {Q : Option Value → sm_H → Prop} {x0 : Nat} {x1 : Nat} {x7 : Int32} {x8 : Int32} {x9 : Int32} (hf : fK_holderEnd_121 N d h Q x0 x1 x7 x8 x9) : sm_W N (d + 1) mm_K_holderEnd 121 [(0, .ref x0), (1, .ref x1), (7, .int x7), (8, .int x8), (9, .int x9)] [] h Q := by
  unfold fK_holderEnd_121 at hf
  refine sm_aload_n (k := 0) 122 0 (by decide +kernel) rfl rfl rfl ?_
  refine sm_iload (i := 8) 124 3 (by decide +kernel) rfl rfl ?_
  obtain ⟨h1, eh1, hf⟩ := hf
  refine sm_put (ty := .int) 127 (by decide +kernel) fp_K_24 (fun _ => rfl) rfl rfl eh1 rfl ?_
  refine sm_iload (i := 9) 129 4 (by decide +kernel) rfl rfl ?_
  refine sm_iload (i := 7) 131 2 (by decide +kernel) rfl rfl ?_
  refine sm_icmp_ne (off := 19) 134 150 (by decide +kernel) (by decide) rfl (fun q6 => ?_) (fun q6 => ?_)
  · have hf := hf.2 q6
    refine sm_iconst (i := -1) (x := (-1)) 151 (by decide +kernel) rfl rfl ?_
    exact sm_iret rfl (by decide +kernel) hf
  · have hf := hf.1 q6
    refine sm_aload_n (k := 1) 135 1 (by decide +kernel) rfl rfl rfl ?_
    refine sm_iload (i := 7) 137 2 (by decide +kernel) rfl rfl ?_
    refine sm_callV (M2 := mm_B_at) (av := [.int x7]) (rest := []) 140 (by decide +kernel) ml_K_44 (Nat.le_refl _) rfl rfl (by first | exact Nat.le_of_ble_eq_true rfl | simp [sm_rfc, Value.category]) rfl hf ?_
    rintro r3 h2 ⟨z4, rfl, hf⟩
    change sm_W N (d + 1) mm_K_holderEnd 140 [(0, .ref x0), (1, .ref x1), (7, .int x7), (8, .int x8), (9, .int x9)] [.int z4] h2 Q
    refine sm_if_ne (off := 10) 143 150 (by decide +kernel) (by decide) rfl (fun q5 => ?_) (fun q5 => ?_)
    · have hf := hf.2 q5
      refine sm_iconst (i := -1) (x := (-1)) 151 (by decide +kernel) rfl rfl ?_
      exact sm_iret rfl (by decide +kernel) hf
    · have hf := hf.1 q5
      refine sm_iload (i := 7) 145 2 (by decide +kernel) rfl rfl ?_
      refine sm_iconst (i := 1) (x := 1) 146 (by decide +kernel) rfl rfl ?_
      refine sm_iadd 147 (by decide +kernel) rfl ?_
      refine sm_goto (off := 4) 151 (by decide +kernel) (by decide) ?_
      exact sm_iret rfl (by decide +kernel) hf
theorem cK_holderEnd {N d : Nat} {h : sm_H} {Q : Option Value → sm_H → Prop} {x0 : Nat} {x1 : Nat} {x2 : Int32} {x3 : Int32} {x4 : Int32} {x5 : Int32} (hb : ∃ fs, h[x0]? = some (.inr (1, fs))) (hf : fK_holderEnd_0 N d h Q x0 x1 x2 x3 x4 x5) : sm_V N (d + 1) mm_K_holderEnd 1 x0 [.ref x1, .int x2, .int x3, .int x4, .int x5] h Q := ⟨hb, sm_meth (by decide +kernel) (fun _ => Nat.le_of_ble_eq_true rfl) (fun _ => rfl) (kK_holderEnd_0 hf)⟩
def fK_isRightName_0 (N d : Nat) (h : sm_H) (Q : Option Value → sm_H → Prop) (x0 : Nat) (x1 : Nat) (x2 : Int32) (x3 : Int32) (x4 : Int32) (x5 : Int32) : Prop := sm_V N d mm_B_nameEnd 0 x1 [.int x2] h (fun r2 h1 => ∃ z3 : Int32, r2 = some (.int z3) ∧ ((x3 ≤ z3 → Q (some (.int 0)) h1) ∧ (¬ x3 ≤ z3 → ∃ z4 : Int32, sm_g h1 x0 1 2 = some (.int z4) ∧ ∃ z5 : Nat, sm_g h1 x0 1 0 = some (.ref z5) ∧ ∃ z6 : Int32, sm_n h1 z5 = some z6 ∧ ((z6 ≤ z4 → Q (some (.int 0)) h1) ∧ (¬ z6 ≤ z4 → sm_T N d mm_K_isRightText [.ref x1, .int (x2 + 1), .int z3] h1 (fun r8 h7 => ∃ z9 : Int32, r8 = some (.int z9) ∧ ((z9 = 0 → Q (some (.int 0)) h7) ∧ (¬ z9 = 0 → ((x4 = 4 → ∃ z14 : Nat, sm_g h7 x0 1 1 = some (.ref z14) ∧ ∃ z15 : Int32, sm_g h7 x0 1 2 = some (.int z15) ∧ sm_V N d mm_B_becomeDigits 0 z14 [.int (z15 - x5)] h7 (fun r17 h16 => r17 = none ∧ ∃ z18 : Nat, sm_g h16 x0 1 1 = some (.ref z18) ∧ ∃ z19 : Nat, sm_g h16 x0 1 1 = some (.ref z19) ∧ ∃ z20 : Int32, sm_g h16 z19 0 1 = some (.int z20) ∧ sm_T N d mm_D_sameRange [.ref x1, .int (x2 + 1), .int z3, .ref z18, .int 0, .int z20] h16 (fun r22 h21 => ∃ z23 : Int32, r22 = some (.int z23) ∧ ((z23 = 0 → Q (some (.int 0)) h21) ∧ (¬ z23 = 0 → sm_W N (d + 1) mm_K_isRightName 102 [(0, .ref x0), (6, .int (x2 + 1))] [] h21 Q))))) ∧ (¬ x4 = 4 → sm_V N d mm_K_isOneOf 1 x0 [.ref x1, .int (x2 + 1), .int x5] h7 (fun r11 h10 => ∃ z12 : Int32, r11 = some (.int z12) ∧ ((z12 = 0 → sm_W N (d + 1) mm_K_isRightName 102 [(0, .ref x0), (6, .int (x2 + 1))] [] h10 Q) ∧ (¬ z12 = 0 → Q (some (.int 0)) h10)))))))))))))
set_option maxRecDepth 20000 in
set_option maxHeartbeats 4000000 in
theorem kK_isRightName_0 {N d : Nat} {h : sm_H} {Q : Option Value → sm_H → Prop} {x0 : Nat} {x1 : Nat} {x2 : Int32} {x3 : Int32} {x4 : Int32} {x5 : Int32} (hf : fK_isRightName_0 N d h Q x0 x1 x2 x3 x4 x5) : sm_W N (d + 1) mm_K_isRightName 0 [(0, .ref x0), (1, .ref x1), (2, .int x2), (3, .int x3), (4, .int x4), (5, .int x5)] [] h Q := by
  unfold fK_isRightName_0 at hf
  refine sm_iload_n (k := 2) 1 2 (by decide +kernel) rfl rfl rfl ?_
  refine sm_iconst (i := 1) (x := 1) 2 (by decide +kernel) rfl rfl ?_
  refine sm_iadd 3 (by decide +kernel) rfl ?_
  refine sm_istore (i := 6) 5 [(6, .int (x2 + 1)), (0, .ref x0), (1, .ref x1), (2, .int x2), (3, .int x3), (4, .int x4), (5, .int x5)] (by decide +kernel) (by decide) (by first | rfl | simp [sm_rfc]) rfl ?_
  refine sm_aload_n (k := 1) 6 2 (by decide +kernel) rfl rfl rfl ?_
  refine sm_iload_n (k := 2) 7 3 (by decide +kernel) rfl rfl rfl ?_
  refine sm_callV (M2 := mm_B_nameEnd) (av := [.int x2]) (rest := []) 10 (by decide +kernel) ml_K_47 (Nat.le_refl _) rfl rfl (by first | exact Nat.le_of_ble_eq_true rfl | simp [sm_rfc, Value.category]) rfl hf ?_
  rintro r2 h1 ⟨z3, rfl, hf⟩
  change sm_W N (d + 1) mm_K_isRightName 10 [(6, .int (x2 + 1)), (0, .ref x0), (1, .ref x1), (2, .int x2), (3, .int x3), (4, .int x4), (5, .int x5)] [.int z3] h1 Q
  refine sm_istore (i := 7) 12 [(7, .int z3), (6, .int (x2 + 1)), (0, .ref x0), (1, .ref x1), (2, .int x2), (3, .int x3), (4, .int x4), (5, .int x5)] (by decide +kernel) (by decide) (by first | rfl | simp [sm_rfc]) rfl ?_
  refine sm_iload (i := 7) 14 0 (by decide +kernel) rfl rfl ?_
  refine sm_iload_n (k := 3) 15 5 (by decide +kernel) rfl rfl rfl ?_
  refine sm_icmp_ge (off := 26) 18 41 (by decide +kernel) (by decide) rfl (fun q28 => ?_) (fun q28 => ?_)
  · have hf := hf.1 q28
    refine sm_iconst (i := 0) (x := 0) 42 (by decide +kernel) rfl rfl ?_
    exact sm_zret rfl (by decide +kernel) (by decide) hf
  · have hf := hf.2 q28
    refine sm_aload_n (k := 0) 19 2 (by decide +kernel) rfl rfl rfl ?_
    obtain ⟨z4, ez4, hf⟩ := hf
    refine sm_get 22 (by decide +kernel) fl_K_24 ez4 rfl ?_
    refine sm_aload_n (k := 0) 23 2 (by decide +kernel) rfl rfl rfl ?_
    obtain ⟨z5, ez5, hf⟩ := hf
    refine sm_get 26 (by decide +kernel) fl_K_9 ez5 rfl ?_
    obtain ⟨z6, ez6, hf⟩ := hf
    refine sm_alen 27 (by decide +kernel) ez6 rfl ?_
    refine sm_icmp_ge (off := 14) 30 41 (by decide +kernel) (by decide) rfl (fun q27 => ?_) (fun q27 => ?_)
    · have hf := hf.1 q27
      refine sm_iconst (i := 0) (x := 0) 42 (by decide +kernel) rfl rfl ?_
      exact sm_zret rfl (by decide +kernel) (by decide) hf
    · have hf := hf.2 q27
      refine sm_aload_n (k := 1) 31 3 (by decide +kernel) rfl rfl rfl ?_
      refine sm_iload (i := 6) 33 1 (by decide +kernel) rfl rfl ?_
      refine sm_iload (i := 7) 35 0 (by decide +kernel) rfl rfl ?_
      refine sm_callS (M2 := mm_K_isRightText) (av := [.ref x1, .int (x2 + 1), .int z3]) (rest := []) 38 (by decide +kernel) ml_K_50 (Nat.le_refl _) rfl rfl (by first | exact Nat.le_of_ble_eq_true rfl | simp [sm_rfc, Value.category]) rfl hf ?_
      rintro r8 h7 ⟨z9, rfl, hf⟩
      change sm_W N (d + 1) mm_K_isRightName 38 [(7, .int z3), (6, .int (x2 + 1)), (0, .ref x0), (1, .ref x1), (2, .int x2), (3, .int x3), (4, .int x4), (5, .int x5)] [.int z9] h7 Q
      refine sm_if_ne (off := 5) 41 43 (by decide +kernel) (by decide) rfl (fun q26 => ?_) (fun q26 => ?_)
      · have hf := hf.2 q26
        refine sm_iload (i := 4) 45 6 (by decide +kernel) rfl rfl ?_
        refine sm_iconst (i := 4) (x := 4) 46 (by decide +kernel) rfl rfl ?_
        refine sm_icmp_ne (off := 42) 49 88 (by decide +kernel) (by decide) rfl (fun q25 => ?_) (fun q25 => ?_)
        · have hf := hf.2 q25
          refine sm_aload_n (k := 0) 89 2 (by decide +kernel) rfl rfl rfl ?_
          refine sm_aload_n (k := 1) 90 3 (by decide +kernel) rfl rfl rfl ?_
          refine sm_iload (i := 6) 92 1 (by decide +kernel) rfl rfl ?_
          refine sm_iload (i := 5) 94 7 (by decide +kernel) rfl rfl ?_
          refine sm_callV (M2 := mm_K_isOneOf) (av := [.ref x1, .int (x2 + 1), .int x5]) (rest := []) 97 (by decide +kernel) ml_K_64 (Nat.le_refl _) rfl rfl (by first | exact Nat.le_of_ble_eq_true rfl | simp [sm_rfc, Value.category]) rfl hf ?_
          rintro r11 h10 ⟨z12, rfl, hf⟩
          change sm_W N (d + 1) mm_K_isRightName 97 [(7, .int z3), (6, .int (x2 + 1)), (0, .ref x0), (1, .ref x1), (2, .int x2), (3, .int x3), (4, .int x4), (5, .int x5)] [.int z12] h10 Q
          refine sm_if_eq (off := 5) 100 102 (by decide +kernel) (by decide) rfl (fun q13 => ?_) (fun q13 => ?_)
          · have hf := hf.1 q13
            exact sm_sub [2, 1] rfl hf
          · have hf := hf.2 q13
            refine sm_iconst (i := 0) (x := 0) 101 (by decide +kernel) rfl rfl ?_
            exact sm_zret rfl (by decide +kernel) (by decide) hf
        · have hf := hf.1 q25
          refine sm_aload_n (k := 0) 50 2 (by decide +kernel) rfl rfl rfl ?_
          obtain ⟨z14, ez14, hf⟩ := hf
          refine sm_get 53 (by decide +kernel) fl_K_20 ez14 rfl ?_
          refine sm_aload_n (k := 0) 54 2 (by decide +kernel) rfl rfl rfl ?_
          obtain ⟨z15, ez15, hf⟩ := hf
          refine sm_get 57 (by decide +kernel) fl_K_24 ez15 rfl ?_
          refine sm_iload (i := 5) 59 7 (by decide +kernel) rfl rfl ?_
          refine sm_isub 60 (by decide +kernel) rfl ?_
          refine sm_callV (M2 := mm_B_becomeDigits) (av := [.int (z15 - x5)]) (rest := []) 63 (by decide +kernel) ml_K_54 (Nat.le_refl _) rfl rfl (by first | exact Nat.le_of_ble_eq_true rfl | simp [sm_rfc, Value.category]) rfl hf ?_
          rintro r17 h16 ⟨rfl, hf⟩
          change sm_W N (d + 1) mm_K_isRightName 63 [(7, .int z3), (6, .int (x2 + 1)), (0, .ref x0), (1, .ref x1), (2, .int x2), (3, .int x3), (4, .int x4), (5, .int x5)] [] h16 Q
          refine sm_aload_n (k := 1) 64 3 (by decide +kernel) rfl rfl rfl ?_
          refine sm_iload (i := 6) 66 1 (by decide +kernel) rfl rfl ?_
          refine sm_iload (i := 7) 68 0 (by decide +kernel) rfl rfl ?_
          refine sm_aload_n (k := 0) 69 2 (by decide +kernel) rfl rfl rfl ?_
          obtain ⟨z18, ez18, hf⟩ := hf
          refine sm_get 72 (by decide +kernel) fl_K_20 ez18 rfl ?_
          refine sm_iconst (i := 0) (x := 0) 73 (by decide +kernel) rfl rfl ?_
          refine sm_aload_n (k := 0) 74 2 (by decide +kernel) rfl rfl rfl ?_
          obtain ⟨z19, ez19, hf⟩ := hf
          refine sm_get 77 (by decide +kernel) fl_K_20 ez19 rfl ?_
          obtain ⟨z20, ez20, hf⟩ := hf
          refine sm_get 80 (by decide +kernel) fl_K_57 ez20 rfl ?_
          refine sm_callN (M2 := mm_D_sameRange) (av := [.ref x1, .int (x2 + 1), .int z3, .ref z18, .int 0, .int z20]) (rest := []) 83 (by decide +kernel) ml_K_60 (Nat.le_refl _) rfl rfl (by first | exact Nat.le_of_ble_eq_true rfl | simp [sm_rfc, Value.category]) rfl hf ?_
          rintro r22 h21 ⟨z23, rfl, hf⟩
          change sm_W N (d + 1) mm_K_isRightName 83 [(7, .int z3), (6, .int (x2 + 1)), (0, .ref x0), (1, .ref x1), (2, .int x2), (3, .int x3), (4, .int x4), (5, .int x5)] [.int z23] h21 Q
          refine sm_if_ne (off := 19) 86 102 (by decide +kernel) (by decide) rfl (fun q24 => ?_) (fun q24 => ?_)
          · have hf := hf.2 q24
            exact sm_sub [2, 1] rfl hf
          · have hf := hf.1 q24
            refine sm_iconst (i := 0) (x := 0) 87 (by decide +kernel) rfl rfl ?_
            exact sm_zret rfl (by decide +kernel) (by decide) hf
      · have hf := hf.1 q26
        refine sm_iconst (i := 0) (x := 0) 42 (by decide +kernel) rfl rfl ?_
        exact sm_zret rfl (by decide +kernel) (by decide) hf
def fK_isRightName_102 (N d : Nat) (h : sm_H) (Q : Option Value → sm_H → Prop) (x0 : Nat) (x6 : Int32) : Prop := ∃ z1 : Nat, sm_g h x0 1 0 = some (.ref z1) ∧ ∃ z2 : Int32, sm_g h x0 1 2 = some (.int z2) ∧ ∃ h3, sm_pi h z1 z2 x6 = some h3 ∧ ∃ z4 : Int32, sm_g h3 x0 1 2 = some (.int z4) ∧ ∃ h5, sm_p h3 x0 1 2 (.int (z4 + 1)) = some h5 ∧ Q (some (.int 1)) h5
set_option maxRecDepth 20000 in
set_option maxHeartbeats 4000000 in
theorem kK_isRightName_102 {N d : Nat} {h : sm_H} {Q : Option Value → sm_H → Prop} {x0 : Nat} {x6 : Int32} (hf : fK_isRightName_102 N d h Q x0 x6) : sm_W N (d + 1) mm_K_isRightName 102 [(0, .ref x0), (6, .int x6)] [] h Q := by
  unfold fK_isRightName_102 at hf
  refine sm_aload_n (k := 0) 103 0 (by decide +kernel) rfl rfl rfl ?_
  obtain ⟨z1, ez1, hf⟩ := hf
  refine sm_get 106 (by decide +kernel) fl_K_9 ez1 rfl ?_
  refine sm_aload_n (k := 0) 107 0 (by decide +kernel) rfl rfl rfl ?_
  obtain ⟨z2, ez2, hf⟩ := hf
  refine sm_get 110 (by decide +kernel) fl_K_24 ez2 rfl ?_
  refine sm_iload (i := 6) 112 1 (by decide +kernel) rfl rfl ?_
  obtain ⟨h3, eh3, hf⟩ := hf
  refine sm_iast 113 (by decide +kernel) eh3 rfl ?_
  refine sm_aload_n (k := 0) 114 0 (by decide +kernel) rfl rfl rfl ?_
  refine sm_dup 115 (by decide +kernel) (by first | rfl | simp [sm_rfc]) rfl ?_
  obtain ⟨z4, ez4, hf⟩ := hf
  refine sm_get 118 (by decide +kernel) fl_K_24 ez4 rfl ?_
  refine sm_iconst (i := 1) (x := 1) 119 (by decide +kernel) rfl rfl ?_
  refine sm_iadd 120 (by decide +kernel) rfl ?_
  obtain ⟨h5, eh5, hf⟩ := hf
  refine sm_put (ty := .int) 123 (by decide +kernel) fp_K_24 (fun _ => rfl) rfl rfl eh5 rfl ?_
  refine sm_iconst (i := 1) (x := 1) 124 (by decide +kernel) rfl rfl ?_
  exact sm_zret rfl (by decide +kernel) (by decide) hf
theorem cK_isRightName {N d : Nat} {h : sm_H} {Q : Option Value → sm_H → Prop} {x0 : Nat} {x1 : Nat} {x2 : Int32} {x3 : Int32} {x4 : Int32} {x5 : Int32} (hb : ∃ fs, h[x0]? = some (.inr (1, fs))) (hf : fK_isRightName_0 N d h Q x0 x1 x2 x3 x4 x5) : sm_V N (d + 1) mm_K_isRightName 1 x0 [.ref x1, .int x2, .int x3, .int x4, .int x5] h Q := ⟨hb, sm_meth (by decide +kernel) (fun _ => Nat.le_of_ble_eq_true rfl) (fun _ => rfl) (kK_isRightName_0 hf)⟩
def fK_isOneOf_0 (N d : Nat) (h : sm_H) (Q : Option Value → sm_H → Prop) (x0 : Nat) (x1 : Nat) (x2 : Int32) (x3 : Int32) : Prop := sm_W N (d + 1) mm_K_isOneOf 7 [(0, .ref x0), (1, .ref x1), (2, .int x2), (4, .int (if x3 < 0 then 0 else x3))] [] h Q
set_option maxRecDepth 20000 in
set_option maxHeartbeats 4000000 in
theorem kK_isOneOf_0 {N d : Nat} {h : sm_H} {Q : Option Value → sm_H → Prop} {x0 : Nat} {x1 : Nat} {x2 : Int32} {x3 : Int32} (hf : fK_isOneOf_0 N d h Q x0 x1 x2 x3) : sm_W N (d + 1) mm_K_isOneOf 0 [(0, .ref x0), (1, .ref x1), (2, .int x2), (3, .int x3)] [] h Q := by
  unfold fK_isOneOf_0 at hf
  refine sm_iload_n (k := 3) 1 3 (by decide +kernel) rfl rfl rfl ?_
  refine sm_iconst (i := 0) (x := 0) 2 (by decide +kernel) rfl rfl ?_
  refine sm_mmax 5 (by decide +kernel) mx_K_67 (Nat.le_add_left 1 d) (by first | exact Nat.le_of_ble_eq_true rfl | simp [sm_rfc, Value.category]) rfl ?_
  refine sm_istore (i := 4) 7 [(4, .int (if x3 < 0 then 0 else x3)), (0, .ref x0), (1, .ref x1), (2, .int x2), (3, .int x3)] (by decide +kernel) (by decide) (by first | rfl | simp [sm_rfc]) rfl ?_
  exact sm_sub [1, 2, 3, 0] rfl hf
def fK_isOneOf_7 (N d : Nat) (h : sm_H) (Q : Option Value → sm_H → Prop) (x0 : Nat) (x1 : Nat) (x2 : Int32) (x4 : Int32) : Prop := ∃ z1 : Int32, sm_g h x0 1 2 = some (.int z1) ∧ ((z1 ≤ x4 → Q (some (.int 0)) h) ∧ (¬ z1 ≤ x4 → ∃ z2 : Nat, sm_g h x0 1 0 = some (.ref z2) ∧ ∃ z3 : Int32, sm_n h z2 = some z3 ∧ ((z3 ≤ x4 → Q (some (.int 0)) h) ∧ (¬ z3 ≤ x4 → ∃ z4 : Nat, sm_g h x0 1 0 = some (.ref z4) ∧ ∃ z5 : Int32, sm_gi h z4 1 x4 = some z5 ∧ sm_T N d mm_D_sameNames [.ref x1, .int z5, .ref x1, .int x2] h (fun r7 h6 => ∃ z8 : Int32, r7 = some (.int z8) ∧ ((z8 = 0 → sm_W N (d + 1) mm_K_isOneOf 7 [(0, .ref x0), (1, .ref x1), (2, .int x2), (4, .int (x4 + 1))] [] h6 Q) ∧ (¬ z8 = 0 → Q (some (.int 1)) h6)))))))
set_option maxRecDepth 20000 in
set_option maxHeartbeats 4000000 in
theorem kK_isOneOf_7 {N d : Nat} {h : sm_H} {Q : Option Value → sm_H → Prop} {x0 : Nat} {x1 : Nat} {x2 : Int32} {x4 : Int32} (hf : fK_isOneOf_7 N d h Q x0 x1 x2 x4) : sm_W N (d + 1) mm_K_isOneOf 7 [(0, .ref x0), (1, .ref x1), (2, .int x2), (4, .int x4)] [] h Q := by
  unfold fK_isOneOf_7 at hf
  refine sm_iload (i := 4) 9 3 (by decide +kernel) rfl rfl ?_
  refine sm_aload_n (k := 0) 10 0 (by decide +kernel) rfl rfl rfl ?_
  obtain ⟨z1, ez1, hf⟩ := hf
  refine sm_get 13 (by decide +kernel) fl_K_24 ez1 rfl ?_
  refine sm_icmp_ge (off := 37) 16 50 (by decide +kernel) (by decide) rfl (fun q11 => ?_) (fun q11 => ?_)
  · have hf := hf.1 q11
    refine sm_iconst (i := 0) (x := 0) 51 (by decide +kernel) rfl rfl ?_
    exact sm_zret rfl (by decide +kernel) (by decide) hf
  · have hf := hf.2 q11
    refine sm_iload (i := 4) 18 3 (by decide +kernel) rfl rfl ?_
    refine sm_aload_n (k := 0) 19 0 (by decide +kernel) rfl rfl rfl ?_
    obtain ⟨z2, ez2, hf⟩ := hf
    refine sm_get 22 (by decide +kernel) fl_K_9 ez2 rfl ?_
    obtain ⟨z3, ez3, hf⟩ := hf
    refine sm_alen 23 (by decide +kernel) ez3 rfl ?_
    refine sm_icmp_ge (off := 27) 26 50 (by decide +kernel) (by decide) rfl (fun q10 => ?_) (fun q10 => ?_)
    · have hf := hf.1 q10
      refine sm_iconst (i := 0) (x := 0) 51 (by decide +kernel) rfl rfl ?_
      exact sm_zret rfl (by decide +kernel) (by decide) hf
    · have hf := hf.2 q10
      refine sm_aload_n (k := 1) 27 1 (by decide +kernel) rfl rfl rfl ?_
      refine sm_aload_n (k := 0) 28 0 (by decide +kernel) rfl rfl rfl ?_
      obtain ⟨z4, ez4, hf⟩ := hf
      refine sm_get 31 (by decide +kernel) fl_K_9 ez4 rfl ?_
      refine sm_iload (i := 4) 33 3 (by decide +kernel) rfl rfl ?_
      obtain ⟨z5, ez5, hf⟩ := hf
      refine sm_iald 34 (by decide +kernel) ez5 rfl ?_
      refine sm_aload_n (k := 1) 35 1 (by decide +kernel) rfl rfl rfl ?_
      refine sm_iload_n (k := 2) 36 2 (by decide +kernel) rfl rfl rfl ?_
      refine sm_callN (M2 := mm_D_sameNames) (av := [.ref x1, .int z5, .ref x1, .int x2]) (rest := []) 39 (by decide +kernel) ml_K_73 (Nat.le_refl _) rfl rfl (by first | exact Nat.le_of_ble_eq_true rfl | simp [sm_rfc, Value.category]) rfl hf ?_
      rintro r7 h6 ⟨z8, rfl, hf⟩
      change sm_W N (d + 1) mm_K_isOneOf 39 [(0, .ref x0), (1, .ref x1), (2, .int x2), (4, .int x4)] [.int z8] h6 Q
      refine sm_if_eq (off := 5) 42 44 (by decide +kernel) (by decide) rfl (fun q9 => ?_) (fun q9 => ?_)
      · have hf := hf.1 q9
        refine sm_iinc (i := 4) (j := 3) (z := 1) (y := x4 + 1) 47 [(4, .int (x4 + 1)), (0, .ref x0), (1, .ref x1), (2, .int x2)] (by decide +kernel) rfl (by rfl) (by decide) rfl rfl ?_
        refine sm_goto (off := -40) 7 (by decide +kernel) (by decide) ?_
        exact sm_sub [1, 2, 3, 0] rfl hf
      · have hf := hf.2 q9
        refine sm_iconst (i := 1) (x := 1) 43 (by decide +kernel) rfl rfl ?_
        exact sm_zret rfl (by decide +kernel) (by decide) hf
theorem cK_isOneOf {N d : Nat} {h : sm_H} {Q : Option Value → sm_H → Prop} {x0 : Nat} {x1 : Nat} {x2 : Int32} {x3 : Int32} (hb : ∃ fs, h[x0]? = some (.inr (1, fs))) (hf : fK_isOneOf_0 N d h Q x0 x1 x2 x3) : sm_V N (d + 1) mm_K_isOneOf 1 x0 [.ref x1, .int x2, .int x3] h Q := ⟨hb, sm_meth (by decide +kernel) (fun _ => Nat.le_of_ble_eq_true rfl) (fun _ => rfl) (kK_isOneOf_0 hf)⟩
def fK_checkedEnd_0 (N d : Nat) (h : sm_H) (Q : Option Value → sm_H → Prop) (x0 : Nat) (x1 : Nat) (x2 : Int32) (x3 : Int32) (x4 : Int32) : Prop := sm_V N d mm_B_valueStart 0 x1 [.int x2] h (fun r2 h1 => ∃ z3 : Int32, r2 = some (.int z3) ∧ sm_V N d mm_B_at 0 x1 [.int x2] h1 (fun r5 h4 => ∃ z6 : Int32, r5 = some (.int z6) ∧ ((z6 = 2 → sm_T N d mm_K_textEnd [.ref x1, .int z3, .int x3] h4 (fun r8 h7 => ∃ z9 : Int32, r8 = some (.int z9) ∧ Q (some (.int z9)) h7)) ∧ (z6 = 3 → sm_W N (d + 1) mm_K_checkedEnd 172 [(0, .ref x0), (1, .ref x1), (3, .int x3), (4, .int x4), (5, .int z3), (7, .int z6)] [] h4 Q) ∧ (z6 = 4 → sm_W N (d + 1) mm_K_checkedEnd 172 [(0, .ref x0), (1, .ref x1), (3, .int x3), (4, .int x4), (5, .int z3), (7, .int z6)] [] h4 Q) ∧ (z6 = 8 → (((x3 - z3) < 1 → Q (some (.int (-1))) h4) ∧ (¬ (x3 - z3) < 1 → sm_V N d mm_B_at 0 x1 [.int z3] h4 (fun r11 h10 => ∃ z12 : Int32, r11 = some (.int z12) ∧ ((1 < z12 → Q (some (.int (-1))) h10) ∧ (¬ 1 < z12 → Q (some (.int (z3 + 1))) h10)))))) ∧ (z6 = 10 → Q (some (.int z3)) h4) ∧ (z6 = 16 → (((x3 - z3) < 4 → Q (some (.int (-1))) h4) ∧ (¬ (x3 - z3) < 4 → Q (some (.int (z3 + 4))) h4))) ∧ (z6 = 18 → (((x3 - z3) < 8 → Q (some (.int (-1))) h4) ∧ (¬ (x3 - z3) < 8 → Q (some (.int (z3 + 8))) h4))) ∧ ((¬ z6 = 2 ∧ ¬ z6 = 3 ∧ ¬ z6 = 4 ∧ ¬ z6 = 8 ∧ ¬ z6 = 10 ∧ ¬ z6 = 16 ∧ ¬ z6 = 18) → Q (some (.int (-1))) h4))))
set_option maxRecDepth 20000 in
set_option maxHeartbeats 4000000 in
theorem kK_checkedEnd_0 {N d : Nat} {h : sm_H} {Q : Option Value → sm_H → Prop} {x0 : Nat} {x1 : Nat} {x2 : Int32} {x3 : Int32} {x4 : Int32} (hf : fK_checkedEnd_0 N d h Q x0 x1 x2 x3 x4) : sm_W N (d + 1) mm_K_checkedEnd 0 [(0, .ref x0), (1, .ref x1), (2, .int x2), (3, .int x3), (4, .int x4)] [] h Q := by
  unfold fK_checkedEnd_0 at hf
  refine sm_aload_n (k := 1) 1 1 (by decide +kernel) rfl rfl rfl ?_
  refine sm_iload_n (k := 2) 2 2 (by decide +kernel) rfl rfl rfl ?_
  refine sm_callV (M2 := mm_B_valueStart) (av := [.int x2]) (rest := []) 5 (by decide +kernel) ml_K_77 (Nat.le_refl _) rfl rfl (by first | exact Nat.le_of_ble_eq_true rfl | simp [sm_rfc, Value.category]) rfl hf ?_
  rintro r2 h1 ⟨z3, rfl, hf⟩
  change sm_W N (d + 1) mm_K_checkedEnd 5 [(0, .ref x0), (1, .ref x1), (2, .int x2), (3, .int x3), (4, .int x4)] [.int z3] h1 Q
  refine sm_istore (i := 5) 7 [(5, .int z3), (0, .ref x0), (1, .ref x1), (2, .int x2), (3, .int x3), (4, .int x4)] (by decide +kernel) (by decide) (by first | rfl | simp [sm_rfc]) rfl ?_
  refine sm_iload_n (k := 3) 8 4 (by decide +kernel) rfl rfl rfl ?_
  refine sm_iload (i := 5) 10 0 (by decide +kernel) rfl rfl ?_
  refine sm_isub 11 (by decide +kernel) rfl ?_
  refine sm_istore (i := 6) 13 [(6, .int (x3 - z3)), (5, .int z3), (0, .ref x0), (1, .ref x1), (2, .int x2), (3, .int x3), (4, .int x4)] (by decide +kernel) (by decide) (by first | rfl | simp [sm_rfc]) rfl ?_
  refine sm_aload_n (k := 1) 14 3 (by decide +kernel) rfl rfl rfl ?_
  refine sm_iload_n (k := 2) 15 4 (by decide +kernel) rfl rfl rfl ?_
  refine sm_callV (M2 := mm_B_at) (av := [.int x2]) (rest := []) 18 (by decide +kernel) ml_K_44 (Nat.le_refl _) rfl rfl (by first | exact Nat.le_of_ble_eq_true rfl | simp [sm_rfc, Value.category]) rfl hf ?_
  rintro r5 h4 ⟨z6, rfl, hf⟩
  change sm_W N (d + 1) mm_K_checkedEnd 18 [(6, .int (x3 - z3)), (5, .int z3), (0, .ref x0), (1, .ref x1), (2, .int x2), (3, .int x3), (4, .int x4)] [.int z6] h4 Q
  refine sm_istore (i := 7) 20 [(7, .int z6), (6, .int (x3 - z3)), (5, .int z3), (0, .ref x0), (1, .ref x1), (2, .int x2), (3, .int x3), (4, .int x4)] (by decide +kernel) (by decide) (by first | rfl | simp [sm_rfc]) rfl ?_
  refine sm_iload (i := 7) 22 0 (by decide +kernel) rfl rfl ?_
  by_cases g2 : z6 = 2
  · refine sm_tabIn (dflt := 165) (lo := 2) (hi := 18) (offs := #[142, 150, 150, 165, 165, 165, 114, 165, 139, 165, 165, 165, 165, 165, 82, 165, 97]) (len := 82) (off := 142) 164 (by decide +kernel) (by rw [g2]; decide) (by rw [g2]; decide) (by rw [g2]; decide) (by decide) ?_
    have hf := hf.1 g2
    refine sm_aload_n (k := 1) 165 4 (by decide +kernel) rfl rfl rfl ?_
    refine sm_iload (i := 5) 167 2 (by decide +kernel) rfl rfl ?_
    refine sm_iload_n (k := 3) 168 6 (by decide +kernel) rfl rfl rfl ?_
    refine sm_callS (M2 := mm_K_textEnd) (av := [.ref x1, .int z3, .int x3]) (rest := []) 171 (by decide +kernel) ml_K_80 (Nat.le_refl _) rfl rfl (by first | exact Nat.le_of_ble_eq_true rfl | simp [sm_rfc, Value.category]) rfl hf ?_
    rintro r8 h7 ⟨z9, rfl, hf⟩
    change sm_W N (d + 1) mm_K_checkedEnd 171 [(7, .int z6), (6, .int (x3 - z3)), (5, .int z3), (0, .ref x0), (1, .ref x1), (2, .int x2), (3, .int x3), (4, .int x4)] [.int z9] h7 Q
    exact sm_iret rfl (by decide +kernel) hf
  by_cases g3 : z6 = 3
  · refine sm_tabIn (dflt := 165) (lo := 2) (hi := 18) (offs := #[142, 150, 150, 165, 165, 165, 114, 165, 139, 165, 165, 165, 165, 165, 82, 165, 97]) (len := 82) (off := 150) 172 (by decide +kernel) (by rw [g3]; decide) (by rw [g3]; decide) (by rw [g3]; decide) (by decide) ?_
    have hf := hf.2.1 g3
    exact sm_sub [3, 4, 6, 7, 2, 0] rfl hf
  by_cases g4 : z6 = 4
  · refine sm_tabIn (dflt := 165) (lo := 2) (hi := 18) (offs := #[142, 150, 150, 165, 165, 165, 114, 165, 139, 165, 165, 165, 165, 165, 82, 165, 97]) (len := 82) (off := 150) 172 (by decide +kernel) (by rw [g4]; decide) (by rw [g4]; decide) (by rw [g4]; decide) (by decide) ?_
    have hf := hf.2.2.1 g4
    exact sm_sub [3, 4, 6, 7, 2, 0] rfl hf
  by_cases g5 : z6 = 5
  · refine sm_tabIn (dflt := 165) (lo := 2) (hi := 18) (offs := #[142, 150, 150, 165, 165, 165, 114, 165, 139, 165, 165, 165, 165, 165, 82, 165, 97]) (len := 82) (off := 165) 187 (by decide +kernel) (by rw [g5]; decide) (by rw [g5]; decide) (by rw [g5]; decide) (by decide) ?_
    have hf := hf.2.2.2.2.2.2.2 ⟨(by rw [g5]; decide), (by rw [g5]; decide), (by rw [g5]; decide), (by rw [g5]; decide), (by rw [g5]; decide), (by rw [g5]; decide), (by rw [g5]; decide)⟩
    refine sm_iconst (i := -1) (x := (-1)) 188 (by decide +kernel) rfl rfl ?_
    exact sm_iret rfl (by decide +kernel) hf
  by_cases g6 : z6 = 6
  · refine sm_tabIn (dflt := 165) (lo := 2) (hi := 18) (offs := #[142, 150, 150, 165, 165, 165, 114, 165, 139, 165, 165, 165, 165, 165, 82, 165, 97]) (len := 82) (off := 165) 187 (by decide +kernel) (by rw [g6]; decide) (by rw [g6]; decide) (by rw [g6]; decide) (by decide) ?_
    have hf := hf.2.2.2.2.2.2.2 ⟨(by rw [g6]; decide), (by rw [g6]; decide), (by rw [g6]; decide), (by rw [g6]; decide), (by rw [g6]; decide), (by rw [g6]; decide), (by rw [g6]; decide)⟩
    refine sm_iconst (i := -1) (x := (-1)) 188 (by decide +kernel) rfl rfl ?_
    exact sm_iret rfl (by decide +kernel) hf
  by_cases g7 : z6 = 7
  · refine sm_tabIn (dflt := 165) (lo := 2) (hi := 18) (offs := #[142, 150, 150, 165, 165, 165, 114, 165, 139, 165, 165, 165, 165, 165, 82, 165, 97]) (len := 82) (off := 165) 187 (by decide +kernel) (by rw [g7]; decide) (by rw [g7]; decide) (by rw [g7]; decide) (by decide) ?_
    have hf := hf.2.2.2.2.2.2.2 ⟨(by rw [g7]; decide), (by rw [g7]; decide), (by rw [g7]; decide), (by rw [g7]; decide), (by rw [g7]; decide), (by rw [g7]; decide), (by rw [g7]; decide)⟩
    refine sm_iconst (i := -1) (x := (-1)) 188 (by decide +kernel) rfl rfl ?_
    exact sm_iret rfl (by decide +kernel) hf
  by_cases g8 : z6 = 8
  · refine sm_tabIn (dflt := 165) (lo := 2) (hi := 18) (offs := #[142, 150, 150, 165, 165, 165, 114, 165, 139, 165, 165, 165, 165, 165, 82, 165, 97]) (len := 82) (off := 114) 136 (by decide +kernel) (by rw [g8]; decide) (by rw [g8]; decide) (by rw [g8]; decide) (by decide) ?_
    have hf := hf.2.2.2.1 g8
    refine sm_iload (i := 6) 138 1 (by decide +kernel) rfl rfl ?_
    refine sm_iconst (i := 1) (x := 1) 139 (by decide +kernel) rfl rfl ?_
    refine sm_icmp_lt (off := 20) 142 159 (by decide +kernel) (by decide) rfl (fun q14 => ?_) (fun q14 => ?_)
    · have hf := hf.1 q14
      refine sm_iconst (i := -1) (x := (-1)) 160 (by decide +kernel) rfl rfl ?_
      exact sm_iret rfl (by decide +kernel) hf
    · have hf := hf.2 q14
      refine sm_aload_n (k := 1) 143 4 (by decide +kernel) rfl rfl rfl ?_
      refine sm_iload (i := 5) 145 2 (by decide +kernel) rfl rfl ?_
      refine sm_callV (M2 := mm_B_at) (av := [.int z3]) (rest := []) 148 (by decide +kernel) ml_K_44 (Nat.le_refl _) rfl rfl (by first | exact Nat.le_of_ble_eq_true rfl | simp [sm_rfc, Value.category]) rfl hf ?_
      rintro r11 h10 ⟨z12, rfl, hf⟩
      change sm_W N (d + 1) mm_K_checkedEnd 148 [(7, .int z6), (6, .int (x3 - z3)), (5, .int z3), (0, .ref x0), (1, .ref x1), (2, .int x2), (3, .int x3), (4, .int x4)] [.int z12] h10 Q
      refine sm_iconst (i := 1) (x := 1) 149 (by decide +kernel) rfl rfl ?_
      refine sm_icmp_gt (off := 10) 152 159 (by decide +kernel) (by decide) rfl (fun q13 => ?_) (fun q13 => ?_)
      · have hf := hf.1 q13
        refine sm_iconst (i := -1) (x := (-1)) 160 (by decide +kernel) rfl rfl ?_
        exact sm_iret rfl (by decide +kernel) hf
      · have hf := hf.2 q13
        refine sm_iload (i := 5) 154 2 (by decide +kernel) rfl rfl ?_
        refine sm_iconst (i := 1) (x := 1) 155 (by decide +kernel) rfl rfl ?_
        refine sm_iadd 156 (by decide +kernel) rfl ?_
        refine sm_goto (off := 4) 160 (by decide +kernel) (by decide) ?_
        exact sm_iret rfl (by decide +kernel) hf
  by_cases g9 : z6 = 9
  · refine sm_tabIn (dflt := 165) (lo := 2) (hi := 18) (offs := #[142, 150, 150, 165, 165, 165, 114, 165, 139, 165, 165, 165, 165, 165, 82, 165, 97]) (len := 82) (off := 165) 187 (by decide +kernel) (by rw [g9]; decide) (by rw [g9]; decide) (by rw [g9]; decide) (by decide) ?_
    have hf := hf.2.2.2.2.2.2.2 ⟨(by rw [g9]; decide), (by rw [g9]; decide), (by rw [g9]; decide), (by rw [g9]; decide), (by rw [g9]; decide), (by rw [g9]; decide), (by rw [g9]; decide)⟩
    refine sm_iconst (i := -1) (x := (-1)) 188 (by decide +kernel) rfl rfl ?_
    exact sm_iret rfl (by decide +kernel) hf
  by_cases g10 : z6 = 10
  · refine sm_tabIn (dflt := 165) (lo := 2) (hi := 18) (offs := #[142, 150, 150, 165, 165, 165, 114, 165, 139, 165, 165, 165, 165, 165, 82, 165, 97]) (len := 82) (off := 139) 161 (by decide +kernel) (by rw [g10]; decide) (by rw [g10]; decide) (by rw [g10]; decide) (by decide) ?_
    have hf := hf.2.2.2.2.1 g10
    refine sm_iload (i := 5) 163 2 (by decide +kernel) rfl rfl ?_
    exact sm_iret rfl (by decide +kernel) hf
  by_cases g11 : z6 = 11
  · refine sm_tabIn (dflt := 165) (lo := 2) (hi := 18) (offs := #[142, 150, 150, 165, 165, 165, 114, 165, 139, 165, 165, 165, 165, 165, 82, 165, 97]) (len := 82) (off := 165) 187 (by decide +kernel) (by rw [g11]; decide) (by rw [g11]; decide) (by rw [g11]; decide) (by decide) ?_
    have hf := hf.2.2.2.2.2.2.2 ⟨(by rw [g11]; decide), (by rw [g11]; decide), (by rw [g11]; decide), (by rw [g11]; decide), (by rw [g11]; decide), (by rw [g11]; decide), (by rw [g11]; decide)⟩
    refine sm_iconst (i := -1) (x := (-1)) 188 (by decide +kernel) rfl rfl ?_
    exact sm_iret rfl (by decide +kernel) hf
  by_cases g12 : z6 = 12
  · refine sm_tabIn (dflt := 165) (lo := 2) (hi := 18) (offs := #[142, 150, 150, 165, 165, 165, 114, 165, 139, 165, 165, 165, 165, 165, 82, 165, 97]) (len := 82) (off := 165) 187 (by decide +kernel) (by rw [g12]; decide) (by rw [g12]; decide) (by rw [g12]; decide) (by decide) ?_
    have hf := hf.2.2.2.2.2.2.2 ⟨(by rw [g12]; decide), (by rw [g12]; decide), (by rw [g12]; decide), (by rw [g12]; decide), (by rw [g12]; decide), (by rw [g12]; decide), (by rw [g12]; decide)⟩
    refine sm_iconst (i := -1) (x := (-1)) 188 (by decide +kernel) rfl rfl ?_
    exact sm_iret rfl (by decide +kernel) hf
  by_cases g13 : z6 = 13
  · refine sm_tabIn (dflt := 165) (lo := 2) (hi := 18) (offs := #[142, 150, 150, 165, 165, 165, 114, 165, 139, 165, 165, 165, 165, 165, 82, 165, 97]) (len := 82) (off := 165) 187 (by decide +kernel) (by rw [g13]; decide) (by rw [g13]; decide) (by rw [g13]; decide) (by decide) ?_
    have hf := hf.2.2.2.2.2.2.2 ⟨(by rw [g13]; decide), (by rw [g13]; decide), (by rw [g13]; decide), (by rw [g13]; decide), (by rw [g13]; decide), (by rw [g13]; decide), (by rw [g13]; decide)⟩
    refine sm_iconst (i := -1) (x := (-1)) 188 (by decide +kernel) rfl rfl ?_
    exact sm_iret rfl (by decide +kernel) hf
  by_cases g14 : z6 = 14
  · refine sm_tabIn (dflt := 165) (lo := 2) (hi := 18) (offs := #[142, 150, 150, 165, 165, 165, 114, 165, 139, 165, 165, 165, 165, 165, 82, 165, 97]) (len := 82) (off := 165) 187 (by decide +kernel) (by rw [g14]; decide) (by rw [g14]; decide) (by rw [g14]; decide) (by decide) ?_
    have hf := hf.2.2.2.2.2.2.2 ⟨(by rw [g14]; decide), (by rw [g14]; decide), (by rw [g14]; decide), (by rw [g14]; decide), (by rw [g14]; decide), (by rw [g14]; decide), (by rw [g14]; decide)⟩
    refine sm_iconst (i := -1) (x := (-1)) 188 (by decide +kernel) rfl rfl ?_
    exact sm_iret rfl (by decide +kernel) hf
  by_cases g15 : z6 = 15
  · refine sm_tabIn (dflt := 165) (lo := 2) (hi := 18) (offs := #[142, 150, 150, 165, 165, 165, 114, 165, 139, 165, 165, 165, 165, 165, 82, 165, 97]) (len := 82) (off := 165) 187 (by decide +kernel) (by rw [g15]; decide) (by rw [g15]; decide) (by rw [g15]; decide) (by decide) ?_
    have hf := hf.2.2.2.2.2.2.2 ⟨(by rw [g15]; decide), (by rw [g15]; decide), (by rw [g15]; decide), (by rw [g15]; decide), (by rw [g15]; decide), (by rw [g15]; decide), (by rw [g15]; decide)⟩
    refine sm_iconst (i := -1) (x := (-1)) 188 (by decide +kernel) rfl rfl ?_
    exact sm_iret rfl (by decide +kernel) hf
  by_cases g16 : z6 = 16
  · refine sm_tabIn (dflt := 165) (lo := 2) (hi := 18) (offs := #[142, 150, 150, 165, 165, 165, 114, 165, 139, 165, 165, 165, 165, 165, 82, 165, 97]) (len := 82) (off := 82) 104 (by decide +kernel) (by rw [g16]; decide) (by rw [g16]; decide) (by rw [g16]; decide) (by decide) ?_
    have hf := hf.2.2.2.2.2.1 g16
    refine sm_iload (i := 6) 106 1 (by decide +kernel) rfl rfl ?_
    refine sm_iconst (i := 4) (x := 4) 107 (by decide +kernel) rfl rfl ?_
    refine sm_icmp_lt (off := 10) 110 117 (by decide +kernel) (by decide) rfl (fun q15 => ?_) (fun q15 => ?_)
    · have hf := hf.1 q15
      refine sm_iconst (i := -1) (x := (-1)) 118 (by decide +kernel) rfl rfl ?_
      exact sm_iret rfl (by decide +kernel) hf
    · have hf := hf.2 q15
      refine sm_iload (i := 5) 112 2 (by decide +kernel) rfl rfl ?_
      refine sm_iconst (i := 4) (x := 4) 113 (by decide +kernel) rfl rfl ?_
      refine sm_iadd 114 (by decide +kernel) rfl ?_
      refine sm_goto (off := 4) 118 (by decide +kernel) (by decide) ?_
      exact sm_iret rfl (by decide +kernel) hf
  by_cases g17 : z6 = 17
  · refine sm_tabIn (dflt := 165) (lo := 2) (hi := 18) (offs := #[142, 150, 150, 165, 165, 165, 114, 165, 139, 165, 165, 165, 165, 165, 82, 165, 97]) (len := 82) (off := 165) 187 (by decide +kernel) (by rw [g17]; decide) (by rw [g17]; decide) (by rw [g17]; decide) (by decide) ?_
    have hf := hf.2.2.2.2.2.2.2 ⟨(by rw [g17]; decide), (by rw [g17]; decide), (by rw [g17]; decide), (by rw [g17]; decide), (by rw [g17]; decide), (by rw [g17]; decide), (by rw [g17]; decide)⟩
    refine sm_iconst (i := -1) (x := (-1)) 188 (by decide +kernel) rfl rfl ?_
    exact sm_iret rfl (by decide +kernel) hf
  by_cases g18 : z6 = 18
  · refine sm_tabIn (dflt := 165) (lo := 2) (hi := 18) (offs := #[142, 150, 150, 165, 165, 165, 114, 165, 139, 165, 165, 165, 165, 165, 82, 165, 97]) (len := 82) (off := 97) 119 (by decide +kernel) (by rw [g18]; decide) (by rw [g18]; decide) (by rw [g18]; decide) (by decide) ?_
    have hf := hf.2.2.2.2.2.2.1 g18
    refine sm_iload (i := 6) 121 1 (by decide +kernel) rfl rfl ?_
    refine sm_bipush (i := 8) (x := 8) 123 (by decide +kernel) (by decide) rfl ?_
    refine sm_icmp_lt (off := 11) 126 134 (by decide +kernel) (by decide) rfl (fun q16 => ?_) (fun q16 => ?_)
    · have hf := hf.1 q16
      refine sm_iconst (i := -1) (x := (-1)) 135 (by decide +kernel) rfl rfl ?_
      exact sm_iret rfl (by decide +kernel) hf
    · have hf := hf.2 q16
      refine sm_iload (i := 5) 128 2 (by decide +kernel) rfl rfl ?_
      refine sm_bipush (i := 8) (x := 8) 130 (by decide +kernel) (by decide) rfl ?_
      refine sm_iadd 131 (by decide +kernel) rfl ?_
      refine sm_goto (off := 4) 135 (by decide +kernel) (by decide) ?_
      exact sm_iret rfl (by decide +kernel) hf
  have gout : z6.toInt < 2 ∨ 18 < z6.toInt := sm_out (fun v a1 a2 => by
    rcases sm_iv2_18 a1 a2 with rfl | rfl | rfl | rfl | rfl | rfl | rfl | rfl | rfl | rfl | rfl | rfl | rfl | rfl | rfl | rfl | rfl
    · exact sm_ne 2 (by decide) g2
    · exact sm_ne 3 (by decide) g3
    · exact sm_ne 4 (by decide) g4
    · exact sm_ne 5 (by decide) g5
    · exact sm_ne 6 (by decide) g6
    · exact sm_ne 7 (by decide) g7
    · exact sm_ne 8 (by decide) g8
    · exact sm_ne 9 (by decide) g9
    · exact sm_ne 10 (by decide) g10
    · exact sm_ne 11 (by decide) g11
    · exact sm_ne 12 (by decide) g12
    · exact sm_ne 13 (by decide) g13
    · exact sm_ne 14 (by decide) g14
    · exact sm_ne 15 (by decide) g15
    · exact sm_ne 16 (by decide) g16
    · exact sm_ne 17 (by decide) g17
    · exact sm_ne 18 (by decide) g18
    )
  refine sm_tabOut (dflt := 165) (lo := 2) (hi := 18) (offs := #[142, 150, 150, 165, 165, 165, 114, 165, 139, 165, 165, 165, 165, 165, 82, 165, 97]) (len := 82) 187 (by decide +kernel) gout (by decide) ?_
  have hf := hf.2.2.2.2.2.2.2 ⟨g2, g3, g4, g8, g10, g16, g18⟩
  refine sm_iconst (i := -1) (x := (-1)) 188 (by decide +kernel) rfl rfl ?_
  exact sm_iret rfl (by decide +kernel) hf
def fK_checkedEnd_172 (N d : Nat) (h : sm_H) (Q : Option Value → sm_H → Prop) (x0 : Nat) (x1 : Nat) (x3 : Int32) (x4 : Int32) (x5 : Int32) (x7 : Int32) : Prop := sm_V N d mm_K_holderEnd 1 x0 [.ref x1, .int x5, .int x3, .int x7, .int (x4 + 1)] h (fun r2 h1 => ∃ z3 : Int32, r2 = some (.int z3) ∧ Q (some (.int z3)) h1)
set_option maxRecDepth 20000 in
set_option maxHeartbeats 4000000 in
theorem kK_checkedEnd_172 {N d : Nat} {h : sm_H} {Q : Option Value → sm_H → Prop} {x0 : Nat} {x1 : Nat} {x3 : Int32} {x4 : Int32} {x5 : Int32} {x7 : Int32} (hf : fK_checkedEnd_172 N d h Q x0 x1 x3 x4 x5 x7) : sm_W N (d + 1) mm_K_checkedEnd 172 [(0, .ref x0), (1, .ref x1), (3, .int x3), (4, .int x4), (5, .int x5), (7, .int x7)] [] h Q := by
  unfold fK_checkedEnd_172 at hf
  refine sm_aload_n (k := 0) 173 0 (by decide +kernel) rfl rfl rfl ?_
  refine sm_aload_n (k := 1) 174 1 (by decide +kernel) rfl rfl rfl ?_
  refine sm_iload (i := 5) 176 4 (by decide +kernel) rfl rfl ?_
  refine sm_iload_n (k := 3) 177 2 (by decide +kernel) rfl rfl rfl ?_
  refine sm_iload (i := 7) 179 5 (by decide +kernel) rfl rfl ?_
  refine sm_iload (i := 4) 181 3 (by decide +kernel) rfl rfl ?_
  refine sm_iconst (i := 1) (x := 1) 182 (by decide +kernel) rfl rfl ?_
  refine sm_iadd 183 (by decide +kernel) rfl ?_
  refine sm_callV (M2 := mm_K_holderEnd) (av := [.ref x1, .int x5, .int x3, .int x7, .int (x4 + 1)]) (rest := []) 186 (by decide +kernel) ml_K_28 (Nat.le_refl _) rfl rfl (by first | exact Nat.le_of_ble_eq_true rfl | simp [sm_rfc, Value.category]) rfl hf ?_
  rintro r2 h1 ⟨z3, rfl, hf⟩
  change sm_W N (d + 1) mm_K_checkedEnd 186 [(0, .ref x0), (1, .ref x1), (3, .int x3), (4, .int x4), (5, .int x5), (7, .int x7)] [.int z3] h1 Q
  exact sm_iret rfl (by decide +kernel) hf
theorem cK_checkedEnd {N d : Nat} {h : sm_H} {Q : Option Value → sm_H → Prop} {x0 : Nat} {x1 : Nat} {x2 : Int32} {x3 : Int32} {x4 : Int32} (hb : ∃ fs, h[x0]? = some (.inr (1, fs))) (hf : fK_checkedEnd_0 N d h Q x0 x1 x2 x3 x4) : sm_V N (d + 1) mm_K_checkedEnd 1 x0 [.ref x1, .int x2, .int x3, .int x4] h Q := ⟨hb, sm_meth (by decide +kernel) (fun _ => Nat.le_of_ble_eq_true rfl) (fun _ => rfl) (kK_checkedEnd_0 hf)⟩
def fK_textEnd_0 (N d : Nat) (h : sm_H) (Q : Option Value → sm_H → Prop) (x0 : Nat) (x1 : Int32) (x2 : Int32) : Prop := sm_V N d mm_B_intAt 0 x0 [.int x1] h (fun r2 h1 => ∃ z3 : Int32, r2 = some (.int z3) ∧ ((z3 < 1 → Q (some (.int (-1))) h1) ∧ (¬ z3 < 1 → ((z3 ≤ ((x2 - x1) - 4) → sm_V N d mm_B_at 0 x0 [.int (((x1 + 4) + z3) - 1)] h1 (fun r5 h4 => ∃ z6 : Int32, r5 = some (.int z6) ∧ ((z6 = 0 → sm_T N d mm_K_isRightText [.ref x0, .int (x1 + 4), .int (((x1 + 4) + z3) - 1)] h4 (fun r8 h7 => ∃ z9 : Int32, r8 = some (.int z9) ∧ ((z9 = 0 → Q (some (.int (-1))) h7) ∧ (¬ z9 = 0 → Q (some (.int ((x1 + 4) + z3))) h7)))) ∧ (¬ z6 = 0 → Q (some (.int (-1))) h4)))) ∧ (¬ z3 ≤ ((x2 - x1) - 4) → Q (some (.int (-1))) h1)))))
set_option maxRecDepth 20000 in
set_option maxHeartbeats 4000000 in
theorem kK_textEnd_0 {N d : Nat} {h : sm_H} {Q : Option Value → sm_H → Prop} {x0 : Nat} {x1 : Int32} {x2 : Int32} (hf : fK_textEnd_0 N d h Q x0 x1 x2) : sm_W N (d + 1) mm_K_textEnd 0 [(0, .ref x0), (1, .int x1), (2, .int x2)] [] h Q := by
  unfold fK_textEnd_0 at hf
  refine sm_aload_n (k := 0) 1 0 (by decide +kernel) rfl rfl rfl ?_
  refine sm_iload_n (k := 1) 2 1 (by decide +kernel) rfl rfl rfl ?_
  refine sm_callV (M2 := mm_B_intAt) (av := [.int x1]) (rest := []) 5 (by decide +kernel) ml_K_32 (Nat.le_refl _) rfl rfl (by first | exact Nat.le_of_ble_eq_true rfl | simp [sm_rfc, Value.category]) rfl hf ?_
  rintro r2 h1 ⟨z3, rfl, hf⟩
  change sm_W N (d + 1) mm_K_textEnd 5 [(0, .ref x0), (1, .int x1), (2, .int x2)] [.int z3] h1 Q
  refine sm_istore_n (k := 3) 6 [(3, .int z3), (0, .ref x0), (1, .int x1), (2, .int x2)] (by decide +kernel) rfl (by decide) (by first | rfl | simp [sm_rfc]) rfl ?_
  refine sm_iload_n (k := 3) 7 0 (by decide +kernel) rfl rfl rfl ?_
  refine sm_iconst (i := 1) (x := 1) 8 (by decide +kernel) rfl rfl ?_
  refine sm_icmp_lt (off := 12) 11 20 (by decide +kernel) (by decide) rfl (fun q13 => ?_) (fun q13 => ?_)
  · have hf := hf.1 q13
    refine sm_iconst (i := -1) (x := (-1)) 21 (by decide +kernel) rfl rfl ?_
    exact sm_iret rfl (by decide +kernel) hf
  · have hf := hf.2 q13
    refine sm_iload_n (k := 3) 12 0 (by decide +kernel) rfl rfl rfl ?_
    refine sm_iload_n (k := 2) 13 3 (by decide +kernel) rfl rfl rfl ?_
    refine sm_iload_n (k := 1) 14 2 (by decide +kernel) rfl rfl rfl ?_
    refine sm_isub 15 (by decide +kernel) rfl ?_
    refine sm_iconst (i := 4) (x := 4) 16 (by decide +kernel) rfl rfl ?_
    refine sm_isub 17 (by decide +kernel) rfl ?_
    refine sm_icmp_le (off := 5) 20 22 (by decide +kernel) (by decide) rfl (fun q12 => ?_) (fun q12 => ?_)
    · have hf := hf.1 q12
      refine sm_iload_n (k := 1) 23 2 (by decide +kernel) rfl rfl rfl ?_
      refine sm_iconst (i := 4) (x := 4) 24 (by decide +kernel) rfl rfl ?_
      refine sm_iadd 25 (by decide +kernel) rfl ?_
      refine sm_iload_n (k := 3) 26 0 (by decide +kernel) rfl rfl rfl ?_
      refine sm_iadd 27 (by decide +kernel) rfl ?_
      refine sm_istore (i := 4) 29 [(4, .int ((x1 + 4) + z3)), (3, .int z3), (0, .ref x0), (1, .int x1), (2, .int x2)] (by decide +kernel) (by decide) (by first | rfl | simp [sm_rfc]) rfl ?_
      refine sm_aload_n (k := 0) 30 2 (by decide +kernel) rfl rfl rfl ?_
      refine sm_iload (i := 4) 32 0 (by decide +kernel) rfl rfl ?_
      refine sm_iconst (i := 1) (x := 1) 33 (by decide +kernel) rfl rfl ?_
      refine sm_isub 34 (by decide +kernel) rfl ?_
      refine sm_callV (M2 := mm_B_at) (av := [.int (((x1 + 4) + z3) - 1)]) (rest := []) 37 (by decide +kernel) ml_K_44 (Nat.le_refl _) rfl rfl (by first | exact Nat.le_of_ble_eq_true rfl | simp [sm_rfc, Value.category]) rfl hf ?_
      rintro r5 h4 ⟨z6, rfl, hf⟩
      change sm_W N (d + 1) mm_K_textEnd 37 [(4, .int ((x1 + 4) + z3)), (3, .int z3), (0, .ref x0), (1, .int x1), (2, .int x2)] [.int z6] h4 Q
      refine sm_if_ne (off := 22) 40 59 (by decide +kernel) (by decide) rfl (fun q11 => ?_) (fun q11 => ?_)
      · have hf := hf.2 q11
        refine sm_iconst (i := -1) (x := (-1)) 60 (by decide +kernel) rfl rfl ?_
        exact sm_iret rfl (by decide +kernel) hf
      · have hf := hf.1 q11
        refine sm_aload_n (k := 0) 41 2 (by decide +kernel) rfl rfl rfl ?_
        refine sm_iload_n (k := 1) 42 3 (by decide +kernel) rfl rfl rfl ?_
        refine sm_iconst (i := 4) (x := 4) 43 (by decide +kernel) rfl rfl ?_
        refine sm_iadd 44 (by decide +kernel) rfl ?_
        refine sm_iload (i := 4) 46 0 (by decide +kernel) rfl rfl ?_
        refine sm_iconst (i := 1) (x := 1) 47 (by decide +kernel) rfl rfl ?_
        refine sm_isub 48 (by decide +kernel) rfl ?_
        refine sm_callS (M2 := mm_K_isRightText) (av := [.ref x0, .int (x1 + 4), .int (((x1 + 4) + z3) - 1)]) (rest := []) 51 (by decide +kernel) ml_K_50 (Nat.le_refl _) rfl rfl (by first | exact Nat.le_of_ble_eq_true rfl | simp [sm_rfc, Value.category]) rfl hf ?_
        rintro r8 h7 ⟨z9, rfl, hf⟩
        change sm_W N (d + 1) mm_K_textEnd 51 [(4, .int ((x1 + 4) + z3)), (3, .int z3), (0, .ref x0), (1, .int x1), (2, .int x2)] [.int z9] h7 Q
        refine sm_if_eq (off := 8) 54 59 (by decide +kernel) (by decide) rfl (fun q10 => ?_) (fun q10 => ?_)
        · have hf := hf.1 q10
          refine sm_iconst (i := -1) (x := (-1)) 60 (by decide +kernel) rfl rfl ?_
          exact sm_iret rfl (by decide +kernel) hf
        · have hf := hf.2 q10
          refine sm_iload (i := 4) 56 0 (by decide +kernel) rfl rfl ?_
          refine sm_goto (off := 4) 60 (by decide +kernel) (by decide) ?_
          exact sm_iret rfl (by decide +kernel) hf
    · have hf := hf.2 q12
      refine sm_iconst (i := -1) (x := (-1)) 21 (by decide +kernel) rfl rfl ?_
      exact sm_iret rfl (by decide +kernel) hf
theorem cK_textEnd {N d : Nat} {h : sm_H} {Q : Option Value → sm_H → Prop} {x0 : Nat} {x1 : Int32} {x2 : Int32} (hf : fK_textEnd_0 N d h Q x0 x1 x2) : sm_T N (d + 1) mm_K_textEnd [.ref x0, .int x1, .int x2] h Q := sm_meth (by decide +kernel) (fun _ => Nat.le_of_ble_eq_true rfl) (fun _ => rfl) (kK_textEnd_0 hf)
def fK_isRightText_0 (N d : Nat) (h : sm_H) (Q : Option Value → sm_H → Prop) (x0 : Nat) (x1 : Int32) (x2 : Int32) : Prop := sm_W N (d + 1) mm_K_isRightText 5 [(0, .ref x0), (2, .int x2), (3, .int x1), (4, .int x1)] [] h Q
set_option maxRecDepth 20000 in
set_option maxHeartbeats 4000000 in
theorem kK_isRightText_0 {N d : Nat} {h : sm_H} {Q : Option Value → sm_H → Prop} {x0 : Nat} {x1 : Int32} {x2 : Int32} (hf : fK_isRightText_0 N d h Q x0 x1 x2) : sm_W N (d + 1) mm_K_isRightText 0 [(0, .ref x0), (1, .int x1), (2, .int x2)] [] h Q := by
  unfold fK_isRightText_0 at hf
  refine sm_iload_n (k := 1) 1 1 (by decide +kernel) rfl rfl rfl ?_
  refine sm_istore_n (k := 3) 2 [(3, .int x1), (0, .ref x0), (1, .int x1), (2, .int x2)] (by decide +kernel) rfl (by decide) (by first | rfl | simp [sm_rfc]) rfl ?_
  refine sm_iload_n (k := 1) 3 2 (by decide +kernel) rfl rfl rfl ?_
  refine sm_istore (i := 4) 5 [(4, .int x1), (3, .int x1), (0, .ref x0), (1, .int x1), (2, .int x2)] (by decide +kernel) (by decide) (by first | rfl | simp [sm_rfc]) rfl ?_
  exact sm_sub [2, 4, 1, 0] rfl hf
def fK_isRightText_5 (N d : Nat) (h : sm_H) (Q : Option Value → sm_H → Prop) (x0 : Nat) (x2 : Int32) (x3 : Int32) (x4 : Int32) : Prop := ((x2 ≤ x4 → Q (some (.int 1)) h) ∧ (¬ x2 ≤ x4 → ((x2 ≤ x3 → Q (some (.int 1)) h) ∧ (¬ x2 ≤ x3 → sm_T N d mm_K_characterSize [.ref x0, .int x3, .int x2] h (fun r2 h1 => ∃ z3 : Int32, r2 = some (.int z3) ∧ ((z3 = 0 → Q (some (.int 0)) h1) ∧ (¬ z3 = 0 → sm_W N (d + 1) mm_K_isRightText 5 [(0, .ref x0), (2, .int x2), (3, .int (x3 + z3)), (4, .int (x4 + 1))] [] h1 Q)))))))
set_option maxRecDepth 20000 in
set_option maxHeartbeats 4000000 in
theorem kK_isRightText_5 {N d : Nat} {h : sm_H} {Q : Option Value → sm_H → Prop} {x0 : Nat} {x2 : Int32} {x3 : Int32} {x4 : Int32} (hf : fK_isRightText_5 N d h Q x0 x2 x3 x4) : sm_W N (d + 1) mm_K_isRightText 5 [(0, .ref x0), (2, .int x2), (3, .int x3), (4, .int x4)] [] h Q := by
  unfold fK_isRightText_5 at hf
  refine sm_iload (i := 4) 7 3 (by decide +kernel) rfl rfl ?_
  refine sm_iload_n (k := 2) 8 1 (by decide +kernel) rfl rfl rfl ?_
  refine sm_icmp_ge (off := 34) 11 42 (by decide +kernel) (by decide) rfl (fun q6 => ?_) (fun q6 => ?_)
  · have hf := hf.1 q6
    refine sm_iconst (i := 1) (x := 1) 43 (by decide +kernel) rfl rfl ?_
    exact sm_zret rfl (by decide +kernel) (by decide) hf
  · have hf := hf.2 q6
    refine sm_iload_n (k := 3) 12 2 (by decide +kernel) rfl rfl rfl ?_
    refine sm_iload_n (k := 2) 13 1 (by decide +kernel) rfl rfl rfl ?_
    refine sm_icmp_ge (off := 29) 16 42 (by decide +kernel) (by decide) rfl (fun q5 => ?_) (fun q5 => ?_)
    · have hf := hf.1 q5
      refine sm_iconst (i := 1) (x := 1) 43 (by decide +kernel) rfl rfl ?_
      exact sm_zret rfl (by decide +kernel) (by decide) hf
    · have hf := hf.2 q5
      refine sm_aload_n (k := 0) 17 0 (by decide +kernel) rfl rfl rfl ?_
      refine sm_iload_n (k := 3) 18 2 (by decide +kernel) rfl rfl rfl ?_
      refine sm_iload_n (k := 2) 19 1 (by decide +kernel) rfl rfl rfl ?_
      refine sm_callS (M2 := mm_K_characterSize) (av := [.ref x0, .int x3, .int x2]) (rest := []) 22 (by decide +kernel) ml_K_84 (Nat.le_refl _) rfl rfl (by first | exact Nat.le_of_ble_eq_true rfl | simp [sm_rfc, Value.category]) rfl hf ?_
      rintro r2 h1 ⟨z3, rfl, hf⟩
      change sm_W N (d + 1) mm_K_isRightText 22 [(0, .ref x0), (2, .int x2), (3, .int x3), (4, .int x4)] [.int z3] h1 Q
      refine sm_istore (i := 5) 24 [(5, .int z3), (0, .ref x0), (2, .int x2), (3, .int x3), (4, .int x4)] (by decide +kernel) (by decide) (by first | rfl | simp [sm_rfc]) rfl ?_
      refine sm_iload (i := 5) 26 0 (by decide +kernel) rfl rfl ?_
      refine sm_if_ne (off := 5) 29 31 (by decide +kernel) (by decide) rfl (fun q4 => ?_) (fun q4 => ?_)
      · have hf := hf.2 q4
        refine sm_iload_n (k := 3) 32 3 (by decide +kernel) rfl rfl rfl ?_
        refine sm_iload (i := 5) 34 0 (by decide +kernel) rfl rfl ?_
        refine sm_iadd 35 (by decide +kernel) rfl ?_
        refine sm_istore_n (k := 3) 36 [(3, .int (x3 + z3)), (5, .int z3), (0, .ref x0), (2, .int x2), (4, .int x4)] (by decide +kernel) rfl (by decide) (by first | rfl | simp [sm_rfc]) rfl ?_
        refine sm_iinc (i := 4) (j := 4) (z := 1) (y := x4 + 1) 39 [(4, .int (x4 + 1)), (3, .int (x3 + z3)), (5, .int z3), (0, .ref x0), (2, .int x2)] (by decide +kernel) rfl (by rfl) (by decide) rfl rfl ?_
        refine sm_goto (off := -34) 5 (by decide +kernel) (by decide) ?_
        exact sm_sub [3, 4, 1, 0] rfl hf
      · have hf := hf.1 q4
        refine sm_iconst (i := 0) (x := 0) 30 (by decide +kernel) rfl rfl ?_
        exact sm_zret rfl (by decide +kernel) (by decide) hf
theorem cK_isRightText {N d : Nat} {h : sm_H} {Q : Option Value → sm_H → Prop} {x0 : Nat} {x1 : Int32} {x2 : Int32} (hf : fK_isRightText_0 N d h Q x0 x1 x2) : sm_T N (d + 1) mm_K_isRightText [.ref x0, .int x1, .int x2] h Q := sm_meth (by decide +kernel) (fun _ => Nat.le_of_ble_eq_true rfl) (fun _ => rfl) (kK_isRightText_0 hf)
def fK_characterSize_0 (N d : Nat) (h : sm_H) (Q : Option Value → sm_H → Prop) (x0 : Nat) (x1 : Int32) (x2 : Int32) : Prop := sm_V N d mm_B_at 0 x0 [.int x1] h (fun r2 h1 => ∃ z3 : Int32, r2 = some (.int z3) ∧ ((128 ≤ z3 → ((224 ≤ z3 → ((240 ≤ z3 → sm_W N (d + 1) mm_K_characterSize 38 [(0, .ref x0), (1, .int x1), (2, .int x2), (3, .int z3)] [.int 4] h1 Q) ∧ (¬ 240 ≤ z3 → sm_W N (d + 1) mm_K_characterSize 38 [(0, .ref x0), (1, .int x1), (2, .int x2), (3, .int z3)] [.int 3] h1 Q))) ∧ (¬ 224 ≤ z3 → sm_W N (d + 1) mm_K_characterSize 38 [(0, .ref x0), (1, .int x1), (2, .int x2), (3, .int z3)] [.int 2] h1 Q))) ∧ (¬ 128 ≤ z3 → Q (some (.int 1)) h1)))
set_option maxRecDepth 20000 in
set_option maxHeartbeats 4000000 in
theorem kK_characterSize_0 {N d : Nat} {h : sm_H} {Q : Option Value → sm_H → Prop} {x0 : Nat} {x1 : Int32} {x2 : Int32} (hf : fK_characterSize_0 N d h Q x0 x1 x2) : sm_W N (d + 1) mm_K_characterSize 0 [(0, .ref x0), (1, .int x1), (2, .int x2)] [] h Q := by
  unfold fK_characterSize_0 at hf
  refine sm_aload_n (k := 0) 1 0 (by decide +kernel) rfl rfl rfl ?_
  refine sm_iload_n (k := 1) 2 1 (by decide +kernel) rfl rfl rfl ?_
  refine sm_callV (M2 := mm_B_at) (av := [.int x1]) (rest := []) 5 (by decide +kernel) ml_K_44 (Nat.le_refl _) rfl rfl (by first | exact Nat.le_of_ble_eq_true rfl | simp [sm_rfc, Value.category]) rfl hf ?_
  rintro r2 h1 ⟨z3, rfl, hf⟩
  change sm_W N (d + 1) mm_K_characterSize 5 [(0, .ref x0), (1, .int x1), (2, .int x2)] [.int z3] h1 Q
  refine sm_istore_n (k := 3) 6 [(3, .int z3), (0, .ref x0), (1, .int x1), (2, .int x2)] (by decide +kernel) rfl (by decide) (by first | rfl | simp [sm_rfc]) rfl ?_
  refine sm_iload_n (k := 3) 7 0 (by decide +kernel) rfl rfl rfl ?_
  refine sm_sipush (i := 128) (x := 128) 10 (by decide +kernel) (by decide) rfl ?_
  refine sm_icmp_ge (off := 5) 13 15 (by decide +kernel) (by decide) rfl (fun q6 => ?_) (fun q6 => ?_)
  · have hf := hf.1 q6
    refine sm_iload_n (k := 3) 16 0 (by decide +kernel) rfl rfl rfl ?_
    refine sm_sipush (i := 224) (x := 224) 19 (by decide +kernel) (by decide) rfl ?_
    refine sm_icmp_ge (off := 7) 22 26 (by decide +kernel) (by decide) rfl (fun q5 => ?_) (fun q5 => ?_)
    · have hf := hf.1 q5
      refine sm_iload_n (k := 3) 27 0 (by decide +kernel) rfl rfl rfl ?_
      refine sm_sipush (i := 240) (x := 240) 30 (by decide +kernel) (by decide) rfl ?_
      refine sm_icmp_ge (off := 7) 33 37 (by decide +kernel) (by decide) rfl (fun q4 => ?_) (fun q4 => ?_)
      · have hf := hf.1 q4
        refine sm_iconst (i := 4) (x := 4) 38 (by decide +kernel) rfl rfl ?_
        exact sm_sub [1, 2, 3, 0] rfl hf
      · have hf := hf.2 q4
        refine sm_iconst (i := 3) (x := 3) 34 (by decide +kernel) rfl rfl ?_
        refine sm_goto (off := 4) 38 (by decide +kernel) (by decide) ?_
        exact sm_sub [1, 2, 3, 0] rfl hf
    · have hf := hf.2 q5
      refine sm_iconst (i := 2) (x := 2) 23 (by decide +kernel) rfl rfl ?_
      refine sm_goto (off := 15) 38 (by decide +kernel) (by decide) ?_
      exact sm_sub [1, 2, 3, 0] rfl hf
  · have hf := hf.2 q6
    refine sm_iconst (i := 1) (x := 1) 14 (by decide +kernel) rfl rfl ?_
    exact sm_iret rfl (by decide +kernel) hf
def fK_characterSize_38 (N d : Nat) (h : sm_H) (Q : Option Value → sm_H → Prop) (x0 : Nat) (x1 : Int32) (x2 : Int32) (x3 : Int32) (y0 : Int32) : Prop := ((x3 < 192 → Q (some (.int 0)) h) ∧ (¬ x3 < 192 → ((247 < x3 → Q (some (.int 0)) h) ∧ (¬ 247 < x3 → ((y0 ≤ (x2 - x1) → sm_W N (d + 1) mm_K_characterSize 79 [(0, .ref x0), (1, .int x1), (4, .int y0), (5, .int (x3 &&& (255 >>> ((y0 + 1) &&& 31)))), (6, .int 1)] [] h Q) ∧ (¬ y0 ≤ (x2 - x1) → Q (some (.int 0)) h))))))
set_option maxRecDepth 20000 in
set_option maxHeartbeats 4000000 in
theorem kK_characterSize_38 {N d : Nat} {h : sm_H} {Q : Option Value → sm_H → Prop} {x0 : Nat} {x1 : Int32} {x2 : Int32} {x3 : Int32} {y0 : Int32} (hf : fK_characterSize_38 N d h Q x0 x1 x2 x3 y0) : sm_W N (d + 1) mm_K_characterSize 38 [(0, .ref x0), (1, .int x1), (2, .int x2), (3, .int x3)] [.int y0] h Q := by
  unfold fK_characterSize_38 at hf
  refine sm_istore (i := 4) 40 [(4, .int y0), (0, .ref x0), (1, .int x1), (2, .int x2), (3, .int x3)] (by decide +kernel) (by decide) (by first | rfl | simp [sm_rfc]) rfl ?_
  refine sm_iload_n (k := 3) 41 4 (by decide +kernel) rfl rfl rfl ?_
  refine sm_sipush (i := 192) (x := 192) 44 (by decide +kernel) (by decide) rfl ?_
  refine sm_icmp_lt (off := 18) 47 62 (by decide +kernel) (by decide) rfl (fun q3 => ?_) (fun q3 => ?_)
  · have hf := hf.1 q3
    refine sm_iconst (i := 0) (x := 0) 63 (by decide +kernel) rfl rfl ?_
    exact sm_iret rfl (by decide +kernel) hf
  · have hf := hf.2 q3
    refine sm_iload_n (k := 3) 48 4 (by decide +kernel) rfl rfl rfl ?_
    refine sm_sipush (i := 247) (x := 247) 51 (by decide +kernel) (by decide) rfl ?_
    refine sm_icmp_gt (off := 11) 54 62 (by decide +kernel) (by decide) rfl (fun q2 => ?_) (fun q2 => ?_)
    · have hf := hf.1 q2
      refine sm_iconst (i := 0) (x := 0) 63 (by decide +kernel) rfl rfl ?_
      exact sm_iret rfl (by decide +kernel) hf
    · have hf := hf.2 q2
      refine sm_iload (i := 4) 56 0 (by decide +kernel) rfl rfl ?_
      refine sm_iload_n (k := 2) 57 3 (by decide +kernel) rfl rfl rfl ?_
      refine sm_iload_n (k := 1) 58 2 (by decide +kernel) rfl rfl rfl ?_
      refine sm_isub 59 (by decide +kernel) rfl ?_
      refine sm_icmp_le (off := 5) 62 64 (by decide +kernel) (by decide) rfl (fun q1 => ?_) (fun q1 => ?_)
      · have hf := hf.1 q1
        refine sm_iload_n (k := 3) 65 4 (by decide +kernel) rfl rfl rfl ?_
        refine sm_sipush (i := 255) (x := 255) 68 (by decide +kernel) (by decide) rfl ?_
        refine sm_iload (i := 4) 70 0 (by decide +kernel) rfl rfl ?_
        refine sm_iconst (i := 1) (x := 1) 71 (by decide +kernel) rfl rfl ?_
        refine sm_iadd 72 (by decide +kernel) rfl ?_
        refine sm_ishr 73 (by decide +kernel) rfl ?_
        refine sm_iand 74 (by decide +kernel) rfl ?_
        refine sm_istore (i := 5) 76 [(5, .int (x3 &&& (255 >>> ((y0 + 1) &&& 31)))), (4, .int y0), (0, .ref x0), (1, .int x1), (2, .int x2), (3, .int x3)] (by decide +kernel) (by decide) (by first | rfl | simp [sm_rfc]) rfl ?_
        refine sm_iconst (i := 1) (x := 1) 77 (by decide +kernel) rfl rfl ?_
        refine sm_istore (i := 6) 79 [(6, .int 1), (5, .int (x3 &&& (255 >>> ((y0 + 1) &&& 31)))), (4, .int y0), (0, .ref x0), (1, .int x1), (2, .int x2), (3, .int x3)] (by decide +kernel) (by decide) (by first | rfl | simp [sm_rfc]) rfl ?_
        exact sm_sub [3, 4, 2, 1, 0] rfl hf
      · have hf := hf.2 q1
        refine sm_iconst (i := 0) (x := 0) 63 (by decide +kernel) rfl rfl ?_
        exact sm_iret rfl (by decide +kernel) hf
def fK_characterSize_79 (N d : Nat) (h : sm_H) (Q : Option Value → sm_H → Prop) (x0 : Nat) (x1 : Int32) (x4 : Int32) (x5 : Int32) (x6 : Int32) : Prop := ((x4 ≤ x6 → ((x4 = 2 → sm_W N (d + 1) mm_K_characterSize 155 [(4, .int x4), (5, .int x5)] [.int 128] h Q) ∧ (¬ x4 = 2 → ((x4 = 3 → sm_W N (d + 1) mm_K_characterSize 155 [(4, .int x4), (5, .int x5)] [.int 2048] h Q) ∧ (¬ x4 = 3 → sm_W N (d + 1) mm_K_characterSize 155 [(4, .int x4), (5, .int x5)] [.int 65536] h Q))))) ∧ (¬ x4 ≤ x6 → sm_V N d mm_B_at 0 x0 [.int (x1 + x6)] h (fun r4 h3 => ∃ z5 : Int32, r4 = some (.int z5) ∧ (((z5 &&& 192) = 128 → sm_W N (d + 1) mm_K_characterSize 79 [(0, .ref x0), (1, .int x1), (4, .int x4), (5, .int ((x5 <<< ((6 : Int32) &&& 31)) ||| (z5 &&& 63))), (6, .int (x6 + 1))] [] h3 Q) ∧ (¬ (z5 &&& 192) = 128 → Q (some (.int 0)) h3)))))
set_option maxRecDepth 20000 in
set_option maxHeartbeats 4000000 in
theorem kK_characterSize_79 {N d : Nat} {h : sm_H} {Q : Option Value → sm_H → Prop} {x0 : Nat} {x1 : Int32} {x4 : Int32} {x5 : Int32} {x6 : Int32} (hf : fK_characterSize_79 N d h Q x0 x1 x4 x5 x6) : sm_W N (d + 1) mm_K_characterSize 79 [(0, .ref x0), (1, .int x1), (4, .int x4), (5, .int x5), (6, .int x6)] [] h Q := by
  unfold fK_characterSize_79 at hf
  refine sm_iload (i := 6) 81 4 (by decide +kernel) rfl rfl ?_
  refine sm_iload (i := 4) 83 2 (by decide +kernel) rfl rfl ?_
  refine sm_icmp_ge (off := 46) 86 129 (by decide +kernel) (by decide) rfl (fun q7 => ?_) (fun q7 => ?_)
  · have hf := hf.1 q7
    refine sm_iload (i := 4) 131 2 (by decide +kernel) rfl rfl ?_
    refine sm_iconst (i := 2) (x := 2) 132 (by decide +kernel) rfl rfl ?_
    refine sm_icmp_ne (off := 9) 135 141 (by decide +kernel) (by decide) rfl (fun q2 => ?_) (fun q2 => ?_)
    · have hf := hf.2 q2
      refine sm_iload (i := 4) 143 2 (by decide +kernel) rfl rfl ?_
      refine sm_iconst (i := 3) (x := 3) 144 (by decide +kernel) rfl rfl ?_
      refine sm_icmp_ne (off := 9) 147 153 (by decide +kernel) (by decide) rfl (fun q1 => ?_) (fun q1 => ?_)
      · have hf := hf.2 q1
        refine sm_ldc (i := 87) (x := 65536) 155 (by decide +kernel) kc_K_87 rfl ?_
        exact sm_sub [2, 3] rfl hf
      · have hf := hf.1 q1
        refine sm_sipush (i := 2048) (x := 2048) 150 (by decide +kernel) (by decide) rfl ?_
        refine sm_goto (off := 5) 155 (by decide +kernel) (by decide) ?_
        exact sm_sub [2, 3] rfl hf
    · have hf := hf.1 q2
      refine sm_sipush (i := 128) (x := 128) 138 (by decide +kernel) (by decide) rfl ?_
      refine sm_goto (off := 17) 155 (by decide +kernel) (by decide) ?_
      exact sm_sub [2, 3] rfl hf
  · have hf := hf.2 q7
    refine sm_aload_n (k := 0) 87 0 (by decide +kernel) rfl rfl rfl ?_
    refine sm_iload_n (k := 1) 88 1 (by decide +kernel) rfl rfl rfl ?_
    refine sm_iload (i := 6) 90 4 (by decide +kernel) rfl rfl ?_
    refine sm_iadd 91 (by decide +kernel) rfl ?_
    refine sm_callV (M2 := mm_B_at) (av := [.int (x1 + x6)]) (rest := []) 94 (by decide +kernel) ml_K_44 (Nat.le_refl _) rfl rfl (by first | exact Nat.le_of_ble_eq_true rfl | simp [sm_rfc, Value.category]) rfl hf ?_
    rintro r4 h3 ⟨z5, rfl, hf⟩
    change sm_W N (d + 1) mm_K_characterSize 94 [(0, .ref x0), (1, .int x1), (4, .int x4), (5, .int x5), (6, .int x6)] [.int z5] h3 Q
    refine sm_istore (i := 7) 96 [(7, .int z5), (0, .ref x0), (1, .int x1), (4, .int x4), (5, .int x5), (6, .int x6)] (by decide +kernel) (by decide) (by first | rfl | simp [sm_rfc]) rfl ?_
    refine sm_iload (i := 7) 98 0 (by decide +kernel) rfl rfl ?_
    refine sm_sipush (i := 192) (x := 192) 101 (by decide +kernel) (by decide) rfl ?_
    refine sm_iand 102 (by decide +kernel) rfl ?_
    refine sm_sipush (i := 128) (x := 128) 105 (by decide +kernel) (by decide) rfl ?_
    refine sm_icmp_eq (off := 5) 108 110 (by decide +kernel) (by decide) rfl (fun q6 => ?_) (fun q6 => ?_)
    · have hf := hf.1 q6
      refine sm_iload (i := 5) 112 4 (by decide +kernel) rfl rfl ?_
      refine sm_bipush (i := 6) (x := 6) 114 (by decide +kernel) (by decide) rfl ?_
      refine sm_ishl 115 (by decide +kernel) rfl ?_
      refine sm_iload (i := 7) 117 0 (by decide +kernel) rfl rfl ?_
      refine sm_bipush (i := 63) (x := 63) 119 (by decide +kernel) (by decide) rfl ?_
      refine sm_iand 120 (by decide +kernel) rfl ?_
      refine sm_ior 121 (by decide +kernel) rfl ?_
      refine sm_istore (i := 5) 123 [(5, .int ((x5 <<< ((6 : Int32) &&& 31)) ||| (z5 &&& 63))), (7, .int z5), (0, .ref x0), (1, .int x1), (4, .int x4), (6, .int x6)] (by decide +kernel) (by decide) (by first | rfl | simp [sm_rfc]) rfl ?_
      refine sm_iinc (i := 6) (j := 5) (z := 1) (y := x6 + 1) 126 [(6, .int (x6 + 1)), (5, .int ((x5 <<< ((6 : Int32) &&& 31)) ||| (z5 &&& 63))), (7, .int z5), (0, .ref x0), (1, .int x1), (4, .int x4)] (by decide +kernel) rfl (by rfl) (by decide) rfl rfl ?_
      refine sm_goto (off := -47) 79 (by decide +kernel) (by decide) ?_
      exact sm_sub [3, 4, 5, 1, 0] rfl hf
    · have hf := hf.2 q6
      refine sm_iconst (i := 0) (x := 0) 109 (by decide +kernel) rfl rfl ?_
      exact sm_iret rfl (by decide +kernel) hf
def fK_characterSize_155 (N d : Nat) (h : sm_H) (Q : Option Value → sm_H → Prop) (x4 : Int32) (x5 : Int32) (y0 : Int32) : Prop := ((x5 < 55296 → sm_W N (d + 1) mm_K_characterSize 175 [(4, .int x4), (5, .int x5), (6, .int y0)] [] h Q) ∧ (¬ x5 < 55296 → ((57343 < x5 → sm_W N (d + 1) mm_K_characterSize 175 [(4, .int x4), (5, .int x5), (6, .int y0)] [] h Q) ∧ (¬ 57343 < x5 → sm_W N (d + 1) mm_K_characterSize 176 [(4, .int x4), (5, .int x5), (6, .int y0)] [.int 1] h Q))))
set_option maxRecDepth 20000 in
set_option maxHeartbeats 4000000 in
theorem kK_characterSize_155 {N d : Nat} {h : sm_H} {Q : Option Value → sm_H → Prop} {x4 : Int32} {x5 : Int32} {y0 : Int32} (hf : fK_characterSize_155 N d h Q x4 x5 y0) : sm_W N (d + 1) mm_K_characterSize 155 [(4, .int x4), (5, .int x5)] [.int y0] h Q := by
  unfold fK_characterSize_155 at hf
  refine sm_istore (i := 6) 157 [(6, .int y0), (4, .int x4), (5, .int x5)] (by decide +kernel) (by decide) (by first | rfl | simp [sm_rfc]) rfl ?_
  refine sm_iload (i := 5) 159 2 (by decide +kernel) rfl rfl ?_
  refine sm_ldc (i := 88) (x := 55296) 161 (by decide +kernel) kc_K_88 rfl ?_
  refine sm_icmp_lt (off := 14) 164 175 (by decide +kernel) (by decide) rfl (fun q2 => ?_) (fun q2 => ?_)
  · have hf := hf.1 q2
    exact sm_sub [1, 2, 0] rfl hf
  · have hf := hf.2 q2
    refine sm_iload (i := 5) 166 2 (by decide +kernel) rfl rfl ?_
    refine sm_ldc (i := 89) (x := 57343) 168 (by decide +kernel) kc_K_89 rfl ?_
    refine sm_icmp_gt (off := 7) 171 175 (by decide +kernel) (by decide) rfl (fun q1 => ?_) (fun q1 => ?_)
    · have hf := hf.1 q1
      exact sm_sub [1, 2, 0] rfl hf
    · have hf := hf.2 q1
      refine sm_iconst (i := 1) (x := 1) 172 (by decide +kernel) rfl rfl ?_
      refine sm_goto (off := 4) 176 (by decide +kernel) (by decide) ?_
      exact sm_sub [1, 2, 0] rfl hf
def fK_characterSize_175 (N d : Nat) (h : sm_H) (Q : Option Value → sm_H → Prop) (x4 : Int32) (x5 : Int32) (x6 : Int32) : Prop := sm_W N (d + 1) mm_K_characterSize 176 [(4, .int x4), (5, .int x5), (6, .int x6)] [.int 0] h Q
set_option maxRecDepth 20000 in
set_option maxHeartbeats 4000000 in
theorem kK_characterSize_175 {N d : Nat} {h : sm_H} {Q : Option Value → sm_H → Prop} {x4 : Int32} {x5 : Int32} {x6 : Int32} (hf : fK_characterSize_175 N d h Q x4 x5 x6) : sm_W N (d + 1) mm_K_characterSize 175 [(4, .int x4), (5, .int x5), (6, .int x6)] [] h Q := by
  unfold fK_characterSize_175 at hf
  refine sm_iconst (i := 0) (x := 0) 176 (by decide +kernel) rfl rfl ?_
  exact sm_sub [0, 1, 2] rfl hf
def fK_characterSize_176 (N d : Nat) (h : sm_H) (Q : Option Value → sm_H → Prop) (x4 : Int32) (x5 : Int32) (x6 : Int32) (y0 : Int32) : Prop := ((x5 < x6 → Q (some (.int 0)) h) ∧ (¬ x5 < x6 → ((1114111 < x5 → Q (some (.int 0)) h) ∧ (¬ 1114111 < x5 → ((y0 = 0 → Q (some (.int x4)) h) ∧ (¬ y0 = 0 → Q (some (.int 0)) h))))))
set_option maxRecDepth 20000 in
set_option maxHeartbeats 4000000 in
theorem kK_characterSize_176 {N d : Nat} {h : sm_H} {Q : Option Value → sm_H → Prop} {x4 : Int32} {x5 : Int32} {x6 : Int32} {y0 : Int32} (hf : fK_characterSize_176 N d h Q x4 x5 x6 y0) : sm_W N (d + 1) mm_K_characterSize 176 [(4, .int x4), (5, .int x5), (6, .int x6)] [.int y0] h Q := by
  unfold fK_characterSize_176 at hf
  refine sm_istore (i := 7) 178 [(7, .int y0), (4, .int x4), (5, .int x5), (6, .int x6)] (by decide +kernel) (by decide) (by first | rfl | simp [sm_rfc]) rfl ?_
  refine sm_iload (i := 5) 180 2 (by decide +kernel) rfl rfl ?_
  refine sm_iload (i := 6) 182 3 (by decide +kernel) rfl rfl ?_
  refine sm_icmp_lt (off := 20) 185 202 (by decide +kernel) (by decide) rfl (fun q3 => ?_) (fun q3 => ?_)
  · have hf := hf.1 q3
    refine sm_iconst (i := 0) (x := 0) 203 (by decide +kernel) rfl rfl ?_
    exact sm_iret rfl (by decide +kernel) hf
  · have hf := hf.2 q3
    refine sm_iload (i := 5) 187 2 (by decide +kernel) rfl rfl ?_
    refine sm_ldc (i := 90) (x := 1114111) 189 (by decide +kernel) kc_K_90 rfl ?_
    refine sm_icmp_gt (off := 13) 192 202 (by decide +kernel) (by decide) rfl (fun q2 => ?_) (fun q2 => ?_)
    · have hf := hf.1 q2
      refine sm_iconst (i := 0) (x := 0) 203 (by decide +kernel) rfl rfl ?_
      exact sm_iret rfl (by decide +kernel) hf
    · have hf := hf.2 q2
      refine sm_iload (i := 7) 194 0 (by decide +kernel) rfl rfl ?_
      refine sm_if_ne (off := 8) 197 202 (by decide +kernel) (by decide) rfl (fun q1 => ?_) (fun q1 => ?_)
      · have hf := hf.2 q1
        refine sm_iconst (i := 0) (x := 0) 203 (by decide +kernel) rfl rfl ?_
        exact sm_iret rfl (by decide +kernel) hf
      · have hf := hf.1 q1
        refine sm_iload (i := 4) 199 1 (by decide +kernel) rfl rfl ?_
        refine sm_goto (off := 4) 203 (by decide +kernel) (by decide) ?_
        exact sm_iret rfl (by decide +kernel) hf
theorem cK_characterSize {N d : Nat} {h : sm_H} {Q : Option Value → sm_H → Prop} {x0 : Nat} {x1 : Int32} {x2 : Int32} (hf : fK_characterSize_0 N d h Q x0 x1 x2) : sm_T N (d + 1) mm_K_characterSize [.ref x0, .int x1, .int x2] h Q := sm_meth (by decide +kernel) (fun _ => Nat.le_of_ble_eq_true rfl) (fun _ => rfl) (kK_characterSize_0 hf)
