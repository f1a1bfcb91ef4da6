def fM_isKind_0 (N d : Nat) (h : sm_H) (Q : Option Value → sm_H → Prop) (x0 : Int32) : Prop := ((x0 = 2 → sm_W N (d + 1) mm_M_isKind 39 [] [] h Q) ∧ (¬ x0 = 2 → ((x0 = 3 → sm_W N (d + 1) mm_M_isKind 39 [] [] h Q) ∧ (¬ x0 = 3 → ((x0 = 4 → sm_W N (d + 1) mm_M_isKind 39 [] [] h Q) ∧ (¬ x0 = 4 → ((x0 = 8 → sm_W N (d + 1) mm_M_isKind 39 [] [] h Q) ∧ (¬ x0 = 8 → ((x0 = 10 → sm_W N (d + 1) mm_M_isKind 39 [] [] h Q) ∧ (¬ x0 = 10 → ((x0 = 16 → sm_W N (d + 1) mm_M_isKind 39 [] [] h Q) ∧ (¬ x0 = 16 → ((x0 = 18 → sm_W N (d + 1) mm_M_isKind 39 [] [] h Q) ∧ (¬ x0 = 18 → Q (some (.int 0)) h))))))))))))))
set_option maxRecDepth 20000 in
set_option maxHeartbeats 4000000 in
theorem kM_isKind_0 {N d : Nat} {h : sm_H} {Q : Option Value → sm_H → Prop} {x0 : Int32} (hf : fM_isKind_0 N d h Q x0) : sm_W N (d + 1) mm_M_isKind 0 [(0, .int x0)] [] h Q := by
  unfold fM_isKind_0 at hf
  refine sm_iload_n (k := 0) 1 0 (by decide +kernel) rfl rfl rfl ?_
  refine sm_iconst (i := 2) (x := 2) 2 (by decide +kernel) rfl rfl ?_
  refine sm_icmp_eq (off := 37) 5 39 (by decide +kernel) (by decide) rfl (fun q7 => ?_) (fun q7 => ?_)
  · have hf := hf.1 q7
    exact sm_sub [] rfl hf
  · have hf := hf.2 q7
    refine sm_iload_n (k := 0) 6 0 (by decide +kernel) rfl rfl rfl ?_
    refine sm_iconst (i := 3) (x := 3) 7 (by decide +kernel) rfl rfl ?_
    refine sm_icmp_eq (off := 32) 10 39 (by decide +kernel) (by decide) rfl (fun q6 => ?_) (fun q6 => ?_)
    · have hf := hf.1 q6
      exact sm_sub [] rfl hf
    · have hf := hf.2 q6
      refine sm_iload_n (k := 0) 11 0 (by decide +kernel) rfl rfl rfl ?_
      refine sm_iconst (i := 4) (x := 4) 12 (by decide +kernel) rfl rfl ?_
      refine sm_icmp_eq (off := 27) 15 39 (by decide +kernel) (by decide) rfl (fun q5 => ?_) (fun q5 => ?_)
      · have hf := hf.1 q5
        exact sm_sub [] rfl hf
      · have hf := hf.2 q5
        refine sm_iload_n (k := 0) 16 0 (by decide +kernel) rfl rfl rfl ?_
        refine sm_bipush (i := 8) (x := 8) 18 (by decide +kernel) (by decide) rfl ?_
        refine sm_icmp_eq (off := 21) 21 39 (by decide +kernel) (by decide) rfl (fun q4 => ?_) (fun q4 => ?_)
        · have hf := hf.1 q4
          exact sm_sub [] rfl hf
        · have hf := hf.2 q4
          refine sm_iload_n (k := 0) 22 0 (by decide +kernel) rfl rfl rfl ?_
          refine sm_bipush (i := 10) (x := 10) 24 (by decide +kernel) (by decide) rfl ?_
          refine sm_icmp_eq (off := 15) 27 39 (by decide +kernel) (by decide) rfl (fun q3 => ?_) (fun q3 => ?_)
          · have hf := hf.1 q3
            exact sm_sub [] rfl hf
          · have hf := hf.2 q3
            refine sm_iload_n (k := 0) 28 0 (by decide +kernel) rfl rfl rfl ?_
            refine sm_bipush (i := 16) (x := 16) 30 (by decide +kernel) (by decide) rfl ?_
            refine sm_icmp_eq (off := 9) 33 39 (by decide +kernel) (by decide) rfl (fun q2 => ?_) (fun q2 => ?_)
            · have hf := hf.1 q2
              exact sm_sub [] rfl hf
            · have hf := hf.2 q2
              refine sm_iload_n (k := 0) 34 0 (by decide +kernel) rfl rfl rfl ?_
              refine sm_bipush (i := 18) (x := 18) 36 (by decide +kernel) (by decide) rfl ?_
              refine sm_icmp_ne (off := 7) 39 43 (by decide +kernel) (by decide) rfl (fun q1 => ?_) (fun q1 => ?_)
              · have hf := hf.2 q1
                refine sm_iconst (i := 0) (x := 0) 44 (by decide +kernel) rfl rfl ?_
                exact sm_zret rfl (by decide +kernel) (by decide) hf
              · have hf := hf.1 q1
                exact sm_sub [] rfl hf
def fM_isKind_39 (N d : Nat) (h : sm_H) (Q : Option Value → sm_H → Prop)  : Prop := Q (some (.int 1)) h
set_option maxRecDepth 20000 in
set_option maxHeartbeats 4000000 in
theorem kM_isKind_39 {N d : Nat} {h : sm_H} {Q : Option Value → sm_H → Prop}  (hf : fM_isKind_39 N d h Q ) : sm_W N (d + 1) mm_M_isKind 39 [] [] h Q := by
  unfold fM_isKind_39 at hf
  refine sm_iconst (i := 1) (x := 1) 40 (by decide +kernel) rfl rfl ?_
  refine sm_goto (off := 4) 44 (by decide +kernel) (by decide) ?_
  exact sm_zret rfl (by decide +kernel) (by decide) hf
theorem cM_isKind {N d : Nat} {h : sm_H} {Q : Option Value → sm_H → Prop} {x0 : Int32} (hf : fM_isKind_0 N d h Q x0) : sm_T N (d + 1) mm_M_isKind [.int x0] h Q := sm_meth (by decide +kernel) (fun _ => Nat.le_of_ble_eq_true rfl) (fun _ => rfl) (kM_isKind_0 hf)
def fM_load_0 (N d : Nat) (h : sm_H) (Q : Option Value → sm_H → Prop) (x0 : Nat) (x1 : Int32) (x2 : Int32) : Prop := ((x2 < 5 → Q (some (.int (-1))) h) ∧ (¬ x2 < 5 → sm_V N d mm_M_whole 5 x0 [.int x1] h (fun r2 h1 => ∃ z3 : Int32, r2 = some (.int z3) ∧ ((z3 = x2 → sm_V N d mm_M_make 5 x0 [.int 3] h1 (fun r5 h4 => ∃ z6 : Int32, r5 = some (.int z6) ∧ sm_V N d mm_M_opens 5 x0 [.int z6, .int x1, .int (x1 + x2), .int 0] h4 (fun r8 h7 => ∃ z9 : Int32, r8 = some (.int z9) ∧ ((z9 = 0 → Q (some (.int (-1))) h7) ∧ (¬ z9 = 0 → sm_W N (d + 1) mm_M_load 45 [(0, .ref x0), (3, .int z6), (4, .int 1), (5, .int (x1 + 4))] [] h7 Q))))) ∧ (¬ z3 = x2 → Q (some (.int (-1))) h1)))))
set_option maxRecDepth 20000 in
set_option maxHeartbeats 4000000 in
theorem kM_load_0 {N d : Nat} {h : sm_H} {Q : Option Value → sm_H → Prop} {x0 : Nat} {x1 : Int32} {x2 : Int32} (hf : fM_load_0 N d h Q x0 x1 x2) : sm_W N (d + 1) mm_M_load 0 [(0, .ref x0), (1, .int x1), (2, .int x2)] [] h Q := by
  unfold fM_load_0 at hf
  refine sm_iload_n (k := 2) 1 2 (by decide +kernel) rfl rfl rfl ?_
  refine sm_iconst (i := 5) (x := 5) 2 (by decide +kernel) rfl rfl ?_
  refine sm_icmp_lt (off := 12) 5 14 (by decide +kernel) (by decide) rfl (fun q12 => ?_) (fun q12 => ?_)
  · have hf := hf.1 q12
    refine sm_iconst (i := -1) (x := (-1)) 15 (by decide +kernel) rfl rfl ?_
    exact sm_iret rfl (by decide +kernel) hf
  · have hf := hf.2 q12
    refine sm_aload_n (k := 0) 6 0 (by decide +kernel) rfl rfl rfl ?_
    refine sm_iload_n (k := 1) 7 1 (by decide +kernel) rfl rfl rfl ?_
    refine sm_callV (M2 := mm_M_whole) (av := [.int x1]) (rest := []) 10 (by decide +kernel) ml_M_102 (Nat.le_refl _) rfl rfl (by first | exact Nat.le_of_ble_eq_true rfl | simp [sm_rfc, Value.category]) rfl hf ?_
    rintro r2 h1 ⟨z3, rfl, hf⟩
    change sm_W N (d + 1) mm_M_load 10 [(0, .ref x0), (1, .int x1), (2, .int x2)] [.int z3] h1 Q
    refine sm_iload_n (k := 2) 11 2 (by decide +kernel) rfl rfl rfl ?_
    refine sm_icmp_eq (off := 5) 14 16 (by decide +kernel) (by decide) rfl (fun q11 => ?_) (fun q11 => ?_)
    · have hf := hf.1 q11
      refine sm_aload_n (k := 0) 17 0 (by decide +kernel) rfl rfl rfl ?_
      refine sm_iconst (i := 3) (x := 3) 18 (by decide +kernel) rfl rfl ?_
      refine sm_callV (M2 := mm_M_make) (av := [.int 3]) (rest := []) 21 (by decide +kernel) ml_M_113 (Nat.le_refl _) rfl rfl (by first | exact Nat.le_of_ble_eq_true rfl | simp [sm_rfc, Value.category]) rfl hf ?_
      rintro r5 h4 ⟨z6, rfl, hf⟩
      change sm_W N (d + 1) mm_M_load 21 [(0, .ref x0), (1, .int x1), (2, .int x2)] [.int z6] h4 Q
      refine sm_istore_n (k := 3) 22 [(3, .int z6), (0, .ref x0), (1, .int x1), (2, .int x2)] (by decide +kernel) rfl (by decide) (by first | rfl | simp [sm_rfc]) rfl ?_
      refine sm_aload_n (k := 0) 23 1 (by decide +kernel) rfl rfl rfl ?_
      refine sm_iload_n (k := 3) 24 0 (by decide +kernel) rfl rfl rfl ?_
      refine sm_iload_n (k := 1) 25 2 (by decide +kernel) rfl rfl rfl ?_
      refine sm_iload_n (k := 1) 26 2 (by decide +kernel) rfl rfl rfl ?_
      refine sm_iload_n (k := 2) 27 3 (by decide +kernel) rfl rfl rfl ?_
      refine sm_iadd 28 (by decide +kernel) rfl ?_
      refine sm_iconst (i := 0) (x := 0) 29 (by decide +kernel) rfl rfl ?_
      refine sm_callV (M2 := mm_M_opens) (av := [.int z6, .int x1, .int (x1 + x2), .int 0]) (rest := []) 32 (by decide +kernel) ml_M_116 (Nat.le_refl _) rfl rfl (by first | exact Nat.le_of_ble_eq_true rfl | simp [sm_rfc, Value.category]) rfl hf ?_
      rintro r8 h7 ⟨z9, rfl, hf⟩
      change sm_W N (d + 1) mm_M_load 32 [(3, .int z6), (0, .ref x0), (1, .int x1), (2, .int x2)] [.int z9] h7 Q
      refine sm_if_ne (off := 5) 35 37 (by decide +kernel) (by decide) rfl (fun q10 => ?_) (fun q10 => ?_)
      · have hf := hf.2 q10
        refine sm_iconst (i := 1) (x := 1) 38 (by decide +kernel) rfl rfl ?_
        refine sm_istore (i := 4) 40 [(4, .int 1), (3, .int z6), (0, .ref x0), (1, .int x1), (2, .int x2)] (by decide +kernel) (by decide) (by first | rfl | simp [sm_rfc]) rfl ?_
        refine sm_iload_n (k := 1) 41 3 (by decide +kernel) rfl rfl rfl ?_
        refine sm_iconst (i := 4) (x := 4) 42 (by decide +kernel) rfl rfl ?_
        refine sm_iadd 43 (by decide +kernel) rfl ?_
        refine sm_istore (i := 5) 45 [(5, .int (x1 + 4)), (4, .int 1), (3, .int z6), (0, .ref x0), (1, .int x1), (2, .int x2)] (by decide +kernel) (by decide) (by first | rfl | simp [sm_rfc]) rfl ?_
        exact sm_sub [3, 2, 1, 0] rfl hf
      · have hf := hf.1 q10
        refine sm_iconst (i := -1) (x := (-1)) 36 (by decide +kernel) rfl rfl ?_
        exact sm_iret rfl (by decide +kernel) hf
    · have hf := hf.2 q11
      refine sm_iconst (i := -1) (x := (-1)) 15 (by decide +kernel) rfl rfl ?_
      exact sm_iret rfl (by decide +kernel) hf
def fM_load_45 (N d : Nat) (h : sm_H) (Q : Option Value → sm_H → Prop) (x0 : Nat) (x3 : Int32) (x4 : Int32) (x5 : Int32) : Prop := ((x4 ≤ 0 → Q (some (.int x3)) h) ∧ (¬ x4 ≤ 0 → ∃ z1 : Nat, sm_g h x0 5 16 = some (.ref z1) ∧ ∃ z2 : Int32, sm_gi h z1 1 (x4 - 1) = some z2 ∧ ∃ z3 : Nat, sm_g h x0 5 17 = some (.ref z3) ∧ ∃ z4 : Int32, sm_gi h z3 1 (x4 - 1) = some z4 ∧ ((x5 = z4 → sm_W N (d + 1) mm_M_load 45 [(0, .ref x0), (3, .int x3), (4, .int (x4 + (-1))), (5, .int (x5 + 1))] [] h Q) ∧ (¬ x5 = z4 → sm_W N (d + 1) mm_M_load 94 [(0, .ref x0), (3, .int x3), (4, .int x4), (5, .int x5), (6, .int z2), (7, .int z4), (8, .int (x5 + 1))] [] h Q))))
set_option maxRecDepth 20000 in
set_option maxHeartbeats 4000000 in
theorem kM_load_45 {N d : Nat} {h : sm_H} {Q : Option Value → sm_H → Prop} {x0 : Nat} {x3 : Int32} {x4 : Int32} {x5 : Int32} (hf : fM_load_45 N d h Q x0 x3 x4 x5) : sm_W N (d + 1) mm_M_load 45 [(0, .ref x0), (3, .int x3), (4, .int x4), (5, .int x5)] [] h Q := by
  unfold fM_load_45 at hf
  refine sm_iload (i := 4) 47 2 (by decide +kernel) rfl rfl ?_
  refine sm_if_le (off := 315) 50 362 (by decide +kernel) (by decide) rfl (fun q6 => ?_) (fun q6 => ?_)
  · have hf := hf.1 q6
    refine sm_iload_n (k := 3) 363 1 (by decide +kernel) rfl rfl rfl ?_
    exact sm_iret rfl (by decide +kernel) hf
  · have hf := hf.2 q6
    refine sm_aload_n (k := 0) 51 0 (by decide +kernel) rfl rfl rfl ?_
    obtain ⟨z1, ez1, hf⟩ := hf
    refine sm_get 54 (by decide +kernel) fl_M_49 ez1 rfl ?_
    refine sm_iload (i := 4) 56 2 (by decide +kernel) rfl rfl ?_
    refine sm_iconst (i := 1) (x := 1) 57 (by decide +kernel) rfl rfl ?_
    refine sm_isub 58 (by decide +kernel) rfl ?_
    obtain ⟨z2, ez2, hf⟩ := hf
    refine sm_iald 59 (by decide +kernel) ez2 rfl ?_
    refine sm_istore (i := 6) 61 [(6, .int z2), (0, .ref x0), (3, .int x3), (4, .int x4), (5, .int x5)] (by decide +kernel) (by decide) (by first | rfl | simp [sm_rfc]) rfl ?_
    refine sm_aload_n (k := 0) 62 1 (by decide +kernel) rfl rfl rfl ?_
    obtain ⟨z3, ez3, hf⟩ := hf
    refine sm_get 65 (by decide +kernel) fl_M_52 ez3 rfl ?_
    refine sm_iload (i := 4) 67 3 (by decide +kernel) rfl rfl ?_
    refine sm_iconst (i := 1) (x := 1) 68 (by decide +kernel) rfl rfl ?_
    refine sm_isub 69 (by decide +kernel) rfl ?_
    obtain ⟨z4, ez4, hf⟩ := hf
    refine sm_iald 70 (by decide +kernel) ez4 rfl ?_
    refine sm_istore (i := 7) 72 [(7, .int z4), (6, .int z2), (0, .ref x0), (3, .int x3), (4, .int x4), (5, .int x5)] (by decide +kernel) (by decide) (by first | rfl | simp [sm_rfc]) rfl ?_
    refine sm_iload (i := 5) 74 5 (by decide +kernel) rfl rfl ?_
    refine sm_iload (i := 7) 76 0 (by decide +kernel) rfl rfl ?_
    refine sm_icmp_ne (off := 12) 79 88 (by decide +kernel) (by decide) rfl (fun q5 => ?_) (fun q5 => ?_)
    · have hf := hf.2 q5
      refine sm_iload (i := 5) 90 5 (by decide +kernel) rfl rfl ?_
      refine sm_iconst (i := 1) (x := 1) 91 (by decide +kernel) rfl rfl ?_
      refine sm_iadd 92 (by decide +kernel) rfl ?_
      refine sm_istore (i := 8) 94 [(8, .int (x5 + 1)), (7, .int z4), (6, .int z2), (0, .ref x0), (3, .int x3), (4, .int x4), (5, .int x5)] (by decide +kernel) (by decide) (by first | rfl | simp [sm_rfc]) rfl ?_
      exact sm_sub [3, 4, 5, 6, 2, 1, 0] rfl hf
    · have hf := hf.1 q5
      refine sm_iinc (i := 5) (j := 5) (z := 1) (y := x5 + 1) 82 [(5, .int (x5 + 1)), (7, .int z4), (6, .int z2), (0, .ref x0), (3, .int x3), (4, .int x4)] (by decide +kernel) rfl (by rfl) (by decide) rfl rfl ?_
      refine sm_iinc (i := 4) (j := 5) (z := -1) (y := x4 + (-1)) 85 [(4, .int (x4 + (-1))), (5, .int (x5 + 1)), (7, .int z4), (6, .int z2), (0, .ref x0), (3, .int x3)] (by decide +kernel) rfl (by rfl) (by decide) rfl rfl ?_
      refine sm_goto (off := -40) 45 (by decide +kernel) (by decide) ?_
      exact sm_sub [4, 5, 0, 1] rfl hf
def fM_load_94 (N d : Nat) (h : sm_H) (Q : Option Value → sm_H → Prop) (x0 : Nat) (x3 : Int32) (x4 : Int32) (x5 : Int32) (x6 : Int32) (x7 : Int32) (x8 : Int32) : Prop := ((x7 ≤ x8 → sm_W N (d + 1) mm_M_load 117 [(0, .ref x0), (3, .int x3), (4, .int x4), (5, .int x5), (6, .int x6), (7, .int x7), (8, .int x8)] [] h Q) ∧ (¬ x7 ≤ x8 → ∃ z1 : Nat, sm_g h x0 5 1 = some (.ref z1) ∧ ∃ z2 : Int32, sm_gi h z1 0 x8 = some z2 ∧ ((z2 = 0 → sm_W N (d + 1) mm_M_load 117 [(0, .ref x0), (3, .int x3), (4, .int x4), (5, .int x5), (6, .int x6), (7, .int x7), (8, .int x8)] [] h Q) ∧ (¬ z2 = 0 → sm_W N (d + 1) mm_M_load 94 [(0, .ref x0), (3, .int x3), (4, .int x4), (5, .int x5), (6, .int x6), (7, .int x7), (8, .int (x8 + 1))] [] h Q))))
set_option maxRecDepth 20000 in
set_option maxHeartbeats 4000000 in
theorem kM_load_94 {N d : Nat} {h : sm_H} {Q : Option Value → sm_H → Prop} {x0 : Nat} {x3 : Int32} {x4 : Int32} {x5 : Int32} {x6 : Int32} {x7 : Int32} {x8 : Int32} (hf : fM_load_94 N d h Q x0 x3 x4 x5 x6 x7 x8) : sm_W N (d + 1) mm_M_load 94 [(0, .ref x0), (3, .int x3), (4, .int x4), (5, .int x5), (6, .int x6), (7, .int x7), (8, .int x8)] [] h Q := by
  unfold fM_load_94 at hf
  refine sm_iload (i := 8) 96 6 (by decide +kernel) rfl rfl ?_
  refine sm_iload (i := 7) 98 5 (by decide +kernel) rfl rfl ?_
  refine sm_icmp_ge (off := 19) 101 117 (by decide +kernel) (by decide) rfl (fun q4 => ?_) (fun q4 => ?_)
  · have hf := hf.1 q4
    exact sm_sub [0, 1, 2, 3, 4, 5, 6] rfl hf
  · have hf := hf.2 q4
    refine sm_aload_n (k := 0) 102 0 (by decide +kernel) rfl rfl rfl ?_
    obtain ⟨z1, ez1, hf⟩ := hf
    refine sm_get 105 (by decide +kernel) fl_M_7 ez1 rfl ?_
    refine sm_iload (i := 8) 107 6 (by decide +kernel) rfl rfl ?_
    obtain ⟨z2, ez2, hf⟩ := hf
    refine sm_bald 108 (by decide +kernel) ez2 rfl ?_
    refine sm_if_eq (off := 9) 111 117 (by decide +kernel) (by decide) rfl (fun q3 => ?_) (fun q3 => ?_)
    · have hf := hf.1 q3
      exact sm_sub [0, 1, 2, 3, 4, 5, 6] rfl hf
    · have hf := hf.2 q3
      refine sm_iinc (i := 8) (j := 6) (z := 1) (y := x8 + 1) 114 [(8, .int (x8 + 1)), (0, .ref x0), (3, .int x3), (4, .int x4), (5, .int x5), (6, .int x6), (7, .int x7)] (by decide +kernel) rfl (by rfl) (by decide) rfl rfl ?_
      refine sm_goto (off := -20) 94 (by decide +kernel) (by decide) ?_
      exact sm_sub [1, 2, 3, 4, 5, 6, 0] rfl hf
def fM_load_117 (N d : Nat) (h : sm_H) (Q : Option Value → sm_H → Prop) (x0 : Nat) (x3 : Int32) (x4 : Int32) (x5 : Int32) (x6 : Int32) (x7 : Int32) (x8 : Int32) : Prop := sm_V N d mm_M_at 5 x0 [.int x5] h (fun r2 h1 => ∃ z3 : Int32, r2 = some (.int z3) ∧ sm_T N d mm_M_isKind [.int z3] h1 (fun r5 h4 => ∃ z6 : Int32, r5 = some (.int z6) ∧ ((z6 = 0 → Q (some (.int (-1))) h4) ∧ (¬ z6 = 0 → ((x7 ≤ x8 → Q (some (.int (-1))) h4) ∧ (¬ x7 ≤ x8 → sm_V N d mm_M_isText 5 x0 [.int (x5 + 1), .int x8] h4 (fun r8 h7 => ∃ z9 : Int32, r8 = some (.int z9) ∧ ((z9 = 0 → Q (some (.int (-1))) h7) ∧ (¬ z9 = 0 → ∃ z10 : Nat, sm_g h7 x0 5 7 = some (.ref z10) ∧ ∃ z11 : Int32, sm_gi h7 z10 1 x6 = some z11 ∧ ((z11 = 4 → sm_W N (d + 1) mm_M_load 167 [(0, .ref x0), (3, .int x3), (4, .int x4), (5, .int x5), (6, .int x6), (7, .int x7), (8, .int x8)] [.int 1] h7 Q) ∧ (¬ z11 = 4 → sm_W N (d + 1) mm_M_load 167 [(0, .ref x0), (3, .int x3), (4, .int x4), (5, .int x5), (6, .int x6), (7, .int x7), (8, .int x8)] [.int 0] h7 Q)))))))))))
set_option maxRecDepth 20000 in
set_option maxHeartbeats 4000000 in
theorem kM_load_117 {N d : Nat} {h : sm_H} {Q : Option Value → sm_H → Prop} {x0 : Nat} {x3 : Int32} {x4 : Int32} {x5 : Int32} {x6 : Int32} {x7 : Int32} {x8 : Int32} (hf : fM_load_117 N d h Q x0 x3 x4 x5 x6 x7 x8) : sm_W N (d + 1) mm_M_load 117 [(0, .ref x0), (3, .int x3), (4, .int x4), (5, .int x5), (6, .int x6), (7, .int x7), (8, .int x8)] [] h Q := by
  unfold fM_load_117 at hf
  refine sm_aload_n (k := 0) 118 0 (by decide +kernel) rfl rfl rfl ?_
  refine sm_iload (i := 5) 120 3 (by decide +kernel) rfl rfl ?_
  refine sm_callV (M2 := mm_M_at) (av := [.int x5]) (rest := []) 123 (by decide +kernel) ml_M_73 (Nat.le_refl _) rfl rfl (by first | exact Nat.le_of_ble_eq_true rfl | simp [sm_rfc, Value.category]) rfl hf ?_
  rintro r2 h1 ⟨z3, rfl, hf⟩
  change sm_W N (d + 1) mm_M_load 123 [(0, .ref x0), (3, .int x3), (4, .int x4), (5, .int x5), (6, .int x6), (7, .int x7), (8, .int x8)] [.int z3] h1 Q
  refine sm_callS (M2 := mm_M_isKind) (av := [.int z3]) (rest := []) 126 (by decide +kernel) ml_M_119 (Nat.le_refl _) rfl rfl (by first | exact Nat.le_of_ble_eq_true rfl | simp [sm_rfc, Value.category]) rfl hf ?_
  rintro r5 h4 ⟨z6, rfl, hf⟩
  change sm_W N (d + 1) mm_M_load 126 [(0, .ref x0), (3, .int x3), (4, .int x4), (5, .int x5), (6, .int x6), (7, .int x7), (8, .int x8)] [.int z6] h4 Q
  refine sm_if_eq (off := 23) 129 149 (by decide +kernel) (by decide) rfl (fun q15 => ?_) (fun q15 => ?_)
  · have hf := hf.1 q15
    refine sm_iconst (i := -1) (x := (-1)) 150 (by decide +kernel) rfl rfl ?_
    exact sm_iret rfl (by decide +kernel) hf
  · have hf := hf.2 q15
    refine sm_iload (i := 8) 131 6 (by decide +kernel) rfl rfl ?_
    refine sm_iload (i := 7) 133 5 (by decide +kernel) rfl rfl ?_
    refine sm_icmp_ge (off := 16) 136 149 (by decide +kernel) (by decide) rfl (fun q14 => ?_) (fun q14 => ?_)
    · have hf := hf.1 q14
      refine sm_iconst (i := -1) (x := (-1)) 150 (by decide +kernel) rfl rfl ?_
      exact sm_iret rfl (by decide +kernel) hf
    · have hf := hf.2 q14
      refine sm_aload_n (k := 0) 137 0 (by decide +kernel) rfl rfl rfl ?_
      refine sm_iload (i := 5) 139 3 (by decide +kernel) rfl rfl ?_
      refine sm_iconst (i := 1) (x := 1) 140 (by decide +kernel) rfl rfl ?_
      refine sm_iadd 141 (by decide +kernel) rfl ?_
      refine sm_iload (i := 8) 143 6 (by decide +kernel) rfl rfl ?_
      refine sm_callV (M2 := mm_M_isText) (av := [.int (x5 + 1), .int x8]) (rest := []) 146 (by decide +kernel) ml_M_105 (Nat.le_refl _) rfl rfl (by first | exact Nat.le_of_ble_eq_true rfl | simp [sm_rfc, Value.category]) rfl hf ?_
      rintro r8 h7 ⟨z9, rfl, hf⟩
      change sm_W N (d + 1) mm_M_load 146 [(0, .ref x0), (3, .int x3), (4, .int x4), (5, .int x5), (6, .int x6), (7, .int x7), (8, .int x8)] [.int z9] h7 Q
      refine sm_if_ne (off := 5) 149 151 (by decide +kernel) (by decide) rfl (fun q13 => ?_) (fun q13 => ?_)
      · have hf := hf.2 q13
        refine sm_aload_n (k := 0) 152 0 (by decide +kernel) rfl rfl rfl ?_
        obtain ⟨z10, ez10, hf⟩ := hf
        refine sm_get 155 (by decide +kernel) fl_M_20 ez10 rfl ?_
        refine sm_iload (i := 6) 157 4 (by decide +kernel) rfl rfl ?_
        obtain ⟨z11, ez11, hf⟩ := hf
        refine sm_iald 158 (by decide +kernel) ez11 rfl ?_
        refine sm_iconst (i := 4) (x := 4) 159 (by decide +kernel) rfl rfl ?_
        refine sm_icmp_ne (off := 7) 162 166 (by decide +kernel) (by decide) rfl (fun q12 => ?_) (fun q12 => ?_)
        · have hf := hf.2 q12
          refine sm_iconst (i := 0) (x := 0) 167 (by decide +kernel) rfl rfl ?_
          exact sm_sub [0, 1, 2, 3, 4, 5, 6] rfl hf
        · have hf := hf.1 q12
          refine sm_iconst (i := 1) (x := 1) 163 (by decide +kernel) rfl rfl ?_
          refine sm_goto (off := 4) 167 (by decide +kernel) (by decide) ?_
          exact sm_sub [0, 1, 2, 3, 4, 5, 6] rfl hf
      · have hf := hf.1 q13
        refine sm_iconst (i := -1) (x := (-1)) 150 (by decide +kernel) rfl rfl ?_
        exact sm_iret rfl (by decide +kernel) hf
def fM_load_167 (N d : Nat) (h : sm_H) (Q : Option Value → sm_H → Prop) (x0 : Nat) (x3 : Int32) (x4 : Int32) (x5 : Int32) (x6 : Int32) (x7 : Int32) (x8 : Int32) (y0 : Int32) : Prop := ((y0 = 0 → sm_V N d mm_M_named 5 x0 [.int x6, .int (x5 + 1), .int ((x8 - x5) - 1)] h (fun r2 h1 => ∃ z3 : Int32, r2 = some (.int z3) ∧ ((0 ≤ z3 → sm_W N (d + 1) mm_M_load 231 [(0, .ref x0), (3, .int x3), (4, .int x4), (5, .int x5), (6, .int x6), (7, .int x7), (8, .int x8)] [.int 0] h1 Q) ∧ (¬ 0 ≤ z3 → sm_W N (d + 1) mm_M_load 231 [(0, .ref x0), (3, .int x3), (4, .int x4), (5, .int x5), (6, .int x6), (7, .int x7), (8, .int x8)] [.int 1] h1 Q)))) ∧ (¬ y0 = 0 → sm_V N d mm_M_numberAt 5 x0 [.int (x5 + 1), .int ((x8 - x5) - 1)] h (fun r6 h5 => ∃ z7 : Int32, r6 = some (.int z7) ∧ sm_V N d mm_M_countOf 5 x0 [.int x6] h5 (fun r9 h8 => ∃ z10 : Int32, r9 = some (.int z10) ∧ ((z7 = z10 → sm_W N (d + 1) mm_M_load 231 [(0, .ref x0), (3, .int x3), (4, .int x4), (5, .int x5), (6, .int x6), (7, .int x7), (8, .int x8)] [.int 1] h8 Q) ∧ (¬ z7 = z10 → sm_W N (d + 1) mm_M_load 231 [(0, .ref x0), (3, .int x3), (4, .int x4), (5, .int x5), (6, .int x6), (7, .int x7), (8, .int x8)] [.int 0] h8 Q))))))
set_option maxRecDepth 20000 in
set_option maxHeartbeats 4000000 in
theorem kM_load_167 {N d : Nat} {h : sm_H} {Q : Option Value → sm_H → Prop} {x0 : Nat} {x3 : Int32} {x4 : Int32} {x5 : Int32} {x6 : Int32} {x7 : Int32} {x8 : Int32} {y0 : Int32} (hf : fM_load_167 N d h Q x0 x3 x4 x5 x6 x7 x8 y0) : sm_W N (d + 1) mm_M_load 167 [(0, .ref x0), (3, .int x3), (4, .int x4), (5, .int x5), (6, .int x6), (7, .int x7), (8, .int x8)] [.int y0] h Q := by
  unfold fM_load_167 at hf
  refine sm_istore (i := 9) 169 [(9, .int y0), (0, .ref x0), (3, .int x3), (4, .int x4), (5, .int x5), (6, .int x6), (7, .int x7), (8, .int x8)] (by decide +kernel) (by decide) (by first | rfl | simp [sm_rfc]) rfl ?_
  refine sm_iload (i := 9) 171 0 (by decide +kernel) rfl rfl ?_
  refine sm_if_eq (off := 35) 174 206 (by decide +kernel) (by decide) rfl (fun q12 => ?_) (fun q12 => ?_)
  · have hf := hf.1 q12
    refine sm_aload_n (k := 0) 207 1 (by decide +kernel) rfl rfl rfl ?_
    refine sm_iload (i := 6) 209 5 (by decide +kernel) rfl rfl ?_
    refine sm_iload (i := 5) 211 4 (by decide +kernel) rfl rfl ?_
    refine sm_iconst (i := 1) (x := 1) 212 (by decide +kernel) rfl rfl ?_
    refine sm_iadd 213 (by decide +kernel) rfl ?_
    refine sm_iload (i := 8) 215 7 (by decide +kernel) rfl rfl ?_
    refine sm_iload (i := 5) 217 4 (by decide +kernel) rfl rfl ?_
    refine sm_isub 218 (by decide +kernel) rfl ?_
    refine sm_iconst (i := 1) (x := 1) 219 (by decide +kernel) rfl rfl ?_
    refine sm_isub 220 (by decide +kernel) rfl ?_
    refine sm_callV (M2 := mm_M_named) (av := [.int x6, .int (x5 + 1), .int ((x8 - x5) - 1)]) (rest := []) 223 (by decide +kernel) ml_M_129 (Nat.le_refl _) rfl rfl (by first | exact Nat.le_of_ble_eq_true rfl | simp [sm_rfc, Value.category]) rfl hf ?_
    rintro r2 h1 ⟨z3, rfl, hf⟩
    change sm_W N (d + 1) mm_M_load 223 [(9, .int y0), (0, .ref x0), (3, .int x3), (4, .int x4), (5, .int x5), (6, .int x6), (7, .int x7), (8, .int x8)] [.int z3] h1 Q
    refine sm_if_ge (off := 7) 226 230 (by decide +kernel) (by decide) rfl (fun q4 => ?_) (fun q4 => ?_)
    · have hf := hf.1 q4
      refine sm_iconst (i := 0) (x := 0) 231 (by decide +kernel) rfl rfl ?_
      exact sm_sub [1, 2, 3, 4, 5, 6, 7] rfl hf
    · have hf := hf.2 q4
      refine sm_iconst (i := 1) (x := 1) 227 (by decide +kernel) rfl rfl ?_
      refine sm_goto (off := 4) 231 (by decide +kernel) (by decide) ?_
      exact sm_sub [1, 2, 3, 4, 5, 6, 7] rfl hf
  · have hf := hf.2 q12
    refine sm_aload_n (k := 0) 175 1 (by decide +kernel) rfl rfl rfl ?_
    refine sm_iload (i := 5) 177 4 (by decide +kernel) rfl rfl ?_
    refine sm_iconst (i := 1) (x := 1) 178 (by decide +kernel) rfl rfl ?_
    refine sm_iadd 179 (by decide +kernel) rfl ?_
    refine sm_iload (i := 8) 181 7 (by decide +kernel) rfl rfl ?_
    refine sm_iload (i := 5) 183 4 (by decide +kernel) rfl rfl ?_
    refine sm_isub 184 (by decide +kernel) rfl ?_
    refine sm_iconst (i := 1) (x := 1) 185 (by decide +kernel) rfl rfl ?_
    refine sm_isub 186 (by decide +kernel) rfl ?_
    refine sm_callV (M2 := mm_M_numberAt) (av := [.int (x5 + 1), .int ((x8 - x5) - 1)]) (rest := []) 189 (by decide +kernel) ml_M_123 (Nat.le_refl _) rfl rfl (by first | exact Nat.le_of_ble_eq_true rfl | simp [sm_rfc, Value.category]) rfl hf ?_
    rintro r6 h5 ⟨z7, rfl, hf⟩
    change sm_W N (d + 1) mm_M_load 189 [(9, .int y0), (0, .ref x0), (3, .int x3), (4, .int x4), (5, .int x5), (6, .int x6), (7, .int x7), (8, .int x8)] [.int z7] h5 Q
    refine sm_aload_n (k := 0) 190 1 (by decide +kernel) rfl rfl rfl ?_
    refine sm_iload (i := 6) 192 5 (by decide +kernel) rfl rfl ?_
    refine sm_callV (M2 := mm_M_countOf) (av := [.int x6]) (rest := [.int z7]) 195 (by decide +kernel) ml_M_126 (Nat.le_refl _) rfl rfl (by first | exact Nat.le_of_ble_eq_true rfl | simp [sm_rfc, Value.category]) rfl hf ?_
    rintro r9 h8 ⟨z10, rfl, hf⟩
    change sm_W N (d + 1) mm_M_load 195 [(9, .int y0), (0, .ref x0), (3, .int x3), (4, .int x4), (5, .int x5), (6, .int x6), (7, .int x7), (8, .int x8)] [.int z10, .int z7] h8 Q
    refine sm_icmp_ne (off := 7) 198 202 (by decide +kernel) (by decide) rfl (fun q11 => ?_) (fun q11 => ?_)
    · have hf := hf.2 q11
      refine sm_iconst (i := 0) (x := 0) 203 (by decide +kernel) rfl rfl ?_
      refine sm_goto (off := 28) 231 (by decide +kernel) (by decide) ?_
      exact sm_sub [1, 2, 3, 4, 5, 6, 7] rfl hf
    · have hf := hf.1 q11
      refine sm_iconst (i := 1) (x := 1) 199 (by decide +kernel) rfl rfl ?_
      refine sm_goto (off := 32) 231 (by decide +kernel) (by decide) ?_
      exact sm_sub [1, 2, 3, 4, 5, 6, 7] rfl hf
def fM_load_231 (N d : Nat) (h : sm_H) (Q : Option Value → sm_H → Prop) (x0 : Nat) (x3 : Int32) (x4 : Int32) (x5 : Int32) (x6 : Int32) (x7 : Int32) (x8 : Int32) (y0 : Int32) : Prop := ((y0 = 0 → Q (some (.int (-1))) h) ∧ (¬ y0 = 0 → sm_V N d mm_M_at 5 x0 [.int x5] h (fun r2 h1 => ∃ z3 : Int32, r2 = some (.int z3) ∧ sm_V N d mm_M_make 5 x0 [.int z3] h1 (fun r5 h4 => ∃ z6 : Int32, r5 = some (.int z6) ∧ ∃ z7 : Nat, sm_g h4 x0 5 8 = some (.ref z7) ∧ ∃ h8, sm_pi h4 z7 z6 (x5 + 1) = some h8 ∧ ∃ z9 : Nat, sm_g h8 x0 5 9 = some (.ref z9) ∧ ∃ h10, sm_pi h8 z9 z6 ((x8 - x5) - 1) = some h10 ∧ sm_V N d mm_M_append 5 x0 [.int x6, .int z6] h10 (fun r12 h11 => r12 = none ∧ ∃ z13 : Nat, sm_g h11 x0 5 7 = some (.ref z13) ∧ ∃ z14 : Int32, sm_gi h11 z13 1 z6 = some z14 ∧ ((z14 = 3 → sm_W N (d + 1) mm_M_load 307 [(0, .ref x0), (3, .int x3), (4, .int x4), (7, .int x7), (8, .int x8), (11, .int z6)] [] h11 Q) ∧ (¬ z14 = 3 → ∃ z15 : Nat, sm_g h11 x0 5 7 = some (.ref z15) ∧ ∃ z16 : Int32, sm_gi h11 z15 1 z6 = some z16 ∧ ((z16 = 4 → sm_W N (d + 1) mm_M_load 307 [(0, .ref x0), (3, .int x3), (4, .int x4), (7, .int x7), (8, .int x8), (11, .int z6)] [] h11 Q) ∧ (¬ z16 = 4 → sm_V N d mm_M_value 5 x0 [.int z6, .int (x8 + 1), .int x7] h11 (fun r18 h17 => ∃ z19 : Int32, r18 = some (.int z19) ∧ ((0 ≤ z19 → sm_W N (d + 1) mm_M_load 359 [(0, .ref x0), (3, .int x3), (4, .int x4), (5, .int z19)] [] h17 Q) ∧ (¬ 0 ≤ z19 → Q (some (.int (-1))) h17))))))))))))
set_option maxRecDepth 20000 in
set_option maxHeartbeats 4000000 in
theorem kM_load_231 {N d : Nat} {h : sm_H} {Q : Option Value → sm_H → Prop} {x0 : Nat} {x3 : Int32} {x4 : Int32} {x5 : Int32} {x6 : Int32} {x7 : Int32} {x8 : Int32} {y0 : Int32} (hf : fM_load_231 N d h Q x0 x3 x4 x5 x6 x7 x8 y0) : sm_W N (d + 1) mm_M_load 231 [(0, .ref x0), (3, .int x3), (4, .int x4), (5, .int x5), (6, .int x6), (7, .int x7), (8, .int x8)] [.int y0] h Q := by
  unfold fM_load_231 at hf
  refine sm_istore (i := 10) 233 [(10, .int y0), (0, .ref x0), (3, .int x3), (4, .int x4), (5, .int x5), (6, .int x6), (7, .int x7), (8, .int x8)] (by decide +kernel) (by decide) (by first | rfl | simp [sm_rfc]) rfl ?_
  refine sm_iload (i := 10) 235 0 (by decide +kernel) rfl rfl ?_
  refine sm_if_ne (off := 5) 238 240 (by decide +kernel) (by decide) rfl (fun q23 => ?_) (fun q23 => ?_)
  · have hf := hf.2 q23
    refine sm_aload_n (k := 0) 241 1 (by decide +kernel) rfl rfl rfl ?_
    refine sm_aload_n (k := 0) 242 1 (by decide +kernel) rfl rfl rfl ?_
    refine sm_iload (i := 5) 244 4 (by decide +kernel) rfl rfl ?_
    refine sm_callV (M2 := mm_M_at) (av := [.int x5]) (rest := [.ref x0]) 247 (by decide +kernel) ml_M_73 (Nat.le_refl _) rfl rfl (by first | exact Nat.le_of_ble_eq_true rfl | simp [sm_rfc, Value.category]) rfl hf ?_
    rintro r2 h1 ⟨z3, rfl, hf⟩
    change sm_W N (d + 1) mm_M_load 247 [(10, .int y0), (0, .ref x0), (3, .int x3), (4, .int x4), (5, .int x5), (6, .int x6), (7, .int x7), (8, .int x8)] [.int z3, .ref x0] h1 Q
    refine sm_callV (M2 := mm_M_make) (av := [.int z3]) (rest := []) 250 (by decide +kernel) ml_M_113 (Nat.le_refl _) rfl rfl (by first | exact Nat.le_of_ble_eq_true rfl | simp [sm_rfc, Value.category]) rfl hf ?_
    rintro r5 h4 ⟨z6, rfl, hf⟩
    change sm_W N (d + 1) mm_M_load 250 [(10, .int y0), (0, .ref x0), (3, .int x3), (4, .int x4), (5, .int x5), (6, .int x6), (7, .int x7), (8, .int x8)] [.int z6] h4 Q
    refine sm_istore (i := 11) 252 [(11, .int z6), (10, .int y0), (0, .ref x0), (3, .int x3), (4, .int x4), (5, .int x5), (6, .int x6), (7, .int x7), (8, .int x8)] (by decide +kernel) (by decide) (by first | rfl | simp [sm_rfc]) rfl ?_
    refine sm_aload_n (k := 0) 253 2 (by decide +kernel) rfl rfl rfl ?_
    obtain ⟨z7, ez7, hf⟩ := hf
    refine sm_get 256 (by decide +kernel) fl_M_24 ez7 rfl ?_
    refine sm_iload (i := 11) 258 0 (by decide +kernel) rfl rfl ?_
    refine sm_iload (i := 5) 260 5 (by decide +kernel) rfl rfl ?_
    refine sm_iconst (i := 1) (x := 1) 261 (by decide +kernel) rfl rfl ?_
    refine sm_iadd 262 (by decide +kernel) rfl ?_
    obtain ⟨h8, eh8, hf⟩ := hf
    refine sm_iast 263 (by decide +kernel) eh8 rfl ?_
    refine sm_aload_n (k := 0) 264 2 (by decide +kernel) rfl rfl rfl ?_
    obtain ⟨z9, ez9, hf⟩ := hf
    refine sm_get 267 (by decide +kernel) fl_M_27 ez9 rfl ?_
    refine sm_iload (i := 11) 269 0 (by decide +kernel) rfl rfl ?_
    refine sm_iload (i := 8) 271 8 (by decide +kernel) rfl rfl ?_
    refine sm_iload (i := 5) 273 5 (by decide +kernel) rfl rfl ?_
    refine sm_isub 274 (by decide +kernel) rfl ?_
    refine sm_iconst (i := 1) (x := 1) 275 (by decide +kernel) rfl rfl ?_
    refine sm_isub 276 (by decide +kernel) rfl ?_
    obtain ⟨h10, eh10, hf⟩ := hf
    refine sm_iast 277 (by decide +kernel) eh10 rfl ?_
    refine sm_aload_n (k := 0) 278 2 (by decide +kernel) rfl rfl rfl ?_
    refine sm_iload (i := 6) 280 6 (by decide +kernel) rfl rfl ?_
    refine sm_iload (i := 11) 282 0 (by decide +kernel) rfl rfl ?_
    refine sm_callV (M2 := mm_M_append) (av := [.int x6, .int z6]) (rest := []) 285 (by decide +kernel) ml_M_133 (Nat.le_refl _) rfl rfl (by first | exact Nat.le_of_ble_eq_true rfl | simp [sm_rfc, Value.category]) rfl hf ?_
    rintro r12 h11 ⟨rfl, hf⟩
    change sm_W N (d + 1) mm_M_load 285 [(11, .int z6), (10, .int y0), (0, .ref x0), (3, .int x3), (4, .int x4), (5, .int x5), (6, .int x6), (7, .int x7), (8, .int x8)] [] h11 Q
    refine sm_aload_n (k := 0) 286 2 (by decide +kernel) rfl rfl rfl ?_
    obtain ⟨z13, ez13, hf⟩ := hf
    refine sm_get 289 (by decide +kernel) fl_M_20 ez13 rfl ?_
    refine sm_iload (i := 11) 291 0 (by decide +kernel) rfl rfl ?_
    obtain ⟨z14, ez14, hf⟩ := hf
    refine sm_iald 292 (by decide +kernel) ez14 rfl ?_
    refine sm_iconst (i := 3) (x := 3) 293 (by decide +kernel) rfl rfl ?_
    refine sm_icmp_eq (off := 14) 296 307 (by decide +kernel) (by decide) rfl (fun q22 => ?_) (fun q22 => ?_)
    · have hf := hf.1 q22
      exact sm_sub [2, 3, 4, 7, 8, 0] rfl hf
    · have hf := hf.2 q22
      refine sm_aload_n (k := 0) 297 2 (by decide +kernel) rfl rfl rfl ?_
      obtain ⟨z15, ez15, hf⟩ := hf
      refine sm_get 300 (by decide +kernel) fl_M_20 ez15 rfl ?_
      refine sm_iload (i := 11) 302 0 (by decide +kernel) rfl rfl ?_
      obtain ⟨z16, ez16, hf⟩ := hf
      refine sm_iald 303 (by decide +kernel) ez16 rfl ?_
      refine sm_iconst (i := 4) (x := 4) 304 (by decide +kernel) rfl rfl ?_
      refine sm_icmp_ne (off := 34) 307 338 (by decide +kernel) (by decide) rfl (fun q21 => ?_) (fun q21 => ?_)
      · have hf := hf.2 q21
        refine sm_aload_n (k := 0) 339 2 (by decide +kernel) rfl rfl rfl ?_
        refine sm_iload (i := 11) 341 0 (by decide +kernel) rfl rfl ?_
        refine sm_iload (i := 8) 343 8 (by decide +kernel) rfl rfl ?_
        refine sm_iconst (i := 1) (x := 1) 344 (by decide +kernel) rfl rfl ?_
        refine sm_iadd 345 (by decide +kernel) rfl ?_
        refine sm_iload (i := 7) 347 7 (by decide +kernel) rfl rfl ?_
        refine sm_callV (M2 := mm_M_value) (av := [.int z6, .int (x8 + 1), .int x7]) (rest := []) 350 (by decide +kernel) ml_M_137 (Nat.le_refl _) rfl rfl (by first | exact Nat.le_of_ble_eq_true rfl | simp [sm_rfc, Value.category]) rfl hf ?_
        rintro r18 h17 ⟨z19, rfl, hf⟩
        change sm_W N (d + 1) mm_M_load 350 [(11, .int z6), (10, .int y0), (0, .ref x0), (3, .int x3), (4, .int x4), (5, .int x5), (6, .int x6), (7, .int x7), (8, .int x8)] [.int z19] h17 Q
        refine sm_istore (i := 5) 352 [(5, .int z19), (11, .int z6), (10, .int y0), (0, .ref x0), (3, .int x3), (4, .int x4), (6, .int x6), (7, .int x7), (8, .int x8)] (by decide +kernel) (by decide) (by first | rfl | simp [sm_rfc]) rfl ?_
        refine sm_iload (i := 5) 354 0 (by decide +kernel) rfl rfl ?_
        refine sm_if_ge (off := 5) 357 359 (by decide +kernel) (by decide) rfl (fun q20 => ?_) (fun q20 => ?_)
        · have hf := hf.1 q20
          exact sm_sub [3, 4, 5, 0] rfl hf
        · have hf := hf.2 q20
          refine sm_iconst (i := -1) (x := (-1)) 358 (by decide +kernel) rfl rfl ?_
          exact sm_iret rfl (by decide +kernel) hf
      · have hf := hf.1 q21
        exact sm_sub [2, 3, 4, 7, 8, 0] rfl hf
  · have hf := hf.1 q23
    refine sm_iconst (i := -1) (x := (-1)) 239 (by decide +kernel) rfl rfl ?_
    exact sm_iret rfl (by decide +kernel) hf
def fM_load_307 (N d : Nat) (h : sm_H) (Q : Option Value → sm_H → Prop) (x0 : Nat) (x3 : Int32) (x4 : Int32) (x7 : Int32) (x8 : Int32) (x11 : Int32) : Prop := sm_V N d mm_M_opens 5 x0 [.int x11, .int (x8 + 1), .int x7, .int x4] h (fun r2 h1 => ∃ z3 : Int32, r2 = some (.int z3) ∧ ((z3 = 0 → Q (some (.int (-1))) h1) ∧ (¬ z3 = 0 → sm_W N (d + 1) mm_M_load 359 [(0, .ref x0), (3, .int x3), (4, .int (x4 + 1)), (5, .int (x8 + 5))] [] h1 Q)))
set_option maxRecDepth 20000 in
set_option maxHeartbeats 4000000 in
theorem kM_load_307 {N d : Nat} {h : sm_H} {Q : Option Value → sm_H → Prop} {x0 : Nat} {x3 : Int32} {x4 : Int32} {x7 : Int32} {x8 : Int32} {x11 : Int32} (hf : fM_load_307 N d h Q x0 x3 x4 x7 x8 x11) : sm_W N (d + 1) mm_M_load 307 [(0, .ref x0), (3, .int x3), (4, .int x4), (7, .int x7), (8, .int x8), (11, .int x11)] [] h Q := by
  unfold fM_load_307 at hf
  refine sm_aload_n (k := 0) 308 0 (by decide +kernel) rfl rfl rfl ?_
  refine sm_iload (i := 11) 310 5 (by decide +kernel) rfl rfl ?_
  refine sm_iload (i := 8) 312 4 (by decide +kernel) rfl rfl ?_
  refine sm_iconst (i := 1) (x := 1) 313 (by decide +kernel) rfl rfl ?_
  refine sm_iadd 314 (by decide +kernel) rfl ?_
  refine sm_iload (i := 7) 316 3 (by decide +kernel) rfl rfl ?_
  refine sm_iload (i := 4) 318 2 (by decide +kernel) rfl rfl ?_
  refine sm_callV (M2 := mm_M_opens) (av := [.int x11, .int (x8 + 1), .int x7, .int x4]) (rest := []) 321 (by decide +kernel) ml_M_116 (Nat.le_refl _) rfl rfl (by first | exact Nat.le_of_ble_eq_true rfl | simp [sm_rfc, Value.category]) rfl hf ?_
  rintro r2 h1 ⟨z3, rfl, hf⟩
  change sm_W N (d + 1) mm_M_load 321 [(0, .ref x0), (3, .int x3), (4, .int x4), (7, .int x7), (8, .int x8), (11, .int x11)] [.int z3] h1 Q
  refine sm_if_ne (off := 5) 324 326 (by decide +kernel) (by decide) rfl (fun q4 => ?_) (fun q4 => ?_)
  · have hf := hf.2 q4
    refine sm_iinc (i := 4) (j := 2) (z := 1) (y := x4 + 1) 329 [(4, .int (x4 + 1)), (0, .ref x0), (3, .int x3), (7, .int x7), (8, .int x8), (11, .int x11)] (by decide +kernel) rfl (by rfl) (by decide) rfl rfl ?_
    refine sm_iload (i := 8) 331 4 (by decide +kernel) rfl rfl ?_
    refine sm_iconst (i := 5) (x := 5) 332 (by decide +kernel) rfl rfl ?_
    refine sm_iadd 333 (by decide +kernel) rfl ?_
    refine sm_istore (i := 5) 335 [(5, .int (x8 + 5)), (4, .int (x4 + 1)), (0, .ref x0), (3, .int x3), (7, .int x7), (8, .int x8), (11, .int x11)] (by decide +kernel) (by decide) (by first | rfl | simp [sm_rfc]) rfl ?_
    refine sm_goto (off := 24) 359 (by decide +kernel) (by decide) ?_
    exact sm_sub [2, 3, 1, 0] rfl hf
  · have hf := hf.1 q4
    refine sm_iconst (i := -1) (x := (-1)) 325 (by decide +kernel) rfl rfl ?_
    exact sm_iret rfl (by decide +kernel) hf
def fM_load_359 (N d : Nat) (h : sm_H) (Q : Option Value → sm_H → Prop) (x0 : Nat) (x3 : Int32) (x4 : Int32) (x5 : Int32) : Prop := sm_W N (d + 1) mm_M_load 45 [(0, .ref x0), (3, .int x3), (4, .int x4), (5, .int x5)] [] h Q
set_option maxRecDepth 20000 in
set_option maxHeartbeats 4000000 in
theorem kM_load_359 {N d : Nat} {h : sm_H} {Q : Option Value → sm_H → Prop} {x0 : Nat} {x3 : Int32} {x4 : Int32} {x5 : Int32} (hf : fM_load_359 N d h Q x0 x3 x4 x5) : sm_W N (d + 1) mm_M_load 359 [(0, .ref x0), (3, .int x3), (4, .int x4), (5, .int x5)] [] h Q := by
  unfold fM_load_359 at hf
  refine sm_goto (off := -314) 45 (by decide +kernel) (by decide) ?_
  exact sm_sub [0, 1, 2, 3] rfl hf
theorem cM_load {N d : Nat} {h : sm_H} {Q : Option Value → sm_H → Prop} {x0 : Nat} {x1 : Int32} {x2 : Int32} (hb : ∃ fs, h[x0]? = some (.inr (5, fs))) (hf : fM_load_0 N d h Q x0 x1 x2) : sm_V N (d + 1) mm_M_load 5 x0 [.int x1, .int x2] h Q := ⟨hb, sm_meth (by decide +kernel) (fun _ => Nat.le_of_ble_eq_true rfl) (fun _ => rfl) (kM_load_0 hf)⟩
def fM_take_0 (N d : Nat) (h : sm_H) (Q : Option Value → sm_H → Prop) (x0 : Nat) (x1 : Int32) (x2 : Int32) : Prop := ∃ h1, sm_p h x0 5 2 (.int 0) = some h1 ∧ ∃ h2, sm_p h1 x0 5 6 (.int 0) = some h2 ∧ sm_V N d mm_M_load 5 x0 [.int 10000, .int x2] h2 (fun r4 h3 => ∃ z5 : Int32, r4 = some (.int z5) ∧ sm_W N (d + 1) mm_M_take 22 [(0, .ref x0), (1, .int x1), (2, .int x2), (3, .int z5), (4, .int 0)] [] h3 Q)
set_option maxRecDepth 20000 in
set_option maxHeartbeats 4000000 in
theorem kM_take_0 {N d : Nat} {h : sm_H} {Q : Option Value → sm_H → Prop} {x0 : Nat} {x1 : Int32} {x2 : Int32} (hf : fM_take_0 N d h Q x0 x1 x2) : sm_W N (d + 1) mm_M_take 0 [(0, .ref x0), (1, .int x1), (2, .int x2)] [] h Q := by
  unfold fM_take_0 at hf
  refine sm_aload_n (k := 0) 1 0 (by decide +kernel) rfl rfl rfl ?_
  refine sm_iconst (i := 0) (x := 0) 2 (by decide +kernel) rfl rfl ?_
  obtain ⟨h1, eh1, hf⟩ := hf
  refine sm_put (ty := .int) 5 (by decide +kernel) fp_M_79 (fun _ => rfl) rfl rfl eh1 rfl ?_
  refine sm_aload_n (k := 0) 6 0 (by decide +kernel) rfl rfl rfl ?_
  refine sm_iconst (i := 0) (x := 0) 7 (by decide +kernel) rfl rfl ?_
  obtain ⟨h2, eh2, hf⟩ := hf
  refine sm_put (ty := .int) 10 (by decide +kernel) fp_M_94 (fun _ => rfl) rfl rfl eh2 rfl ?_
  refine sm_aload_n (k := 0) 11 0 (by decide +kernel) rfl rfl rfl ?_
  refine sm_sipush (i := 10000) (x := 10000) 14 (by decide +kernel) (by decide) rfl ?_
  refine sm_iload_n (k := 2) 15 2 (by decide +kernel) rfl rfl rfl ?_
  refine sm_callV (M2 := mm_M_load) (av := [.int 10000, .int x2]) (rest := []) 18 (by decide +kernel) ml_M_140 (Nat.le_refl _) rfl rfl (by first | exact Nat.le_of_ble_eq_true rfl | simp [sm_rfc, Value.category]) rfl hf ?_
  rintro r4 h3 ⟨z5, rfl, hf⟩
  change sm_W N (d + 1) mm_M_take 18 [(0, .ref x0), (1, .int x1), (2, .int x2)] [.int z5] h3 Q
  refine sm_istore_n (k := 3) 19 [(3, .int z5), (0, .ref x0), (1, .int x1), (2, .int x2)] (by decide +kernel) rfl (by decide) (by first | rfl | simp [sm_rfc]) rfl ?_
  refine sm_iconst (i := 0) (x := 0) 20 (by decide +kernel) rfl rfl ?_
  refine sm_istore (i := 4) 22 [(4, .int 0), (3, .int z5), (0, .ref x0), (1, .int x1), (2, .int x2)] (by decide +kernel) (by decide) (by first | rfl | simp [sm_rfc]) rfl ?_
  exact sm_sub [2, 3, 4, 1, 0] rfl hf
def fM_take_22 (N d : Nat) (h : sm_H) (Q : Option Value → sm_H → Prop) (x0 : Nat) (x1 : Int32) (x2 : Int32) (x3 : Int32) (x4 : Int32) : Prop := ((x2 ≤ x4 → Q (some (.int x3)) h) ∧ (¬ x2 ≤ x4 → ((x3 < 0 → Q (some (.int x3)) h) ∧ (¬ x3 < 0 → ∃ z1 : Nat, sm_g h x0 5 1 = some (.ref z1) ∧ ∃ z2 : Nat, sm_g h x0 5 1 = some (.ref z2) ∧ ∃ z3 : Int32, sm_gi h z2 0 (10000 + x4) = some z3 ∧ ∃ h4, sm_pb h z1 (x1 + x4) z3 = some h4 ∧ sm_W N (d + 1) mm_M_take 22 [(0, .ref x0), (1, .int x1), (2, .int x2), (3, .int x3), (4, .int (x4 + 1))] [] h4 Q))))
set_option maxRecDepth 20000 in
set_option maxHeartbeats 4000000 in
theorem kM_take_22 {N d : Nat} {h : sm_H} {Q : Option Value → sm_H → Prop} {x0 : Nat} {x1 : Int32} {x2 : Int32} {x3 : Int32} {x4 : Int32} (hf : fM_take_22 N d h Q x0 x1 x2 x3 x4) : sm_W N (d + 1) mm_M_take 22 [(0, .ref x0), (1, .int x1), (2, .int x2), (3, .int x3), (4, .int x4)] [] h Q := by
  unfold fM_take_22 at hf
  refine sm_iload (i := 4) 24 4 (by decide +kernel) rfl rfl ?_
  refine sm_iload_n (k := 2) 25 2 (by decide +kernel) rfl rfl rfl ?_
  refine sm_icmp_ge (off := 33) 28 58 (by decide +kernel) (by decide) rfl (fun q6 => ?_) (fun q6 => ?_)
  · have hf := hf.1 q6
    refine sm_iload_n (k := 3) 59 3 (by decide +kernel) rfl rfl rfl ?_
    exact sm_iret rfl (by decide +kernel) hf
  · have hf := hf.2 q6
    refine sm_iload_n (k := 3) 29 3 (by decide +kernel) rfl rfl rfl ?_
    refine sm_if_lt (off := 29) 32 58 (by decide +kernel) (by decide) rfl (fun q5 => ?_) (fun q5 => ?_)
    · have hf := hf.1 q5
      refine sm_iload_n (k := 3) 59 3 (by decide +kernel) rfl rfl rfl ?_
      exact sm_iret rfl (by decide +kernel) hf
    · have hf := hf.2 q5
      refine sm_aload_n (k := 0) 33 0 (by decide +kernel) rfl rfl rfl ?_
      obtain ⟨z1, ez1, hf⟩ := hf
      refine sm_get 36 (by decide +kernel) fl_M_7 ez1 rfl ?_
      refine sm_iload_n (k := 1) 37 1 (by decide +kernel) rfl rfl rfl ?_
      refine sm_iload (i := 4) 39 4 (by decide +kernel) rfl rfl ?_
      refine sm_iadd 40 (by decide +kernel) rfl ?_
      refine sm_aload_n (k := 0) 41 0 (by decide +kernel) rfl rfl rfl ?_
      obtain ⟨z2, ez2, hf⟩ := hf
      refine sm_get 44 (by decide +kernel) fl_M_7 ez2 rfl ?_
      refine sm_sipush (i := 10000) (x := 10000) 47 (by decide +kernel) (by decide) rfl ?_
      refine sm_iload (i := 4) 49 4 (by decide +kernel) rfl rfl ?_
      refine sm_iadd 50 (by decide +kernel) rfl ?_
      obtain ⟨z3, ez3, hf⟩ := hf
      refine sm_bald 51 (by decide +kernel) ez3 rfl ?_
      obtain ⟨h4, eh4, hf⟩ := hf
      refine sm_bast 52 (by decide +kernel) eh4 rfl ?_
      refine sm_iinc (i := 4) (j := 4) (z := 1) (y := x4 + 1) 55 [(4, .int (x4 + 1)), (0, .ref x0), (1, .int x1), (2, .int x2), (3, .int x3)] (by decide +kernel) rfl (by rfl) (by decide) rfl rfl ?_
      refine sm_goto (off := -33) 22 (by decide +kernel) (by decide) ?_
      exact sm_sub [1, 2, 3, 4, 0] rfl hf
theorem cM_take {N d : Nat} {h : sm_H} {Q : Option Value → sm_H → Prop} {x0 : Nat} {x1 : Int32} {x2 : Int32} (hb : ∃ fs, h[x0]? = some (.inr (5, fs))) (hf : fM_take_0 N d h Q x0 x1 x2) : sm_V N (d + 1) mm_M_take 5 x0 [.int x1, .int x2] h Q := ⟨hb, sm_meth (by decide +kernel) (fun _ => Nat.le_of_ble_eq_true rfl) (fun _ => rfl) (kM_take_0 hf)⟩
def fM_read_0 (N d : Nat) (h : sm_H) (Q : Option Value → sm_H → Prop) (x0 : Nat) (x1 : Int32) (x2 : Int32) : Prop := sm_T N d mm_M_isSlot [.int x1] h (fun r2 h1 => ∃ z3 : Int32, r2 = some (.int z3) ∧ ((z3 = 0 → Q (some (.int (-2))) h1) ∧ (¬ z3 = 0 → ((x2 < 0 → Q (some (.int (-2))) h1) ∧ (¬ x2 < 0 → ∃ z4 : Int32, sm_g h1 x0 5 2 = some (.int z4) ∧ ((x2 ≤ z4 → sm_V N d mm_M_take 5 x0 [.int (2000 * x1), .int x2] h1 (fun r6 h5 => ∃ z7 : Int32, r6 = some (.int z7) ∧ ((0 ≤ z7 → sm_V N d mm_M_countOf 5 x0 [.int z7] h5 (fun r9 h8 => ∃ z10 : Int32, r9 = some (.int z10) ∧ Q (some (.int z10)) h8)) ∧ (¬ 0 ≤ z7 → Q (some (.int (-1))) h5)))) ∧ (¬ x2 ≤ z4 → Q (some (.int (-2))) h1)))))))
set_option maxRecDepth 20000 in
set_option maxHeartbeats 4000000 in
theorem kM_read_0 {N d : Nat} {h : sm_H} {Q : Option Value → sm_H → Prop} {x0 : Nat} {x1 : Int32} {x2 : Int32} (hf : fM_read_0 N d h Q x0 x1 x2) : sm_W N (d + 1) mm_M_read 0 [(0, .ref x0), (1, .int x1), (2, .int x2)] [] h Q := by
  unfold fM_read_0 at hf
  refine sm_iload_n (k := 1) 1 1 (by decide +kernel) rfl rfl rfl ?_
  refine sm_callS (M2 := mm_M_isSlot) (av := [.int x1]) (rest := []) 4 (by decide +kernel) ml_M_143 (Nat.le_refl _) rfl rfl (by first | exact Nat.le_of_ble_eq_true rfl | simp [sm_rfc, Value.category]) rfl hf ?_
  rintro r2 h1 ⟨z3, rfl, hf⟩
  change sm_W N (d + 1) mm_M_read 4 [(0, .ref x0), (1, .int x1), (2, .int x2)] [.int z3] h1 Q
  refine sm_if_eq (off := 15) 7 19 (by decide +kernel) (by decide) rfl (fun q14 => ?_) (fun q14 => ?_)
  · have hf := hf.1 q14
    refine sm_bipush (i := -2) (x := (-2)) 21 (by decide +kernel) (by decide) rfl ?_
    exact sm_iret rfl (by decide +kernel) hf
  · have hf := hf.2 q14
    refine sm_iload_n (k := 2) 8 2 (by decide +kernel) rfl rfl rfl ?_
    refine sm_if_lt (off := 11) 11 19 (by decide +kernel) (by decide) rfl (fun q13 => ?_) (fun q13 => ?_)
    · have hf := hf.1 q13
      refine sm_bipush (i := -2) (x := (-2)) 21 (by decide +kernel) (by decide) rfl ?_
      exact sm_iret rfl (by decide +kernel) hf
    · have hf := hf.2 q13
      refine sm_iload_n (k := 2) 12 2 (by decide +kernel) rfl rfl rfl ?_
      refine sm_aload_n (k := 0) 13 0 (by decide +kernel) rfl rfl rfl ?_
      obtain ⟨z4, ez4, hf⟩ := hf
      refine sm_get 16 (by decide +kernel) fl_M_79 ez4 rfl ?_
      refine sm_icmp_le (off := 6) 19 22 (by decide +kernel) (by decide) rfl (fun q12 => ?_) (fun q12 => ?_)
      · have hf := hf.1 q12
        refine sm_aload_n (k := 0) 23 0 (by decide +kernel) rfl rfl rfl ?_
        refine sm_sipush (i := 2000) (x := 2000) 26 (by decide +kernel) (by decide) rfl ?_
        refine sm_iload_n (k := 1) 27 1 (by decide +kernel) rfl rfl rfl ?_
        refine sm_imul 28 (by decide +kernel) rfl ?_
        refine sm_iload_n (k := 2) 29 2 (by decide +kernel) rfl rfl rfl ?_
        refine sm_callV (M2 := mm_M_take) (av := [.int (2000 * x1), .int x2]) (rest := []) 32 (by decide +kernel) ml_M_146 (Nat.le_refl _) rfl rfl (by first | exact Nat.le_of_ble_eq_true rfl | simp [sm_rfc, Value.category]) rfl hf ?_
        rintro r6 h5 ⟨z7, rfl, hf⟩
        change sm_W N (d + 1) mm_M_read 32 [(0, .ref x0), (1, .int x1), (2, .int x2)] [.int z7] h5 Q
        refine sm_istore_n (k := 3) 33 [(3, .int z7), (0, .ref x0), (1, .int x1), (2, .int x2)] (by decide +kernel) rfl (by decide) (by first | rfl | simp [sm_rfc]) rfl ?_
        refine sm_iload_n (k := 3) 34 0 (by decide +kernel) rfl rfl rfl ?_
        refine sm_if_ge (off := 7) 37 41 (by decide +kernel) (by decide) rfl (fun q11 => ?_) (fun q11 => ?_)
        · have hf := hf.1 q11
          refine sm_aload_n (k := 0) 42 1 (by decide +kernel) rfl rfl rfl ?_
          refine sm_iload_n (k := 3) 43 0 (by decide +kernel) rfl rfl rfl ?_
          refine sm_callV (M2 := mm_M_countOf) (av := [.int z7]) (rest := []) 46 (by decide +kernel) ml_M_126 (Nat.le_refl _) rfl rfl (by first | exact Nat.le_of_ble_eq_true rfl | simp [sm_rfc, Value.category]) rfl hf ?_
          rintro r9 h8 ⟨z10, rfl, hf⟩
          change sm_W N (d + 1) mm_M_read 46 [(3, .int z7), (0, .ref x0), (1, .int x1), (2, .int x2)] [.int z10] h8 Q
          exact sm_iret rfl (by decide +kernel) hf
        · have hf := hf.2 q11
          refine sm_iconst (i := -1) (x := (-1)) 38 (by decide +kernel) rfl rfl ?_
          refine sm_goto (off := 8) 46 (by decide +kernel) (by decide) ?_
          exact sm_iret rfl (by decide +kernel) hf
      · have hf := hf.2 q12
        refine sm_bipush (i := -2) (x := (-2)) 21 (by decide +kernel) (by decide) rfl ?_
        exact sm_iret rfl (by decide +kernel) hf
theorem cM_read {N d : Nat} {h : sm_H} {Q : Option Value → sm_H → Prop} {x0 : Nat} {x1 : Int32} {x2 : Int32} (hb : ∃ fs, h[x0]? = some (.inr (5, fs))) (hf : fM_read_0 N d h Q x0 x1 x2) : sm_V N (d + 1) mm_M_read 5 x0 [.int x1, .int x2] h Q := ⟨hb, sm_meth (by decide +kernel) (fun _ => Nat.le_of_ble_eq_true rfl) (fun _ => rfl) (kM_read_0 hf)⟩
def fM_write_0 (N d : Nat) (h : sm_H) (Q : Option Value → sm_H → Prop) (x0 : Nat) (x1 : Int32) : Prop := ∃ z1 : Nat, sm_g h x0 5 21 = some (.ref z1) ∧ ∃ z2 : Int32, sm_g h x0 5 19 = some (.int z2) ∧ ∃ h3, sm_pb h z1 z2 (Int8.toInt32 (Int32.toInt8 x1)) = some h3 ∧ ∃ z4 : Int32, sm_g h3 x0 5 19 = some (.int z4) ∧ ∃ h5, sm_p h3 x0 5 19 (.int (z4 + 1)) = some h5 ∧ Q none h5
set_option maxRecDepth 20000 in
set_option maxHeartbeats 4000000 in
theorem kM_write_0 {N d : Nat} {h : sm_H} {Q : Option Value → sm_H → Prop} {x0 : Nat} {x1 : Int32} (hf : fM_write_0 N d h Q x0 x1) : sm_W N (d + 1) mm_M_write 0 [(0, .ref x0), (1, .int x1)] [] h Q := by
  unfold fM_write_0 at hf
  refine sm_aload_n (k := 0) 1 0 (by decide +kernel) rfl rfl rfl ?_
  obtain ⟨z1, ez1, hf⟩ := hf
  refine sm_get 4 (by decide +kernel) fl_M_58 ez1 rfl ?_
  refine sm_aload_n (k := 0) 5 0 (by decide +kernel) rfl rfl rfl ?_
  obtain ⟨z2, ez2, hf⟩ := hf
  refine sm_get 8 (by decide +kernel) fl_M_149 ez2 rfl ?_
  refine sm_iload_n (k := 1) 9 1 (by decide +kernel) rfl rfl rfl ?_
  refine sm_i2b 10 (by decide +kernel) rfl ?_
  obtain ⟨h3, eh3, hf⟩ := hf
  refine sm_bast 11 (by decide +kernel) eh3 rfl ?_
  refine sm_aload_n (k := 0) 12 0 (by decide +kernel) rfl rfl rfl ?_
  refine sm_dup 13 (by decide +kernel) (by first | rfl | simp [sm_rfc]) rfl ?_
  obtain ⟨z4, ez4, hf⟩ := hf
  refine sm_get 16 (by decide +kernel) fl_M_149 ez4 rfl ?_
  refine sm_iconst (i := 1) (x := 1) 17 (by decide +kernel) rfl rfl ?_
  refine sm_iadd 18 (by decide +kernel) rfl ?_
  obtain ⟨h5, eh5, hf⟩ := hf
  refine sm_put (ty := .int) 21 (by decide +kernel) fp_M_149 (fun _ => rfl) rfl rfl eh5 rfl ?_
  exact sm_vret rfl (by decide +kernel) hf
theorem cM_write {N d : Nat} {h : sm_H} {Q : Option Value → sm_H → Prop} {x0 : Nat} {x1 : Int32} (hb : ∃ fs, h[x0]? = some (.inr (5, fs))) (hf : fM_write_0 N d h Q x0 x1) : sm_V N (d + 1) mm_M_write 5 x0 [.int x1] h Q := ⟨hb, sm_meth (by decide +kernel) (fun _ => Nat.le_of_ble_eq_true rfl) (fun _ => rfl) (kM_write_0 hf)⟩
def fM_writeLow_0 (N d : Nat) (h : sm_H) (Q : Option Value → sm_H → Prop) (x0 : Nat) (x1 : Int64) (x3 : Int32) : Prop := sm_W N (d + 1) mm_M_writeLow 3 [(0, .ref x0), (1, .long x1), (3, .int x3), (4, .int 0)] [] h Q
set_option maxRecDepth 20000 in
set_option maxHeartbeats 4000000 in
theorem kM_writeLow_0 {N d : Nat} {h : sm_H} {Q : Option Value → sm_H → Prop} {x0 : Nat} {x1 : Int64} {x3 : Int32} (hf : fM_writeLow_0 N d h Q x0 x1 x3) : sm_W N (d + 1) mm_M_writeLow 0 [(0, .ref x0), (1, .long x1), (3, .int x3)] [] h Q := by
  unfold fM_writeLow_0 at hf
  refine sm_iconst (i := 0) (x := 0) 1 (by decide +kernel) rfl rfl ?_
  refine sm_istore (i := 4) 3 [(4, .int 0), (0, .ref x0), (1, .long x1), (3, .int x3)] (by decide +kernel) (by decide) (by first | rfl | simp [sm_rfc]) rfl ?_
  exact sm_sub [1, 2, 3, 0] rfl hf
def fM_writeLow_3 (N d : Nat) (h : sm_H) (Q : Option Value → sm_H → Prop) (x0 : Nat) (x1 : Int64) (x3 : Int32) (x4 : Int32) : Prop := ((x3 ≤ x4 → Q none h) ∧ (¬ x3 ≤ x4 → sm_V N d mm_M_write 5 x0 [.int (Int64.toInt32 ((x1 >>> (Int32.toInt64 (8 * x4) &&& 63)) &&& 255))] h (fun r2 h1 => r2 = none ∧ sm_W N (d + 1) mm_M_writeLow 3 [(0, .ref x0), (1, .long x1), (3, .int x3), (4, .int (x4 + 1))] [] h1 Q)))
set_option maxRecDepth 20000 in
set_option maxHeartbeats 4000000 in
theorem kM_writeLow_3 {N d : Nat} {h : sm_H} {Q : Option Value → sm_H → Prop} {x0 : Nat} {x1 : Int64} {x3 : Int32} {x4 : Int32} (hf : fM_writeLow_3 N d h Q x0 x1 x3 x4) : sm_W N (d + 1) mm_M_writeLow 3 [(0, .ref x0), (1, .long x1), (3, .int x3), (4, .int x4)] [] h Q := by
  unfold fM_writeLow_3 at hf
  refine sm_iload (i := 4) 5 3 (by decide +kernel) rfl rfl ?_
  refine sm_iload_n (k := 3) 6 2 (by decide +kernel) rfl rfl rfl ?_
  refine sm_icmp_ge (off := 25) 9 31 (by decide +kernel) (by decide) rfl (fun q3 => ?_) (fun q3 => ?_)
  · have hf := hf.1 q3
    exact sm_vret rfl (by decide +kernel) hf
  · have hf := hf.2 q3
    refine sm_aload_n (k := 0) 10 0 (by decide +kernel) rfl rfl rfl ?_
    refine sm_lload_n (k := 1) 11 1 (by decide +kernel) rfl rfl rfl ?_
    refine sm_bipush (i := 8) (x := 8) 13 (by decide +kernel) (by decide) rfl ?_
    refine sm_iload (i := 4) 15 3 (by decide +kernel) rfl rfl ?_
    refine sm_imul 16 (by decide +kernel) rfl ?_
    refine sm_lshr 17 (by decide +kernel) rfl ?_
    refine sm_ldc2 (i := 152) (x := 255) 20 (by decide +kernel) kc_M_152 rfl ?_
    refine sm_land 21 (by decide +kernel) rfl ?_
    refine sm_l2i 22 (by decide +kernel) rfl ?_
    refine sm_callV (M2 := mm_M_write) (av := [.int (Int64.toInt32 ((x1 >>> (Int32.toInt64 (8 * x4) &&& 63)) &&& 255))]) (rest := []) 25 (by decide +kernel) ml_M_154 (Nat.le_refl _) rfl rfl (by first | exact Nat.le_of_ble_eq_true rfl | simp [sm_rfc, Value.category]) rfl hf ?_
    rintro r2 h1 ⟨rfl, hf⟩
    change sm_W N (d + 1) mm_M_writeLow 25 [(0, .ref x0), (1, .long x1), (3, .int x3), (4, .int x4)] [] h1 Q
    refine sm_iinc (i := 4) (j := 3) (z := 1) (y := x4 + 1) 28 [(4, .int (x4 + 1)), (0, .ref x0), (1, .long x1), (3, .int x3)] (by decide +kernel) rfl (by rfl) (by decide) rfl rfl ?_
    refine sm_goto (off := -25) 3 (by decide +kernel) (by decide) ?_
    exact sm_sub [1, 2, 3, 0] rfl hf
theorem cM_writeLow {N d : Nat} {h : sm_H} {Q : Option Value → sm_H → Prop} {x0 : Nat} {x1 : Int64} {x3 : Int32} (hb : ∃ fs, h[x0]? = some (.inr (5, fs))) (hf : fM_writeLow_0 N d h Q x0 x1 x3) : sm_V N (d + 1) mm_M_writeLow 5 x0 [.long x1, .int x3] h Q := ⟨hb, sm_meth (by decide +kernel) (fun _ => Nat.le_of_ble_eq_true rfl) (fun _ => rfl) (kM_writeLow_0 hf)⟩
def fM_writeDigits_0 (N d : Nat) (h : sm_H) (Q : Option Value → sm_H → Prop) (x0 : Nat) (x1 : Int32) : Prop := sm_W N (d + 1) mm_M_writeDigits 2 [(0, .ref x0), (1, .int x1), (2, .int 1)] [] h Q
set_option maxRecDepth 20000 in
set_option maxHeartbeats 4000000 in
theorem kM_writeDigits_0 {N d : Nat} {h : sm_H} {Q : Option Value → sm_H → Prop} {x0 : Nat} {x1 : Int32} (hf : fM_writeDigits_0 N d h Q x0 x1) : sm_W N (d + 1) mm_M_writeDigits 0 [(0, .ref x0), (1, .int x1)] [] h Q := by
  unfold fM_writeDigits_0 at hf
  refine sm_iconst (i := 1) (x := 1) 1 (by decide +kernel) rfl rfl ?_
  refine sm_istore_n (k := 2) 2 [(2, .int 1), (0, .ref x0), (1, .int x1)] (by decide +kernel) rfl (by decide) (by first | rfl | simp [sm_rfc]) rfl ?_
  exact sm_sub [1, 2, 0] rfl hf
def fM_writeDigits_2 (N d : Nat) (h : sm_H) (Q : Option Value → sm_H → Prop) (x0 : Nat) (x1 : Int32) (x2 : Int32) : Prop := ¬ x2 = 0 ∧ (((x1 / x2) ≤ 9 → sm_W N (d + 1) mm_M_writeDigits 18 [(0, .ref x0), (1, .int x1), (2, .int x2)] [] h Q) ∧ (¬ (x1 / x2) ≤ 9 → sm_W N (d + 1) mm_M_writeDigits 2 [(0, .ref x0), (1, .int x1), (2, .int (x2 * 10))] [] h Q))
set_option maxRecDepth 20000 in
set_option maxHeartbeats 4000000 in
theorem kM_writeDigits_2 {N d : Nat} {h : sm_H} {Q : Option Value → sm_H → Prop} {x0 : Nat} {x1 : Int32} {x2 : Int32} (hf : fM_writeDigits_2 N d h Q x0 x1 x2) : sm_W N (d + 1) mm_M_writeDigits 2 [(0, .ref x0), (1, .int x1), (2, .int x2)] [] h Q := by
  unfold fM_writeDigits_2 at hf
  refine sm_iload_n (k := 1) 3 1 (by decide +kernel) rfl rfl rfl ?_
  refine sm_iload_n (k := 2) 4 2 (by decide +kernel) rfl rfl rfl ?_
  obtain ⟨q1, hf⟩ := hf
  refine sm_idiv 5 (by decide +kernel) q1 rfl ?_
  refine sm_bipush (i := 9) (x := 9) 7 (by decide +kernel) (by decide) rfl ?_
  refine sm_icmp_le (off := 11) 10 18 (by decide +kernel) (by decide) rfl (fun q2 => ?_) (fun q2 => ?_)
  · have hf := hf.1 q2
    exact sm_sub [0, 1, 2] rfl hf
  · have hf := hf.2 q2
    refine sm_iload_n (k := 2) 11 2 (by decide +kernel) rfl rfl rfl ?_
    refine sm_bipush (i := 10) (x := 10) 13 (by decide +kernel) (by decide) rfl ?_
    refine sm_imul 14 (by decide +kernel) rfl ?_
    refine sm_istore_n (k := 2) 15 [(2, .int (x2 * 10)), (0, .ref x0), (1, .int x1)] (by decide +kernel) rfl (by decide) (by first | rfl | simp [sm_rfc]) rfl ?_
    refine sm_goto (off := -13) 2 (by decide +kernel) (by decide) ?_
    exact sm_sub [1, 2, 0] rfl hf
def fM_writeDigits_18 (N d : Nat) (h : sm_H) (Q : Option Value → sm_H → Prop) (x0 : Nat) (x1 : Int32) (x2 : Int32) : Prop := ((x2 ≤ 0 → Q none h) ∧ (¬ x2 ≤ 0 → ¬ x2 = 0 ∧ sm_V N d mm_M_write 5 x0 [.int (48 + ((x1 / x2) - (x1 / x2) / 10 * 10))] h (fun r3 h2 => r3 = none ∧ sm_W N (d + 1) mm_M_writeDigits 18 [(0, .ref x0), (1, .int x1), (2, .int (x2 / 10))] [] h2 Q)))
set_option maxRecDepth 20000 in
set_option maxHeartbeats 4000000 in
theorem kM_writeDigits_18 {N d : Nat} {h : sm_H} {Q : Option Value → sm_H → Prop} {x0 : Nat} {x1 : Int32} {x2 : Int32} (hf : fM_writeDigits_18 N d h Q x0 x1 x2) : sm_W N (d + 1) mm_M_writeDigits 18 [(0, .ref x0), (1, .int x1), (2, .int x2)] [] h Q := by
  unfold fM_writeDigits_18 at hf
  refine sm_iload_n (k := 2) 19 2 (by decide +kernel) rfl rfl rfl ?_
  refine sm_if_le (off := 24) 22 43 (by decide +kernel) (by decide) rfl (fun q4 => ?_) (fun q4 => ?_)
  · have hf := hf.1 q4
    exact sm_vret rfl (by decide +kernel) hf
  · have hf := hf.2 q4
    refine sm_aload_n (k := 0) 23 0 (by decide +kernel) rfl rfl rfl ?_
    refine sm_bipush (i := 48) (x := 48) 25 (by decide +kernel) (by decide) rfl ?_
    refine sm_iload_n (k := 1) 26 1 (by decide +kernel) rfl rfl rfl ?_
    refine sm_iload_n (k := 2) 27 2 (by decide +kernel) rfl rfl rfl ?_
    obtain ⟨q1, hf⟩ := hf
    refine sm_idiv 28 (by decide +kernel) q1 rfl ?_
    refine sm_bipush (i := 10) (x := 10) 30 (by decide +kernel) (by decide) rfl ?_
    refine sm_irem 31 (by decide +kernel) (by decide) rfl ?_
    refine sm_iadd 32 (by decide +kernel) rfl ?_
    refine sm_callV (M2 := mm_M_write) (av := [.int (48 + ((x1 / x2) - (x1 / x2) / 10 * 10))]) (rest := []) 35 (by decide +kernel) ml_M_154 (Nat.le_refl _) rfl rfl (by first | exact Nat.le_of_ble_eq_true rfl | simp [sm_rfc, Value.category]) rfl hf ?_
    rintro r3 h2 ⟨rfl, hf⟩
    change sm_W N (d + 1) mm_M_writeDigits 35 [(0, .ref x0), (1, .int x1), (2, .int x2)] [] h2 Q
    refine sm_iload_n (k := 2) 36 2 (by decide +kernel) rfl rfl rfl ?_
    refine sm_bipush (i := 10) (x := 10) 38 (by decide +kernel) (by decide) rfl ?_
    refine sm_idiv 39 (by decide +kernel) (by decide) rfl ?_
    refine sm_istore_n (k := 2) 40 [(2, .int (x2 / 10)), (0, .ref x0), (1, .int x1)] (by decide +kernel) rfl (by decide) (by first | rfl | simp [sm_rfc]) rfl ?_
    refine sm_goto (off := -22) 18 (by decide +kernel) (by decide) ?_
    exact sm_sub [1, 2, 0] rfl hf
theorem cM_writeDigits {N d : Nat} {h : sm_H} {Q : Option Value → sm_H → Prop} {x0 : Nat} {x1 : Int32} (hb : ∃ fs, h[x0]? = some (.inr (5, fs))) (hf : fM_writeDigits_0 N d h Q x0 x1) : sm_V N (d + 1) mm_M_writeDigits 5 x0 [.int x1] h Q := ⟨hb, sm_meth (by decide +kernel) (fun _ => Nat.le_of_ble_eq_true rfl) (fun _ => rfl) (kM_writeDigits_0 hf)⟩
def fM_writeBytes_0 (N d : Nat) (h : sm_H) (Q : Option Value → sm_H → Prop) (x0 : Nat) (x1 : Int32) (x2 : Int32) : Prop := sm_W N (d + 1) mm_M_writeBytes 2 [(0, .ref x0), (1, .int x1), (2, .int x2), (3, .int 0)] [] h Q
set_option maxRecDepth 20000 in
set_option maxHeartbeats 4000000 in
theorem kM_writeBytes_0 {N d : Nat} {h : sm_H} {Q : Option Value → sm_H → Prop} {x0 : Nat} {x1 : Int32} {x2 : Int32} (hf : fM_writeBytes_0 N d h Q x0 x1 x2) : sm_W N (d + 1) mm_M_writeBytes 0 [(0, .ref x0), (1, .int x1), (2, .int x2)] [] h Q := by
  unfold fM_writeBytes_0 at hf
  refine sm_iconst (i := 0) (x := 0) 1 (by decide +kernel) rfl rfl ?_
  refine sm_istore_n (k := 3) 2 [(3, .int 0), (0, .ref x0), (1, .int x1), (2, .int x2)] (by decide +kernel) rfl (by decide) (by first | rfl | simp [sm_rfc]) rfl ?_
  exact sm_sub [1, 2, 3, 0] rfl hf
def fM_writeBytes_2 (N d : Nat) (h : sm_H) (Q : Option Value → sm_H → Prop) (x0 : Nat) (x1 : Int32) (x2 : Int32) (x3 : Int32) : Prop := ((x2 ≤ x3 → Q none h) ∧ (¬ x2 ≤ x3 → ∃ z1 : Nat, sm_g h x0 5 1 = some (.ref z1) ∧ ∃ z2 : Int32, sm_gi h z1 0 (x1 + x3) = some z2 ∧ sm_V N d mm_M_write 5 x0 [.int z2] h (fun r4 h3 => r4 = none ∧ sm_W N (d + 1) mm_M_writeBytes 2 [(0, .ref x0), (1, .int x1), (2, .int x2), (3, .int (x3 + 1))] [] h3 Q)))
set_option maxRecDepth 20000 in
set_option maxHeartbeats 4000000 in
theorem kM_writeBytes_2 {N d : Nat} {h : sm_H} {Q : Option Value → sm_H → Prop} {x0 : Nat} {x1 : Int32} {x2 : Int32} {x3 : Int32} (hf : fM_writeBytes_2 N d h Q x0 x1 x2 x3) : sm_W N (d + 1) mm_M_writeBytes 2 [(0, .ref x0), (1, .int x1), (2, .int x2), (3, .int x3)] [] h Q := by
  unfold fM_writeBytes_2 at hf
  refine sm_iload_n (k := 3) 3 3 (by decide +kernel) rfl rfl rfl ?_
  refine sm_iload_n (k := 2) 4 2 (by decide +kernel) rfl rfl rfl ?_
  refine sm_icmp_ge (off := 21) 7 25 (by decide +kernel) (by decide) rfl (fun q5 => ?_) (fun q5 => ?_)
  · have hf := hf.1 q5
    exact sm_vret rfl (by decide +kernel) hf
  · have hf := hf.2 q5
    refine sm_aload_n (k := 0) 8 0 (by decide +kernel) rfl rfl rfl ?_
    refine sm_aload_n (k := 0) 9 0 (by decide +kernel) rfl rfl rfl ?_
    obtain ⟨z1, ez1, hf⟩ := hf
    refine sm_get 12 (by decide +kernel) fl_M_7 ez1 rfl ?_
    refine sm_iload_n (k := 1) 13 1 (by decide +kernel) rfl rfl rfl ?_
    refine sm_iload_n (k := 3) 14 3 (by decide +kernel) rfl rfl rfl ?_
    refine sm_iadd 15 (by decide +kernel) rfl ?_
    obtain ⟨z2, ez2, hf⟩ := hf
    refine sm_bald 16 (by decide +kernel) ez2 rfl ?_
    refine sm_callV (M2 := mm_M_write) (av := [.int z2]) (rest := []) 19 (by decide +kernel) ml_M_154 (Nat.le_refl _) rfl rfl (by first | exact Nat.le_of_ble_eq_true rfl | simp [sm_rfc, Value.category]) rfl hf ?_
    rintro r4 h3 ⟨rfl, hf⟩
    change sm_W N (d + 1) mm_M_writeBytes 19 [(0, .ref x0), (1, .int x1), (2, .int x2), (3, .int x3)] [] h3 Q
    refine sm_iinc (i := 3) (j := 3) (z := 1) (y := x3 + 1) 22 [(3, .int (x3 + 1)), (0, .ref x0), (1, .int x1), (2, .int x2)] (by decide +kernel) rfl (by rfl) (by decide) rfl rfl ?_
    refine sm_goto (off := -20) 2 (by decide +kernel) (by decide) ?_
    exact sm_sub [1, 2, 3, 0] rfl hf
theorem cM_writeBytes {N d : Nat} {h : sm_H} {Q : Option Value → sm_H → Prop} {x0 : Nat} {x1 : Int32} {x2 : Int32} (hb : ∃ fs, h[x0]? = some (.inr (5, fs))) (hf : fM_writeBytes_0 N d h Q x0 x1 x2) : sm_V N (d + 1) mm_M_writeBytes 5 x0 [.int x1, .int x2] h Q := ⟨hb, sm_meth (by decide +kernel) (fun _ => Nat.le_of_ble_eq_true rfl) (fun _ => rfl) (kM_writeBytes_0 hf)⟩
def fM_print_0 (N d : Nat) (h : sm_H) (Q : Option Value → sm_H → Prop) (x0 : Nat) (x1 : Int32) : Prop := ∃ h1, sm_p h x0 5 19 (.int 0) = some h1 ∧ ∃ h2, sm_p h1 x0 5 20 (.int 1) = some h2 ∧ sm_V N d mm_M_writeLow 5 x0 [.long 0, .int 4] h2 (fun r4 h3 => r4 = none ∧ ∃ z5 : Nat, sm_g h3 x0 5 16 = some (.ref z5) ∧ ∃ z6 : Nat, sm_g h3 x0 5 13 = some (.ref z6) ∧ ∃ z7 : Int32, sm_gi h3 z6 1 x1 = some z7 ∧ ∃ h8, sm_pi h3 z5 0 z7 = some h8 ∧ ∃ z9 : Nat, sm_g h8 x0 5 17 = some (.ref z9) ∧ ∃ h10, sm_pi h8 z9 0 0 = some h10 ∧ ∃ z11 : Nat, sm_g h10 x0 5 18 = some (.ref z11) ∧ ∃ h12, sm_pi h10 z11 0 0 = some h12 ∧ sm_W N (d + 1) mm_M_print 46 [(0, .ref x0), (2, .int 1), (3, .int 0)] [] h12 Q)
set_option maxRecDepth 20000 in
set_option maxHeartbeats 4000000 in
theorem kM_print_0 {N d : Nat} {h : sm_H} {Q : Option Value → sm_H → Prop} {x0 : Nat} {x1 : Int32} (hf : fM_print_0 N d h Q x0 x1) : sm_W N (d + 1) mm_M_print 0 [(0, .ref x0), (1, .int x1)] [] h Q := by
  unfold fM_print_0 at hf
  refine sm_aload_n (k := 0) 1 0 (by decide +kernel) rfl rfl rfl ?_
  refine sm_iconst (i := 0) (x := 0) 2 (by decide +kernel) rfl rfl ?_
  obtain ⟨h1, eh1, hf⟩ := hf
  refine sm_put (ty := .int) 5 (by decide +kernel) fp_M_149 (fun _ => rfl) rfl rfl eh1 rfl ?_
  refine sm_aload_n (k := 0) 6 0 (by decide +kernel) rfl rfl rfl ?_
  refine sm_iconst (i := 1) (x := 1) 7 (by decide +kernel) rfl rfl ?_
  obtain ⟨h2, eh2, hf⟩ := hf
  refine sm_put (ty := .int) 10 (by decide +kernel) fp_M_157 (fun _ => rfl) rfl rfl eh2 rfl ?_
  refine sm_aload_n (k := 0) 11 0 (by decide +kernel) rfl rfl rfl ?_
  refine sm_lconst (i := 0) (x := 0) 12 (by decide +kernel) rfl rfl ?_
  refine sm_iconst (i := 4) (x := 4) 13 (by decide +kernel) rfl rfl ?_
  refine sm_callV (M2 := mm_M_writeLow) (av := [.long 0, .int 4]) (rest := []) 16 (by decide +kernel) ml_M_160 (Nat.le_refl _) rfl rfl (by first | exact Nat.le_of_ble_eq_true rfl | simp [sm_rfc, Value.category]) rfl hf ?_
  rintro r4 h3 ⟨rfl, hf⟩
  change sm_W N (d + 1) mm_M_print 16 [(0, .ref x0), (1, .int x1)] [] h3 Q
  refine sm_iconst (i := 1) (x := 1) 17 (by decide +kernel) rfl rfl ?_
  refine sm_istore_n (k := 2) 18 [(2, .int 1), (0, .ref x0), (1, .int x1)] (by decide +kernel) rfl (by decide) (by first | rfl | simp [sm_rfc]) rfl ?_
  refine sm_aload_n (k := 0) 19 1 (by decide +kernel) rfl rfl rfl ?_
  obtain ⟨z5, ez5, hf⟩ := hf
  refine sm_get 22 (by decide +kernel) fl_M_49 ez5 rfl ?_
  refine sm_iconst (i := 0) (x := 0) 23 (by decide +kernel) rfl rfl ?_
  refine sm_aload_n (k := 0) 24 1 (by decide +kernel) rfl rfl rfl ?_
  obtain ⟨z6, ez6, hf⟩ := hf
  refine sm_get 27 (by decide +kernel) fl_M_40 ez6 rfl ?_
  refine sm_iload_n (k := 1) 28 2 (by decide +kernel) rfl rfl rfl ?_
  obtain ⟨z7, ez7, hf⟩ := hf
  refine sm_iald 29 (by decide +kernel) ez7 rfl ?_
  obtain ⟨h8, eh8, hf⟩ := hf
  refine sm_iast 30 (by decide +kernel) eh8 rfl ?_
  refine sm_aload_n (k := 0) 31 1 (by decide +kernel) rfl rfl rfl ?_
  obtain ⟨z9, ez9, hf⟩ := hf
  refine sm_get 34 (by decide +kernel) fl_M_52 ez9 rfl ?_
  refine sm_iconst (i := 0) (x := 0) 35 (by decide +kernel) rfl rfl ?_
  refine sm_iconst (i := 0) (x := 0) 36 (by decide +kernel) rfl rfl ?_
  obtain ⟨h10, eh10, hf⟩ := hf
  refine sm_iast 37 (by decide +kernel) eh10 rfl ?_
  refine sm_aload_n (k := 0) 38 1 (by decide +kernel) rfl rfl rfl ?_
  obtain ⟨z11, ez11, hf⟩ := hf
  refine sm_get 41 (by decide +kernel) fl_M_55 ez11 rfl ?_
  refine sm_iconst (i := 0) (x := 0) 42 (by decide +kernel) rfl rfl ?_
  refine sm_iconst (i := 0) (x := 0) 43 (by decide +kernel) rfl rfl ?_
  obtain ⟨h12, eh12, hf⟩ := hf
  refine sm_iast 44 (by decide +kernel) eh12 rfl ?_
  refine sm_iconst (i := 0) (x := 0) 45 (by decide +kernel) rfl rfl ?_
  refine sm_istore_n (k := 3) 46 [(3, .int 0), (2, .int 1), (0, .ref x0), (1, .int x1)] (by decide +kernel) rfl (by decide) (by first | rfl | simp [sm_rfc]) rfl ?_
  exact sm_sub [2, 1, 0] rfl hf
def fM_print_46 (N d : Nat) (h : sm_H) (Q : Option Value → sm_H → Prop) (x0 : Nat) (x2 : Int32) (x3 : Int32) : Prop := ((x2 ≤ 0 → Q none h) ∧ (¬ x2 ≤ 0 → ∃ z1 : Nat, sm_g h x0 5 16 = some (.ref z1) ∧ ∃ z2 : Int32, sm_gi h z1 1 (x2 - 1) = some z2 ∧ ((0 ≤ z2 → ∃ z3 : Nat, sm_g h x0 5 16 = some (.ref z3) ∧ ∃ z4 : Nat, sm_g h x0 5 14 = some (.ref z4) ∧ ∃ z5 : Int32, sm_gi h z4 1 z2 = some z5 ∧ ∃ h6, sm_pi h z3 (x2 - 1) z5 = some h6 ∧ ∃ z7 : Nat, sm_g h6 x0 5 7 = some (.ref z7) ∧ ∃ z8 : Int32, sm_gi h6 z7 1 z2 = some z8 ∧ sm_V N d mm_M_write 5 x0 [.int z8] h6 (fun r10 h9 => r10 = none ∧ ((x3 = 0 → ∃ z11 : Nat, sm_g h9 x0 5 8 = some (.ref z11) ∧ ∃ z12 : Int32, sm_gi h9 z11 1 z2 = some z12 ∧ ∃ z13 : Nat, sm_g h9 x0 5 9 = some (.ref z13) ∧ ∃ z14 : Int32, sm_gi h9 z13 1 z2 = some z14 ∧ sm_V N d mm_M_writeBytes 5 x0 [.int z12, .int z14] h9 (fun r16 h15 => r16 = none ∧ sm_W N (d + 1) mm_M_print 216 [(0, .ref x0), (2, .int x2), (3, .int x3), (4, .int (x2 - 1)), (5, .int z2)] [] h15 Q)) ∧ (¬ x3 = 0 → ∃ z17 : Nat, sm_g h9 x0 5 18 = some (.ref z17) ∧ ∃ z18 : Int32, sm_gi h9 z17 1 (x2 - 1) = some z18 ∧ sm_V N d mm_M_writeDigits 5 x0 [.int ((-1) - z18)] h9 (fun r20 h19 => r20 = none ∧ sm_W N (d + 1) mm_M_print 216 [(0, .ref x0), (2, .int x2), (3, .int x3), (4, .int (x2 - 1)), (5, .int z2)] [] h19 Q))))) ∧ (¬ 0 ≤ z2 → sm_V N d mm_M_write 5 x0 [.int 0] h (fun r23 h22 => r23 = none ∧ ∃ z24 : Nat, sm_g h22 x0 5 17 = some (.ref z24) ∧ ∃ z25 : Int32, sm_gi h22 z24 1 (x2 - 1) = some z25 ∧ ∃ z26 : Int32, sm_g h22 x0 5 19 = some (.int z26) ∧ sm_W N (d + 1) mm_M_print 95 [(0, .ref x0), (2, .int x2), (6, .int z25), (7, .int (z26 - z25)), (8, .int 0)] [] h22 Q)))))
set_option maxRecDepth 20000 in
set_option maxHeartbeats 4000000 in
theorem kM_print_46 {N d : Nat} {h : sm_H} {Q : Option Value → sm_H → Prop} {x0 : Nat} {x2 : Int32} {x3 : Int32} (hf : fM_print_46 N d h Q x0 x2 x3) : sm_W N (d + 1) mm_M_print 46 [(0, .ref x0), (2, .int x2), (3, .int x3)] [] h Q := by
  unfold fM_print_46 at hf
  refine sm_iload_n (k := 2) 47 1 (by decide +kernel) rfl rfl rfl ?_
  refine sm_if_le (off := 316) 50 363 (by decide +kernel) (by decide) rfl (fun q28 => ?_) (fun q28 => ?_)
  · have hf := hf.1 q28
    exact sm_vret rfl (by decide +kernel) hf
  · have hf := hf.2 q28
    refine sm_iload_n (k := 2) 51 1 (by decide +kernel) rfl rfl rfl ?_
    refine sm_iconst (i := 1) (x := 1) 52 (by decide +kernel) rfl rfl ?_
    refine sm_isub 53 (by decide +kernel) rfl ?_
    refine sm_istore (i := 4) 55 [(4, .int (x2 - 1)), (0, .ref x0), (2, .int x2), (3, .int x3)] (by decide +kernel) (by decide) (by first | rfl | simp [sm_rfc]) rfl ?_
    refine sm_aload_n (k := 0) 56 1 (by decide +kernel) rfl rfl rfl ?_
    obtain ⟨z1, ez1, hf⟩ := hf
    refine sm_get 59 (by decide +kernel) fl_M_49 ez1 rfl ?_
    refine sm_iload (i := 4) 61 0 (by decide +kernel) rfl rfl ?_
    obtain ⟨z2, ez2, hf⟩ := hf
    refine sm_iald 62 (by decide +kernel) ez2 rfl ?_
    refine sm_istore (i := 5) 64 [(5, .int z2), (4, .int (x2 - 1)), (0, .ref x0), (2, .int x2), (3, .int x3)] (by decide +kernel) (by decide) (by first | rfl | simp [sm_rfc]) rfl ?_
    refine sm_iload (i := 5) 66 0 (by decide +kernel) rfl rfl ?_
    refine sm_if_ge (off := 87) 69 153 (by decide +kernel) (by decide) rfl (fun q27 => ?_) (fun q27 => ?_)
    · have hf := hf.1 q27
      refine sm_aload_n (k := 0) 154 2 (by decide +kernel) rfl rfl rfl ?_
      obtain ⟨z3, ez3, hf⟩ := hf
      refine sm_get 157 (by decide +kernel) fl_M_49 ez3 rfl ?_
      refine sm_iload (i := 4) 159 1 (by decide +kernel) rfl rfl ?_
      refine sm_aload_n (k := 0) 160 2 (by decide +kernel) rfl rfl rfl ?_
      obtain ⟨z4, ez4, hf⟩ := hf
      refine sm_get 163 (by decide +kernel) fl_M_43 ez4 rfl ?_
      refine sm_iload (i := 5) 165 0 (by decide +kernel) rfl rfl ?_
      obtain ⟨z5, ez5, hf⟩ := hf
      refine sm_iald 166 (by decide +kernel) ez5 rfl ?_
      obtain ⟨h6, eh6, hf⟩ := hf
      refine sm_iast 167 (by decide +kernel) eh6 rfl ?_
      refine sm_aload_n (k := 0) 168 2 (by decide +kernel) rfl rfl rfl ?_
      refine sm_aload_n (k := 0) 169 2 (by decide +kernel) rfl rfl rfl ?_
      obtain ⟨z7, ez7, hf⟩ := hf
      refine sm_get 172 (by decide +kernel) fl_M_20 ez7 rfl ?_
      refine sm_iload (i := 5) 174 0 (by decide +kernel) rfl rfl ?_
      obtain ⟨z8, ez8, hf⟩ := hf
      refine sm_iald 175 (by decide +kernel) ez8 rfl ?_
      refine sm_callV (M2 := mm_M_write) (av := [.int z8]) (rest := []) 178 (by decide +kernel) ml_M_154 (Nat.le_refl _) rfl rfl (by first | exact Nat.le_of_ble_eq_true rfl | simp [sm_rfc, Value.category]) rfl hf ?_
      rintro r10 h9 ⟨rfl, hf⟩
      change sm_W N (d + 1) mm_M_print 178 [(5, .int z2), (4, .int (x2 - 1)), (0, .ref x0), (2, .int x2), (3, .int x3)] [] h9 Q
      refine sm_iload_n (k := 3) 179 4 (by decide +kernel) rfl rfl rfl ?_
      refine sm_if_eq (off := 19) 182 198 (by decide +kernel) (by decide) rfl (fun q21 => ?_) (fun q21 => ?_)
      · have hf := hf.1 q21
        refine sm_aload_n (k := 0) 199 2 (by decide +kernel) rfl rfl rfl ?_
        refine sm_aload_n (k := 0) 200 2 (by decide +kernel) rfl rfl rfl ?_
        obtain ⟨z11, ez11, hf⟩ := hf
        refine sm_get 203 (by decide +kernel) fl_M_24 ez11 rfl ?_
        refine sm_iload (i := 5) 205 0 (by decide +kernel) rfl rfl ?_
        obtain ⟨z12, ez12, hf⟩ := hf
        refine sm_iald 206 (by decide +kernel) ez12 rfl ?_
        refine sm_aload_n (k := 0) 207 2 (by decide +kernel) rfl rfl rfl ?_
        obtain ⟨z13, ez13, hf⟩ := hf
        refine sm_get 210 (by decide +kernel) fl_M_27 ez13 rfl ?_
        refine sm_iload (i := 5) 212 0 (by decide +kernel) rfl rfl ?_
        obtain ⟨z14, ez14, hf⟩ := hf
        refine sm_iald 213 (by decide +kernel) ez14 rfl ?_
        refine sm_callV (M2 := mm_M_writeBytes) (av := [.int z12, .int z14]) (rest := []) 216 (by decide +kernel) ml_M_167 (Nat.le_refl _) rfl rfl (by first | exact Nat.le_of_ble_eq_true rfl | simp [sm_rfc, Value.category]) rfl hf ?_
        rintro r16 h15 ⟨rfl, hf⟩
        change sm_W N (d + 1) mm_M_print 216 [(5, .int z2), (4, .int (x2 - 1)), (0, .ref x0), (2, .int x2), (3, .int x3)] [] h15 Q
        exact sm_sub [2, 3, 4, 1, 0] rfl hf
      · have hf := hf.2 q21
        refine sm_aload_n (k := 0) 183 2 (by decide +kernel) rfl rfl rfl ?_
        refine sm_iconst (i := -1) (x := (-1)) 184 (by decide +kernel) rfl rfl ?_
        refine sm_aload_n (k := 0) 185 2 (by decide +kernel) rfl rfl rfl ?_
        obtain ⟨z17, ez17, hf⟩ := hf
        refine sm_get 188 (by decide +kernel) fl_M_55 ez17 rfl ?_
        refine sm_iload (i := 4) 190 1 (by decide +kernel) rfl rfl ?_
        obtain ⟨z18, ez18, hf⟩ := hf
        refine sm_iald 191 (by decide +kernel) ez18 rfl ?_
        refine sm_isub 192 (by decide +kernel) rfl ?_
        refine sm_callV (M2 := mm_M_writeDigits) (av := [.int ((-1) - z18)]) (rest := []) 195 (by decide +kernel) ml_M_164 (Nat.le_refl _) rfl rfl (by first | exact Nat.le_of_ble_eq_true rfl | simp [sm_rfc, Value.category]) rfl hf ?_
        rintro r20 h19 ⟨rfl, hf⟩
        change sm_W N (d + 1) mm_M_print 195 [(5, .int z2), (4, .int (x2 - 1)), (0, .ref x0), (2, .int x2), (3, .int x3)] [] h19 Q
        refine sm_goto (off := 21) 216 (by decide +kernel) (by decide) ?_
        exact sm_sub [2, 3, 4, 1, 0] rfl hf
    · have hf := hf.2 q27
      refine sm_aload_n (k := 0) 70 2 (by decide +kernel) rfl rfl rfl ?_
      refine sm_iconst (i := 0) (x := 0) 71 (by decide +kernel) rfl rfl ?_
      refine sm_callV (M2 := mm_M_write) (av := [.int 0]) (rest := []) 74 (by decide +kernel) ml_M_154 (Nat.le_refl _) rfl rfl (by first | exact Nat.le_of_ble_eq_true rfl | simp [sm_rfc, Value.category]) rfl hf ?_
      rintro r23 h22 ⟨rfl, hf⟩
      change sm_W N (d + 1) mm_M_print 74 [(5, .int z2), (4, .int (x2 - 1)), (0, .ref x0), (2, .int x2), (3, .int x3)] [] h22 Q
      refine sm_aload_n (k := 0) 75 2 (by decide +kernel) rfl rfl rfl ?_
      obtain ⟨z24, ez24, hf⟩ := hf
      refine sm_get 78 (by decide +kernel) fl_M_52 ez24 rfl ?_
      refine sm_iload (i := 4) 80 1 (by decide +kernel) rfl rfl ?_
      obtain ⟨z25, ez25, hf⟩ := hf
      refine sm_iald 81 (by decide +kernel) ez25 rfl ?_
      refine sm_istore (i := 6) 83 [(6, .int z25), (5, .int z2), (4, .int (x2 - 1)), (0, .ref x0), (2, .int x2), (3, .int x3)] (by decide +kernel) (by decide) (by first | rfl | simp [sm_rfc]) rfl ?_
      refine sm_aload_n (k := 0) 84 3 (by decide +kernel) rfl rfl rfl ?_
      obtain ⟨z26, ez26, hf⟩ := hf
      refine sm_get 87 (by decide +kernel) fl_M_149 ez26 rfl ?_
      refine sm_iload (i := 6) 89 0 (by decide +kernel) rfl rfl ?_
      refine sm_isub 90 (by decide +kernel) rfl ?_
      refine sm_istore (i := 7) 92 [(7, .int (z26 - z25)), (6, .int z25), (5, .int z2), (4, .int (x2 - 1)), (0, .ref x0), (2, .int x2), (3, .int x3)] (by decide +kernel) (by decide) (by first | rfl | simp [sm_rfc]) rfl ?_
      refine sm_iconst (i := 0) (x := 0) 93 (by decide +kernel) rfl rfl ?_
      refine sm_istore (i := 8) 95 [(8, .int 0), (7, .int (z26 - z25)), (6, .int z25), (5, .int z2), (4, .int (x2 - 1)), (0, .ref x0), (2, .int x2), (3, .int x3)] (by decide +kernel) (by decide) (by first | rfl | simp [sm_rfc]) rfl ?_
      exact sm_sub [5, 6, 2, 1, 0] rfl hf
def fM_print_95 (N d : Nat) (h : sm_H) (Q : Option Value → sm_H → Prop) (x0 : Nat) (x2 : Int32) (x6 : Int32) (x7 : Int32) (x8 : Int32) : Prop := ((4 ≤ x8 → (((x2 + (-1)) ≤ 0 → sm_W N (d + 1) mm_M_print 148 [(0, .ref x0), (2, .int (x2 + (-1)))] [] h Q) ∧ (¬ (x2 + (-1)) ≤ 0 → ∃ z1 : Nat, sm_g h x0 5 18 = some (.ref z1) ∧ ∃ z2 : Int32, sm_gi h z1 1 ((x2 + (-1)) - 1) = some z2 ∧ ((0 ≤ z2 → sm_W N (d + 1) mm_M_print 148 [(0, .ref x0), (2, .int (x2 + (-1)))] [] h Q) ∧ (¬ 0 ≤ z2 → sm_W N (d + 1) mm_M_print 149 [(0, .ref x0), (2, .int (x2 + (-1)))] [.int 1] h Q))))) ∧ (¬ 4 ≤ x8 → ∃ z5 : Nat, sm_g h x0 5 21 = some (.ref z5) ∧ ∃ h6, sm_pb h z5 (x6 + x8) (Int8.toInt32 (Int32.toInt8 (x7 >>> ((8 * x8) &&& 31)))) = some h6 ∧ sm_W N (d + 1) mm_M_print 95 [(0, .ref x0), (2, .int x2), (6, .int x6), (7, .int x7), (8, .int (x8 + 1))] [] h6 Q))
set_option maxRecDepth 20000 in
set_option maxHeartbeats 4000000 in
theorem kM_print_95 {N d : Nat} {h : sm_H} {Q : Option Value → sm_H → Prop} {x0 : Nat} {x2 : Int32} {x6 : Int32} {x7 : Int32} {x8 : Int32} (hf : fM_print_95 N d h Q x0 x2 x6 x7 x8) : sm_W N (d + 1) mm_M_print 95 [(0, .ref x0), (2, .int x2), (6, .int x6), (7, .int x7), (8, .int x8)] [] h Q := by
  unfold fM_print_95 at hf
  refine sm_iload (i := 8) 97 4 (by decide +kernel) rfl rfl ?_
  refine sm_iconst (i := 4) (x := 4) 98 (by decide +kernel) rfl rfl ?_
  refine sm_icmp_ge (off := 28) 101 126 (by decide +kernel) (by decide) rfl (fun q7 => ?_) (fun q7 => ?_)
  · have hf := hf.1 q7
    refine sm_iinc (i := 2) (j := 1) (z := -1) (y := x2 + (-1)) 129 [(2, .int (x2 + (-1))), (0, .ref x0), (6, .int x6), (7, .int x7), (8, .int x8)] (by decide +kernel) rfl (by rfl) (by decide) rfl rfl ?_
    refine sm_iload_n (k := 2) 130 0 (by decide +kernel) rfl rfl rfl ?_
    refine sm_if_le (off := 18) 133 148 (by decide +kernel) (by decide) rfl (fun q4 => ?_) (fun q4 => ?_)
    · have hf := hf.1 q4
      exact sm_sub [1, 0] rfl hf
    · have hf := hf.2 q4
      refine sm_aload_n (k := 0) 134 1 (by decide +kernel) rfl rfl rfl ?_
      obtain ⟨z1, ez1, hf⟩ := hf
      refine sm_get 137 (by decide +kernel) fl_M_55 ez1 rfl ?_
      refine sm_iload_n (k := 2) 138 0 (by decide +kernel) rfl rfl rfl ?_
      refine sm_iconst (i := 1) (x := 1) 139 (by decide +kernel) rfl rfl ?_
      refine sm_isub 140 (by decide +kernel) rfl ?_
      obtain ⟨z2, ez2, hf⟩ := hf
      refine sm_iald 141 (by decide +kernel) ez2 rfl ?_
      refine sm_if_ge (off := 7) 144 148 (by decide +kernel) (by decide) rfl (fun q3 => ?_) (fun q3 => ?_)
      · have hf := hf.1 q3
        exact sm_sub [1, 0] rfl hf
      · have hf := hf.2 q3
        refine sm_iconst (i := 1) (x := 1) 145 (by decide +kernel) rfl rfl ?_
        refine sm_goto (off := 4) 149 (by decide +kernel) (by decide) ?_
        exact sm_sub [1, 0] rfl hf
  · have hf := hf.2 q7
    refine sm_aload_n (k := 0) 102 0 (by decide +kernel) rfl rfl rfl ?_
    obtain ⟨z5, ez5, hf⟩ := hf
    refine sm_get 105 (by decide +kernel) fl_M_58 ez5 rfl ?_
    refine sm_iload (i := 6) 107 2 (by decide +kernel) rfl rfl ?_
    refine sm_iload (i := 8) 109 4 (by decide +kernel) rfl rfl ?_
    refine sm_iadd 110 (by decide +kernel) rfl ?_
    refine sm_iload (i := 7) 112 3 (by decide +kernel) rfl rfl ?_
    refine sm_bipush (i := 8) (x := 8) 114 (by decide +kernel) (by decide) rfl ?_
    refine sm_iload (i := 8) 116 4 (by decide +kernel) rfl rfl ?_
    refine sm_imul 117 (by decide +kernel) rfl ?_
    refine sm_ishr 118 (by decide +kernel) rfl ?_
    refine sm_i2b 119 (by decide +kernel) rfl ?_
    obtain ⟨h6, eh6, hf⟩ := hf
    refine sm_bast 120 (by decide +kernel) eh6 rfl ?_
    refine sm_iinc (i := 8) (j := 4) (z := 1) (y := x8 + 1) 123 [(8, .int (x8 + 1)), (0, .ref x0), (2, .int x2), (6, .int x6), (7, .int x7)] (by decide +kernel) rfl (by rfl) (by decide) rfl rfl ?_
    refine sm_goto (off := -28) 95 (by decide +kernel) (by decide) ?_
    exact sm_sub [1, 2, 3, 4, 0] rfl hf
def fM_print_148 (N d : Nat) (h : sm_H) (Q : Option Value → sm_H → Prop) (x0 : Nat) (x2 : Int32) : Prop := sm_W N (d + 1) mm_M_print 149 [(0, .ref x0), (2, .int x2)] [.int 0] h Q
set_option maxRecDepth 20000 in
set_option maxHeartbeats 4000000 in
theorem kM_print_148 {N d : Nat} {h : sm_H} {Q : Option Value → sm_H → Prop} {x0 : Nat} {x2 : Int32} (hf : fM_print_148 N d h Q x0 x2) : sm_W N (d + 1) mm_M_print 148 [(0, .ref x0), (2, .int x2)] [] h Q := by
  unfold fM_print_148 at hf
  refine sm_iconst (i := 0) (x := 0) 149 (by decide +kernel) rfl rfl ?_
  exact sm_sub [0, 1] rfl hf
def fM_print_149 (N d : Nat) (h : sm_H) (Q : Option Value → sm_H → Prop) (x0 : Nat) (x2 : Int32) (y0 : Int32) : Prop := sm_W N (d + 1) mm_M_print 46 [(0, .ref x0), (2, .int x2), (3, .int y0)] [] h Q
set_option maxRecDepth 20000 in
set_option maxHeartbeats 4000000 in
theorem kM_print_149 {N d : Nat} {h : sm_H} {Q : Option Value → sm_H → Prop} {x0 : Nat} {x2 : Int32} {y0 : Int32} (hf : fM_print_149 N d h Q x0 x2 y0) : sm_W N (d + 1) mm_M_print 149 [(0, .ref x0), (2, .int x2)] [.int y0] h Q := by
  unfold fM_print_149 at hf
  refine sm_istore_n (k := 3) 150 [(3, .int y0), (0, .ref x0), (2, .int x2)] (by decide +kernel) rfl (by decide) (by first | rfl | simp [sm_rfc]) rfl ?_
  refine sm_goto (off := -104) 46 (by decide +kernel) (by decide) ?_
  exact sm_sub [1, 2, 0] rfl hf
def fM_print_216 (N d : Nat) (h : sm_H) (Q : Option Value → sm_H → Prop) (x0 : Nat) (x2 : Int32) (x3 : Int32) (x4 : Int32) (x5 : Int32) : Prop := sm_V N d mm_M_write 5 x0 [.int 0] h (fun r2 h1 => r2 = none ∧ ∃ z3 : Nat, sm_g h1 x0 5 18 = some (.ref z3) ∧ ((x3 = 0 → sm_W N (d + 1) mm_M_print 244 [(0, .ref x0), (2, .int x2), (3, .int x3), (5, .int x5)] [.int 0, .int x4, .ref z3] h1 Q) ∧ (¬ x3 = 0 → ∃ z4 : Nat, sm_g h1 x0 5 18 = some (.ref z4) ∧ ∃ z5 : Int32, sm_gi h1 z4 1 x4 = some z5 ∧ sm_W N (d + 1) mm_M_print 244 [(0, .ref x0), (2, .int x2), (3, .int x3), (5, .int x5)] [.int (z5 - 1), .int x4, .ref z3] h1 Q)))
set_option maxRecDepth 20000 in
set_option maxHeartbeats 4000000 in
theorem kM_print_216 {N d : Nat} {h : sm_H} {Q : Option Value → sm_H → Prop} {x0 : Nat} {x2 : Int32} {x3 : Int32} {x4 : Int32} {x5 : Int32} (hf : fM_print_216 N d h Q x0 x2 x3 x4 x5) : sm_W N (d + 1) mm_M_print 216 [(0, .ref x0), (2, .int x2), (3, .int x3), (4, .int x4), (5, .int x5)] [] h Q := by
  unfold fM_print_216 at hf
  refine sm_aload_n (k := 0) 217 0 (by decide +kernel) rfl rfl rfl ?_
  refine sm_iconst (i := 0) (x := 0) 218 (by decide +kernel) rfl rfl ?_
  refine sm_callV (M2 := mm_M_write) (av := [.int 0]) (rest := []) 221 (by decide +kernel) ml_M_154 (Nat.le_refl _) rfl rfl (by first | exact Nat.le_of_ble_eq_true rfl | simp [sm_rfc, Value.category]) rfl hf ?_
  rintro r2 h1 ⟨rfl, hf⟩
  change sm_W N (d + 1) mm_M_print 221 [(0, .ref x0), (2, .int x2), (3, .int x3), (4, .int x4), (5, .int x5)] [] h1 Q
  refine sm_aload_n (k := 0) 222 0 (by decide +kernel) rfl rfl rfl ?_
  obtain ⟨z3, ez3, hf⟩ := hf
  refine sm_get 225 (by decide +kernel) fl_M_55 ez3 rfl ?_
  refine sm_iload (i := 4) 227 3 (by decide +kernel) rfl rfl ?_
  refine sm_iload_n (k := 3) 228 2 (by decide +kernel) rfl rfl rfl ?_
  refine sm_if_eq (off := 15) 231 243 (by decide +kernel) (by decide) rfl (fun q6 => ?_) (fun q6 => ?_)
  · have hf := hf.1 q6
    refine sm_iconst (i := 0) (x := 0) 244 (by decide +kernel) rfl rfl ?_
    exact sm_sub [0, 1, 2, 4] rfl hf
  · have hf := hf.2 q6
    refine sm_aload_n (k := 0) 232 0 (by decide +kernel) rfl rfl rfl ?_
    obtain ⟨z4, ez4, hf⟩ := hf
    refine sm_get 235 (by decide +kernel) fl_M_55 ez4 rfl ?_
    refine sm_iload (i := 4) 237 3 (by decide +kernel) rfl rfl ?_
    obtain ⟨z5, ez5, hf⟩ := hf
    refine sm_iald 238 (by decide +kernel) ez5 rfl ?_
    refine sm_iconst (i := 1) (x := 1) 239 (by decide +kernel) rfl rfl ?_
    refine sm_isub 240 (by decide +kernel) rfl ?_
    refine sm_goto (off := 4) 244 (by decide +kernel) (by decide) ?_
    exact sm_sub [0, 1, 2, 4] rfl hf
def fM_print_244 (N d : Nat) (h : sm_H) (Q : Option Value → sm_H → Prop) (x0 : Nat) (x2 : Int32) (x3 : Int32) (x5 : Int32) (y0 : Int32) (y1 : Int32) (y2 : Nat) : Prop := ∃ h1, sm_pi h y2 y1 y0 = some h1 ∧ ∃ z2 : Nat, sm_g h1 x0 5 7 = some (.ref z2) ∧ ∃ z3 : Int32, sm_gi h1 z2 1 x5 = some z3 ∧ ((z3 = 3 → sm_W N (d + 1) mm_M_print 267 [(0, .ref x0), (2, .int x2), (5, .int x5)] [] h1 Q) ∧ (¬ z3 = 3 → ∃ z4 : Nat, sm_g h1 x0 5 7 = some (.ref z4) ∧ ∃ z5 : Int32, sm_gi h1 z4 1 x5 = some z5 ∧ ((z5 = 4 → sm_W N (d + 1) mm_M_print 267 [(0, .ref x0), (2, .int x2), (5, .int x5)] [] h1 Q) ∧ (¬ z5 = 4 → sm_V N d mm_M_writeValue 5 x0 [.int x5] h1 (fun r7 h6 => r7 = none ∧ sm_W N (d + 1) mm_M_print 360 [(0, .ref x0), (2, .int x2), (3, .int x3)] [] h6 Q)))))
set_option maxRecDepth 20000 in
set_option maxHeartbeats 4000000 in
theorem kM_print_244 {N d : Nat} {h : sm_H} {Q : Option Value → sm_H → Prop} {x0 : Nat} {x2 : Int32} {x3 : Int32} {x5 : Int32} {y0 : Int32} {y1 : Int32} {y2 : Nat} (hf : fM_print_244 N d h Q x0 x2 x3 x5 y0 y1 y2) : sm_W N (d + 1) mm_M_print 244 [(0, .ref x0), (2, .int x2), (3, .int x3), (5, .int x5)] [.int y0, .int y1, .ref y2] h Q := by
  unfold fM_print_244 at hf
  obtain ⟨h1, eh1, hf⟩ := hf
  refine sm_iast 245 (by decide +kernel) eh1 rfl ?_
  refine sm_aload_n (k := 0) 246 0 (by decide +kernel) rfl rfl rfl ?_
  obtain ⟨z2, ez2, hf⟩ := hf
  refine sm_get 249 (by decide +kernel) fl_M_20 ez2 rfl ?_
  refine sm_iload (i := 5) 251 3 (by decide +kernel) rfl rfl ?_
  obtain ⟨z3, ez3, hf⟩ := hf
  refine sm_iald 252 (by decide +kernel) ez3 rfl ?_
  refine sm_iconst (i := 3) (x := 3) 253 (by decide +kernel) rfl rfl ?_
  refine sm_icmp_eq (off := 14) 256 267 (by decide +kernel) (by decide) rfl (fun q9 => ?_) (fun q9 => ?_)
  · have hf := hf.1 q9
    exact sm_sub [0, 1, 3] rfl hf
  · have hf := hf.2 q9
    refine sm_aload_n (k := 0) 257 0 (by decide +kernel) rfl rfl rfl ?_
    obtain ⟨z4, ez4, hf⟩ := hf
    refine sm_get 260 (by decide +kernel) fl_M_20 ez4 rfl ?_
    refine sm_iload (i := 5) 262 3 (by decide +kernel) rfl rfl ?_
    obtain ⟨z5, ez5, hf⟩ := hf
    refine sm_iald 263 (by decide +kernel) ez5 rfl ?_
    refine sm_iconst (i := 4) (x := 4) 264 (by decide +kernel) rfl rfl ?_
    refine sm_icmp_ne (off := 90) 267 354 (by decide +kernel) (by decide) rfl (fun q8 => ?_) (fun q8 => ?_)
    · have hf := hf.2 q8
      refine sm_aload_n (k := 0) 355 0 (by decide +kernel) rfl rfl rfl ?_
      refine sm_iload (i := 5) 357 3 (by decide +kernel) rfl rfl ?_
      refine sm_callV (M2 := mm_M_writeValue) (av := [.int x5]) (rest := []) 360 (by decide +kernel) ml_M_170 (Nat.le_refl _) rfl rfl (by first | exact Nat.le_of_ble_eq_true rfl | simp [sm_rfc, Value.category]) rfl hf ?_
      rintro r7 h6 ⟨rfl, hf⟩
      change sm_W N (d + 1) mm_M_print 360 [(0, .ref x0), (2, .int x2), (3, .int x3), (5, .int x5)] [] h6 Q
      exact sm_sub [0, 1, 2] rfl hf
    · have hf := hf.1 q8
      exact sm_sub [0, 1, 3] rfl hf
def fM_print_267 (N d : Nat) (h : sm_H) (Q : Option Value → sm_H → Prop) (x0 : Nat) (x2 : Int32) (x5 : Int32) : Prop := ∃ z1 : Nat, sm_g h x0 5 7 = some (.ref z1) ∧ ∃ z2 : Int32, sm_gi h z1 1 x5 = some z2 ∧ ((z2 = 4 → sm_W N (d + 1) mm_M_print 283 [(0, .ref x0), (2, .int x2), (5, .int x5)] [.int 1] h Q) ∧ (¬ z2 = 4 → sm_W N (d + 1) mm_M_print 283 [(0, .ref x0), (2, .int x2), (5, .int x5)] [.int 0] h Q))
set_option maxRecDepth 20000 in
set_option maxHeartbeats 4000000 in
theorem kM_print_267 {N d : Nat} {h : sm_H} {Q : Option Value → sm_H → Prop} {x0 : Nat} {x2 : Int32} {x5 : Int32} (hf : fM_print_267 N d h Q x0 x2 x5) : sm_W N (d + 1) mm_M_print 267 [(0, .ref x0), (2, .int x2), (5, .int x5)] [] h Q := by
  unfold fM_print_267 at hf
  refine sm_aload_n (k := 0) 268 0 (by decide +kernel) rfl rfl rfl ?_
  obtain ⟨z1, ez1, hf⟩ := hf
  refine sm_get 271 (by decide +kernel) fl_M_20 ez1 rfl ?_
  refine sm_iload (i := 5) 273 2 (by decide +kernel) rfl rfl ?_
  obtain ⟨z2, ez2, hf⟩ := hf
  refine sm_iald 274 (by decide +kernel) ez2 rfl ?_
  refine sm_iconst (i := 4) (x := 4) 275 (by decide +kernel) rfl rfl ?_
  refine sm_icmp_ne (off := 7) 278 282 (by decide +kernel) (by decide) rfl (fun q3 => ?_) (fun q3 => ?_)
  · have hf := hf.2 q3
    refine sm_iconst (i := 0) (x := 0) 283 (by decide +kernel) rfl rfl ?_
    exact sm_sub [0, 1, 2] rfl hf
  · have hf := hf.1 q3
    refine sm_iconst (i := 1) (x := 1) 279 (by decide +kernel) rfl rfl ?_
    refine sm_goto (off := 4) 283 (by decide +kernel) (by decide) ?_
    exact sm_sub [0, 1, 2] rfl hf
def fM_print_283 (N d : Nat) (h : sm_H) (Q : Option Value → sm_H → Prop) (x0 : Nat) (x2 : Int32) (x5 : Int32) (y0 : Int32) : Prop := ∃ z1 : Nat, sm_g h x0 5 16 = some (.ref z1) ∧ ∃ z2 : Nat, sm_g h x0 5 13 = some (.ref z2) ∧ ∃ z3 : Int32, sm_gi h z2 1 x5 = some z3 ∧ ∃ h4, sm_pi h z1 x2 z3 = some h4 ∧ ∃ z5 : Nat, sm_g h4 x0 5 17 = some (.ref z5) ∧ ∃ z6 : Int32, sm_g h4 x0 5 19 = some (.int z6) ∧ ∃ h7, sm_pi h4 z5 x2 z6 = some h7 ∧ ∃ z8 : Nat, sm_g h7 x0 5 18 = some (.ref z8) ∧ ((y0 = 0 → sm_W N (d + 1) mm_M_print 321 [(0, .ref x0), (2, .int x2), (3, .int y0)] [.int 0, .int x2, .ref z8] h7 Q) ∧ (¬ y0 = 0 → sm_W N (d + 1) mm_M_print 321 [(0, .ref x0), (2, .int x2), (3, .int y0)] [.int (-1), .int x2, .ref z8] h7 Q))
set_option maxRecDepth 20000 in
set_option maxHeartbeats 4000000 in
theorem kM_print_283 {N d : Nat} {h : sm_H} {Q : Option Value → sm_H → Prop} {x0 : Nat} {x2 : Int32} {x5 : Int32} {y0 : Int32} (hf : fM_print_283 N d h Q x0 x2 x5 y0) : sm_W N (d + 1) mm_M_print 283 [(0, .ref x0), (2, .int x2), (5, .int x5)] [.int y0] h Q := by
  unfold fM_print_283 at hf
  refine sm_istore_n (k := 3) 284 [(3, .int y0), (0, .ref x0), (2, .int x2), (5, .int x5)] (by decide +kernel) rfl (by decide) (by first | rfl | simp [sm_rfc]) rfl ?_
  refine sm_aload_n (k := 0) 285 1 (by decide +kernel) rfl rfl rfl ?_
  obtain ⟨z1, ez1, hf⟩ := hf
  refine sm_get 288 (by decide +kernel) fl_M_49 ez1 rfl ?_
  refine sm_iload_n (k := 2) 289 2 (by decide +kernel) rfl rfl rfl ?_
  refine sm_aload_n (k := 0) 290 1 (by decide +kernel) rfl rfl rfl ?_
  obtain ⟨z2, ez2, hf⟩ := hf
  refine sm_get 293 (by decide +kernel) fl_M_40 ez2 rfl ?_
  refine sm_iload (i := 5) 295 3 (by decide +kernel) rfl rfl ?_
  obtain ⟨z3, ez3, hf⟩ := hf
  refine sm_iald 296 (by decide +kernel) ez3 rfl ?_
  obtain ⟨h4, eh4, hf⟩ := hf
  refine sm_iast 297 (by decide +kernel) eh4 rfl ?_
  refine sm_aload_n (k := 0) 298 1 (by decide +kernel) rfl rfl rfl ?_
  obtain ⟨z5, ez5, hf⟩ := hf
  refine sm_get 301 (by decide +kernel) fl_M_52 ez5 rfl ?_
  refine sm_iload_n (k := 2) 302 2 (by decide +kernel) rfl rfl rfl ?_
  refine sm_aload_n (k := 0) 303 1 (by decide +kernel) rfl rfl rfl ?_
  obtain ⟨z6, ez6, hf⟩ := hf
  refine sm_get 306 (by decide +kernel) fl_M_149 ez6 rfl ?_
  obtain ⟨h7, eh7, hf⟩ := hf
  refine sm_iast 307 (by decide +kernel) eh7 rfl ?_
  refine sm_aload_n (k := 0) 308 1 (by decide +kernel) rfl rfl rfl ?_
  obtain ⟨z8, ez8, hf⟩ := hf
  refine sm_get 311 (by decide +kernel) fl_M_55 ez8 rfl ?_
  refine sm_iload_n (k := 2) 312 2 (by decide +kernel) rfl rfl rfl ?_
  refine sm_iload_n (k := 3) 313 0 (by decide +kernel) rfl rfl rfl ?_
  refine sm_if_eq (off := 7) 316 320 (by decide +kernel) (by decide) rfl (fun q9 => ?_) (fun q9 => ?_)
  · have hf := hf.1 q9
    refine sm_iconst (i := 0) (x := 0) 321 (by decide +kernel) rfl rfl ?_
    exact sm_sub [1, 2, 0] rfl hf
  · have hf := hf.2 q9
    refine sm_iconst (i := -1) (x := (-1)) 317 (by decide +kernel) rfl rfl ?_
    refine sm_goto (off := 4) 321 (by decide +kernel) (by decide) ?_
    exact sm_sub [1, 2, 0] rfl hf
def fM_print_321 (N d : Nat) (h : sm_H) (Q : Option Value → sm_H → Prop) (x0 : Nat) (x2 : Int32) (x3 : Int32) (y0 : Int32) (y1 : Int32) (y2 : Nat) : Prop := ∃ h1, sm_pi h y2 y1 y0 = some h1 ∧ sm_V N d mm_M_writeLow 5 x0 [.long 0, .int 4] h1 (fun r3 h2 => r3 = none ∧ ∃ z4 : Int32, sm_g h2 x0 5 20 = some (.int z4) ∧ (((x2 + 1) ≤ z4 → ∃ z5 : Int32, sm_g h2 x0 5 20 = some (.int z5) ∧ sm_W N (d + 1) mm_M_print 348 [(0, .ref x0), (2, .int (x2 + 1)), (3, .int x3)] [.int z5, .ref x0] h2 Q) ∧ (¬ (x2 + 1) ≤ z4 → sm_W N (d + 1) mm_M_print 348 [(0, .ref x0), (2, .int (x2 + 1)), (3, .int x3)] [.int (x2 + 1), .ref x0] h2 Q)))
set_option maxRecDepth 20000 in
set_option maxHeartbeats 4000000 in
theorem kM_print_321 {N d : Nat} {h : sm_H} {Q : Option Value → sm_H → Prop} {x0 : Nat} {x2 : Int32} {x3 : Int32} {y0 : Int32} {y1 : Int32} {y2 : Nat} (hf : fM_print_321 N d h Q x0 x2 x3 y0 y1 y2) : sm_W N (d + 1) mm_M_print 321 [(0, .ref x0), (2, .int x2), (3, .int x3)] [.int y0, .int y1, .ref y2] h Q := by
  unfold fM_print_321 at hf
  obtain ⟨h1, eh1, hf⟩ := hf
  refine sm_iast 322 (by decide +kernel) eh1 rfl ?_
  refine sm_aload_n (k := 0) 323 0 (by decide +kernel) rfl rfl rfl ?_
  refine sm_lconst (i := 0) (x := 0) 324 (by decide +kernel) rfl rfl ?_
  refine sm_iconst (i := 4) (x := 4) 325 (by decide +kernel) rfl rfl ?_
  refine sm_callV (M2 := mm_M_writeLow) (av := [.long 0, .int 4]) (rest := []) 328 (by decide +kernel) ml_M_160 (Nat.le_refl _) rfl rfl (by first | exact Nat.le_of_ble_eq_true rfl | simp [sm_rfc, Value.category]) rfl hf ?_
  rintro r3 h2 ⟨rfl, hf⟩
  change sm_W N (d + 1) mm_M_print 328 [(0, .ref x0), (2, .int x2), (3, .int x3)] [] h2 Q
  refine sm_iinc (i := 2) (j := 1) (z := 1) (y := x2 + 1) 331 [(2, .int (x2 + 1)), (0, .ref x0), (3, .int x3)] (by decide +kernel) rfl (by rfl) (by decide) rfl rfl ?_
  refine sm_aload_n (k := 0) 332 1 (by decide +kernel) rfl rfl rfl ?_
  refine sm_iload_n (k := 2) 333 0 (by decide +kernel) rfl rfl rfl ?_
  refine sm_aload_n (k := 0) 334 1 (by decide +kernel) rfl rfl rfl ?_
  obtain ⟨z4, ez4, hf⟩ := hf
  refine sm_get 337 (by decide +kernel) fl_M_157 ez4 rfl ?_
  refine sm_icmp_le (off := 7) 340 344 (by decide +kernel) (by decide) rfl (fun q6 => ?_) (fun q6 => ?_)
  · have hf := hf.1 q6
    refine sm_aload_n (k := 0) 345 1 (by decide +kernel) rfl rfl rfl ?_
    obtain ⟨z5, ez5, hf⟩ := hf
    refine sm_get 348 (by decide +kernel) fl_M_157 ez5 rfl ?_
    exact sm_sub [1, 0, 2] rfl hf
  · have hf := hf.2 q6
    refine sm_iload_n (k := 2) 341 0 (by decide +kernel) rfl rfl rfl ?_
    refine sm_goto (off := 7) 348 (by decide +kernel) (by decide) ?_
    exact sm_sub [1, 0, 2] rfl hf
def fM_print_348 (N d : Nat) (h : sm_H) (Q : Option Value → sm_H → Prop) (x0 : Nat) (x2 : Int32) (x3 : Int32) (y0 : Int32) (y1 : Nat) : Prop := ∃ h1, sm_p h y1 5 20 (.int y0) = some h1 ∧ sm_W N (d + 1) mm_M_print 360 [(0, .ref x0), (2, .int x2), (3, .int x3)] [] h1 Q
set_option maxRecDepth 20000 in
set_option maxHeartbeats 4000000 in
theorem kM_print_348 {N d : Nat} {h : sm_H} {Q : Option Value → sm_H → Prop} {x0 : Nat} {x2 : Int32} {x3 : Int32} {y0 : Int32} {y1 : Nat} (hf : fM_print_348 N d h Q x0 x2 x3 y0 y1) : sm_W N (d + 1) mm_M_print 348 [(0, .ref x0), (2, .int x2), (3, .int x3)] [.int y0, .ref y1] h Q := by
  unfold fM_print_348 at hf
  obtain ⟨h1, eh1, hf⟩ := hf
  refine sm_put (ty := .int) 351 (by decide +kernel) fp_M_157 (fun _ => rfl) rfl rfl eh1 rfl ?_
  refine sm_goto (off := 9) 360 (by decide +kernel) (by decide) ?_
  exact sm_sub [0, 1, 2] rfl hf
def fM_print_360 (N d : Nat) (h : sm_H) (Q : Option Value → sm_H → Prop) (x0 : Nat) (x2 : Int32) (x3 : Int32) : Prop := sm_W N (d + 1) mm_M_print 46 [(0, .ref x0), (2, .int x2), (3, .int x3)] [] h Q
set_option maxRecDepth 20000 in
set_option maxHeartbeats 4000000 in
theorem kM_print_360 {N d : Nat} {h : sm_H} {Q : Option Value → sm_H → Prop} {x0 : Nat} {x2 : Int32} {x3 : Int32} (hf : fM_print_360 N d h Q x0 x2 x3) : sm_W N (d + 1) mm_M_print 360 [(0, .ref x0), (2, .int x2), (3, .int x3)] [] h Q := by
  unfold fM_print_360 at hf
  refine sm_goto (off := -314) 46 (by decide +kernel) (by decide) ?_
  exact sm_sub [0, 1, 2] rfl hf
theorem cM_print {N d : Nat} {h : sm_H} {Q : Option Value → sm_H → Prop} {x0 : Nat} {x1 : Int32} (hb : ∃ fs, h[x0]? = some (.inr (5, fs))) (hf : fM_print_0 N d h Q x0 x1) : sm_V N (d + 1) mm_M_print 5 x0 [.int x1] h Q := ⟨hb, sm_meth (by decide +kernel) (fun _ => Nat.le_of_ble_eq_true rfl) (fun _ => rfl) (kM_print_0 hf)⟩
def fM_writeValue_0 (N d : Nat) (h : sm_H) (Q : Option Value → sm_H → Prop) (x0 : Nat) (x1 : Int32) : Prop := ∃ z1 : Nat, sm_g h x0 5 7 = some (.ref z1) ∧ ∃ z2 : Int32, sm_gi h z1 1 x1 = some z2 ∧ ((z2 = 16 → sm_W N (d + 1) mm_M_writeValue 25 [(0, .ref x0), (1, .int x1), (2, .int z2)] [] h Q) ∧ (¬ z2 = 16 → ((z2 = 18 → sm_W N (d + 1) mm_M_writeValue 25 [(0, .ref x0), (1, .int x1), (2, .int z2)] [] h Q) ∧ (¬ z2 = 18 → ((z2 = 8 → sm_W N (d + 1) mm_M_writeValue 25 [(0, .ref x0), (1, .int x1), (2, .int z2)] [] h Q) ∧ (¬ z2 = 8 → sm_W N (d + 1) mm_M_writeValue 57 [(0, .ref x0), (1, .int x1), (2, .int z2)] [] h Q))))))
set_option maxRecDepth 20000 in
set_option maxHeartbeats 4000000 in
theorem kM_writeValue_0 {N d : Nat} {h : sm_H} {Q : Option Value → sm_H → Prop} {x0 : Nat} {x1 : Int32} (hf : fM_writeValue_0 N d h Q x0 x1) : sm_W N (d + 1) mm_M_writeValue 0 [(0, .ref x0), (1, .int x1)] [] h Q := by
  unfold fM_writeValue_0 at hf
  refine sm_aload_n (k := 0) 1 0 (by decide +kernel) rfl rfl rfl ?_
  obtain ⟨z1, ez1, hf⟩ := hf
  refine sm_get 4 (by decide +kernel) fl_M_20 ez1 rfl ?_
  refine sm_iload_n (k := 1) 5 1 (by decide +kernel) rfl rfl rfl ?_
  obtain ⟨z2, ez2, hf⟩ := hf
  refine sm_iald 6 (by decide +kernel) ez2 rfl ?_
  refine sm_istore_n (k := 2) 7 [(2, .int z2), (0, .ref x0), (1, .int x1)] (by decide +kernel) rfl (by decide) (by first | rfl | simp [sm_rfc]) rfl ?_
  refine sm_iload_n (k := 2) 8 0 (by decide +kernel) rfl rfl rfl ?_
  refine sm_bipush (i := 16) (x := 16) 10 (by decide +kernel) (by decide) rfl ?_
  refine sm_icmp_eq (off := 15) 13 25 (by decide +kernel) (by decide) rfl (fun q5 => ?_) (fun q5 => ?_)
  · have hf := hf.1 q5
    exact sm_sub [1, 2, 0] rfl hf
  · have hf := hf.2 q5
    refine sm_iload_n (k := 2) 14 0 (by decide +kernel) rfl rfl rfl ?_
    refine sm_bipush (i := 18) (x := 18) 16 (by decide +kernel) (by decide) rfl ?_
    refine sm_icmp_eq (off := 9) 19 25 (by decide +kernel) (by decide) rfl (fun q4 => ?_) (fun q4 => ?_)
    · have hf := hf.1 q4
      exact sm_sub [1, 2, 0] rfl hf
    · have hf := hf.2 q4
      refine sm_iload_n (k := 2) 20 0 (by decide +kernel) rfl rfl rfl ?_
      refine sm_bipush (i := 8) (x := 8) 22 (by decide +kernel) (by decide) rfl ?_
      refine sm_icmp_ne (off := 35) 25 57 (by decide +kernel) (by decide) rfl (fun q3 => ?_) (fun q3 => ?_)
      · have hf := hf.2 q3
        exact sm_sub [1, 2, 0] rfl hf
      · have hf := hf.1 q3
        exact sm_sub [1, 2, 0] rfl hf
def fM_writeValue_25 (N d : Nat) (h : sm_H) (Q : Option Value → sm_H → Prop) (x0 : Nat) (x1 : Int32) (x2 : Int32) : Prop := ∃ z1 : Nat, sm_g h x0 5 10 = some (.ref z1) ∧ ∃ z2 : Int64, sm_gl h z1 2 x1 = some z2 ∧ ((x2 = 16 → sm_W N (d + 1) mm_M_writeValue 54 [(0, .ref x0), (1, .int x1), (2, .int x2)] [.int 4, .long z2, .ref x0] h Q) ∧ (¬ x2 = 16 → ((x2 = 18 → sm_W N (d + 1) mm_M_writeValue 54 [(0, .ref x0), (1, .int x1), (2, .int x2)] [.int 8, .long z2, .ref x0] h Q) ∧ (¬ x2 = 18 → sm_W N (d + 1) mm_M_writeValue 54 [(0, .ref x0), (1, .int x1), (2, .int x2)] [.int 1, .long z2, .ref x0] h Q))))
set_option maxRecDepth 20000 in
set_option maxHeartbeats 4000000 in
theorem kM_writeValue_25 {N d : Nat} {h : sm_H} {Q : Option Value → sm_H → Prop} {x0 : Nat} {x1 : Int32} {x2 : Int32} (hf : fM_writeValue_25 N d h Q x0 x1 x2) : sm_W N (d + 1) mm_M_writeValue 25 [(0, .ref x0), (1, .int x1), (2, .int x2)] [] h Q := by
  unfold fM_writeValue_25 at hf
  refine sm_aload_n (k := 0) 26 0 (by decide +kernel) rfl rfl rfl ?_
  refine sm_aload_n (k := 0) 27 0 (by decide +kernel) rfl rfl rfl ?_
  obtain ⟨z1, ez1, hf⟩ := hf
  refine sm_get 30 (by decide +kernel) fl_M_30 ez1 rfl ?_
  refine sm_iload_n (k := 1) 31 1 (by decide +kernel) rfl rfl rfl ?_
  obtain ⟨z2, ez2, hf⟩ := hf
  refine sm_lald 32 (by decide +kernel) ez2 rfl ?_
  refine sm_iload_n (k := 2) 33 2 (by decide +kernel) rfl rfl rfl ?_
  refine sm_bipush (i := 16) (x := 16) 35 (by decide +kernel) (by decide) rfl ?_
  refine sm_icmp_ne (off := 7) 38 42 (by decide +kernel) (by decide) rfl (fun q4 => ?_) (fun q4 => ?_)
  · have hf := hf.2 q4
    refine sm_iload_n (k := 2) 43 2 (by decide +kernel) rfl rfl rfl ?_
    refine sm_bipush (i := 18) (x := 18) 45 (by decide +kernel) (by decide) rfl ?_
    refine sm_icmp_ne (off := 8) 48 53 (by decide +kernel) (by decide) rfl (fun q3 => ?_) (fun q3 => ?_)
    · have hf := hf.2 q3
      refine sm_iconst (i := 1) (x := 1) 54 (by decide +kernel) rfl rfl ?_
      exact sm_sub [0, 1, 2] rfl hf
    · have hf := hf.1 q3
      refine sm_bipush (i := 8) (x := 8) 50 (by decide +kernel) (by decide) rfl ?_
      refine sm_goto (off := 4) 54 (by decide +kernel) (by decide) ?_
      exact sm_sub [0, 1, 2] rfl hf
  · have hf := hf.1 q4
    refine sm_iconst (i := 4) (x := 4) 39 (by decide +kernel) rfl rfl ?_
    refine sm_goto (off := 15) 54 (by decide +kernel) (by decide) ?_
    exact sm_sub [0, 1, 2] rfl hf
def fM_writeValue_54 (N d : Nat) (h : sm_H) (Q : Option Value → sm_H → Prop) (x0 : Nat) (x1 : Int32) (x2 : Int32) (y0 : Int32) (y1 : Int64) (y2 : Nat) : Prop := sm_V N d mm_M_writeLow 5 y2 [.long y1, .int y0] h (fun r2 h1 => r2 = none ∧ sm_W N (d + 1) mm_M_writeValue 57 [(0, .ref x0), (1, .int x1), (2, .int x2)] [] h1 Q)
set_option maxRecDepth 20000 in
set_option maxHeartbeats 4000000 in
theorem kM_writeValue_54 {N d : Nat} {h : sm_H} {Q : Option Value → sm_H → Prop} {x0 : Nat} {x1 : Int32} {x2 : Int32} {y0 : Int32} {y1 : Int64} {y2 : Nat} (hf : fM_writeValue_54 N d h Q x0 x1 x2 y0 y1 y2) : sm_W N (d + 1) mm_M_writeValue 54 [(0, .ref x0), (1, .int x1), (2, .int x2)] [.int y0, .long y1, .ref y2] h Q := by
  unfold fM_writeValue_54 at hf
  refine sm_callV (M2 := mm_M_writeLow) (av := [.long y1, .int y0]) (rest := []) 57 (by decide +kernel) ml_M_160 (Nat.le_refl _) rfl rfl (by first | exact Nat.le_of_ble_eq_true rfl | simp [sm_rfc, Value.category]) rfl hf ?_
  rintro r2 h1 ⟨rfl, hf⟩
  change sm_W N (d + 1) mm_M_writeValue 57 [(0, .ref x0), (1, .int x1), (2, .int x2)] [] h1 Q
  exact sm_sub [0, 1, 2] rfl hf
def fM_writeValue_57 (N d : Nat) (h : sm_H) (Q : Option Value → sm_H → Prop) (x0 : Nat) (x1 : Int32) (x2 : Int32) : Prop := ((x2 = 2 → ∃ z1 : Nat, sm_g h x0 5 12 = some (.ref z1) ∧ ∃ z2 : Int32, sm_gi h z1 1 x1 = some z2 ∧ sm_V N d mm_M_writeLow 5 x0 [.long ((Int32.toInt64 z2) + 1), .int 4] h (fun r4 h3 => r4 = none ∧ ∃ z5 : Nat, sm_g h3 x0 5 11 = some (.ref z5) ∧ ∃ z6 : Int32, sm_gi h3 z5 1 x1 = some z6 ∧ ∃ z7 : Nat, sm_g h3 x0 5 12 = some (.ref z7) ∧ ∃ z8 : Int32, sm_gi h3 z7 1 x1 = some z8 ∧ sm_V N d mm_M_writeBytes 5 x0 [.int z6, .int z8] h3 (fun r10 h9 => r10 = none ∧ sm_V N d mm_M_write 5 x0 [.int 0] h9 (fun r12 h11 => r12 = none ∧ Q none h11)))) ∧ (¬ x2 = 2 → Q none h))
set_option maxRecDepth 20000 in
set_option maxHeartbeats 4000000 in
theorem kM_writeValue_57 {N d : Nat} {h : sm_H} {Q : Option Value → sm_H → Prop} {x0 : Nat} {x1 : Int32} {x2 : Int32} (hf : fM_writeValue_57 N d h Q x0 x1 x2) : sm_W N (d + 1) mm_M_writeValue 57 [(0, .ref x0), (1, .int x1), (2, .int x2)] [] h Q := by
  unfold fM_writeValue_57 at hf
  refine sm_iload_n (k := 2) 58 2 (by decide +kernel) rfl rfl rfl ?_
  refine sm_iconst (i := 2) (x := 2) 59 (by decide +kernel) rfl rfl ?_
  refine sm_icmp_eq (off := 4) 62 63 (by decide +kernel) (by decide) rfl (fun q13 => ?_) (fun q13 => ?_)
  · have hf := hf.1 q13
    refine sm_aload_n (k := 0) 64 0 (by decide +kernel) rfl rfl rfl ?_
    refine sm_aload_n (k := 0) 65 0 (by decide +kernel) rfl rfl rfl ?_
    obtain ⟨z1, ez1, hf⟩ := hf
    refine sm_get 68 (by decide +kernel) fl_M_37 ez1 rfl ?_
    refine sm_iload_n (k := 1) 69 1 (by decide +kernel) rfl rfl rfl ?_
    obtain ⟨z2, ez2, hf⟩ := hf
    refine sm_iald 70 (by decide +kernel) ez2 rfl ?_
    refine sm_i2l 71 (by decide +kernel) rfl ?_
    refine sm_lconst (i := 1) (x := 1) 72 (by decide +kernel) rfl rfl ?_
    refine sm_ladd 73 (by decide +kernel) rfl ?_
    refine sm_iconst (i := 4) (x := 4) 74 (by decide +kernel) rfl rfl ?_
    refine sm_callV (M2 := mm_M_writeLow) (av := [.long ((Int32.toInt64 z2) + 1), .int 4]) (rest := []) 77 (by decide +kernel) ml_M_160 (Nat.le_refl _) rfl rfl (by first | exact Nat.le_of_ble_eq_true rfl | simp [sm_rfc, Value.category]) rfl hf ?_
    rintro r4 h3 ⟨rfl, hf⟩
    change sm_W N (d + 1) mm_M_writeValue 77 [(0, .ref x0), (1, .int x1), (2, .int x2)] [] h3 Q
    refine sm_aload_n (k := 0) 78 0 (by decide +kernel) rfl rfl rfl ?_
    refine sm_aload_n (k := 0) 79 0 (by decide +kernel) rfl rfl rfl ?_
    obtain ⟨z5, ez5, hf⟩ := hf
    refine sm_get 82 (by decide +kernel) fl_M_34 ez5 rfl ?_
    refine sm_iload_n (k := 1) 83 1 (by decide +kernel) rfl rfl rfl ?_
    obtain ⟨z6, ez6, hf⟩ := hf
    refine sm_iald 84 (by decide +kernel) ez6 rfl ?_
    refine sm_aload_n (k := 0) 85 0 (by decide +kernel) rfl rfl rfl ?_
    obtain ⟨z7, ez7, hf⟩ := hf
    refine sm_get 88 (by decide +kernel) fl_M_37 ez7 rfl ?_
    refine sm_iload_n (k := 1) 89 1 (by decide +kernel) rfl rfl rfl ?_
    obtain ⟨z8, ez8, hf⟩ := hf
    refine sm_iald 90 (by decide +kernel) ez8 rfl ?_
    refine sm_callV (M2 := mm_M_writeBytes) (av := [.int z6, .int z8]) (rest := []) 93 (by decide +kernel) ml_M_167 (Nat.le_refl _) rfl rfl (by first | exact Nat.le_of_ble_eq_true rfl | simp [sm_rfc, Value.category]) rfl hf ?_
    rintro r10 h9 ⟨rfl, hf⟩
    change sm_W N (d + 1) mm_M_writeValue 93 [(0, .ref x0), (1, .int x1), (2, .int x2)] [] h9 Q
    refine sm_aload_n (k := 0) 94 0 (by decide +kernel) rfl rfl rfl ?_
    refine sm_iconst (i := 0) (x := 0) 95 (by decide +kernel) rfl rfl ?_
    refine sm_callV (M2 := mm_M_write) (av := [.int 0]) (rest := []) 98 (by decide +kernel) ml_M_154 (Nat.le_refl _) rfl rfl (by first | exact Nat.le_of_ble_eq_true rfl | simp [sm_rfc, Value.category]) rfl hf ?_
    rintro r12 h11 ⟨rfl, hf⟩
    change sm_W N (d + 1) mm_M_writeValue 98 [(0, .ref x0), (1, .int x1), (2, .int x2)] [] h11 Q
    exact sm_vret rfl (by decide +kernel) hf
  · have hf := hf.2 q13
    exact sm_vret rfl (by decide +kernel) hf
theorem cM_writeValue {N d : Nat} {h : sm_H} {Q : Option Value → sm_H → Prop} {x0 : Nat} {x1 : Int32} (hb : ∃ fs, h[x0]? = some (.inr (5, fs))) (hf : fM_writeValue_0 N d h Q x0 x1) : sm_V N (d + 1) mm_M_writeValue 5 x0 [.int x1] h Q := ⟨hb, sm_meth (by decide +kernel) (fun _ => Nat.le_of_ble_eq_true rfl) (fun _ => rfl) (kM_writeValue_0 hf)⟩
def fM_classOf_0 (N d : Nat) (h : sm_H) (Q : Option Value → sm_H → Prop) (x0 : Int32) : Prop := ((x0 = 18 → Q (some (.int 16)) h) ∧ (¬ x0 = 18 → Q (some (.int x0)) h))
set_option maxRecDepth 20000 in
set_option maxHeartbeats 4000000 in
theorem kM_classOf_0 {N d : Nat} {h : sm_H} {Q : Option Value → sm_H → Prop} {x0 : Int32} (hf : fM_classOf_0 N d h Q x0) : sm_W N (d + 1) mm_M_classOf 0 [(0, .int x0)] [] h Q := by
  unfold fM_classOf_0 at hf
  refine sm_iload_n (k := 0) 1 0 (by decide +kernel) rfl rfl rfl ?_
  refine sm_bipush (i := 18) (x := 18) 3 (by decide +kernel) (by decide) rfl ?_
  refine sm_icmp_ne (off := 8) 6 11 (by decide +kernel) (by decide) rfl (fun q1 => ?_) (fun q1 => ?_)
  · have hf := hf.2 q1
    refine sm_iload_n (k := 0) 12 0 (by decide +kernel) rfl rfl rfl ?_
    exact sm_iret rfl (by decide +kernel) hf
  · have hf := hf.1 q1
    refine sm_bipush (i := 16) (x := 16) 8 (by decide +kernel) (by decide) rfl ?_
    refine sm_goto (off := 4) 12 (by decide +kernel) (by decide) ?_
    exact sm_iret rfl (by decide +kernel) hf
theorem cM_classOf {N d : Nat} {h : sm_H} {Q : Option Value → sm_H → Prop} {x0 : Int32} (hf : fM_classOf_0 N d h Q x0) : sm_T N (d + 1) mm_M_classOf [.int x0] h Q := sm_meth (by decide +kernel) (fun _ => Nat.le_of_ble_eq_true rfl) (fun _ => rfl) (kM_classOf_0 hf)
