def fP_study_0 (N d : Nat) (h : sm_H) (Q : Option Value → sm_H → Prop) (x0 : Nat) : Prop := ∃ h1, sm_p h x0 3 5 (.int 0) = some h1 ∧ ∃ z2 : Nat, sm_g h1 x0 3 0 = some (.ref z2) ∧ sm_V N d mm_B_lastOf 0 z2 [.int 0] h1 (fun r4 h3 => ∃ z5 : Int32, r4 = some (.int z5) ∧ sm_W N (d + 1) mm_P_study 18 [(0, .ref x0), (1, .int z5), (2, .int 4), (3, .int 0)] [] h3 Q)
set_option maxRecDepth 20000 in
set_option maxHeartbeats 4000000 in
theorem kP_study_0 {N d : Nat} {h : sm_H} {Q : Option Value → sm_H → Prop} {x0 : Nat} (hf : fP_study_0 N d h Q x0) : sm_W N (d + 1) mm_P_study 0 [(0, .ref x0)] [] h Q := by
  unfold fP_study_0 at hf
  refine sm_aload_n (k := 0) 1 0 (by decide +kernel) rfl rfl rfl ?_
  refine sm_iconst (i := 0) (x := 0) 2 (by decide +kernel) rfl rfl ?_
  obtain ⟨h1, eh1, hf⟩ := hf
  refine sm_put (ty := .int) 5 (by decide +kernel) fp_P_33 (fun _ => rfl) rfl rfl eh1 rfl ?_
  refine sm_aload_n (k := 0) 6 0 (by decide +kernel) rfl rfl rfl ?_
  obtain ⟨z2, ez2, hf⟩ := hf
  refine sm_get 9 (by decide +kernel) fl_P_14 ez2 rfl ?_
  refine sm_iconst (i := 0) (x := 0) 10 (by decide +kernel) rfl rfl ?_
  refine sm_callV (M2 := mm_B_lastOf) (av := [.int 0]) (rest := []) 13 (by decide +kernel) ml_P_43 (Nat.le_refl _) rfl rfl (by first | exact Nat.le_of_ble_eq_true rfl | simp [sm_rfc, Value.category]) rfl hf ?_
  rintro r4 h3 ⟨z5, rfl, hf⟩
  change sm_W N (d + 1) mm_P_study 13 [(0, .ref x0)] [.int z5] h3 Q
  refine sm_istore_n (k := 1) 14 [(1, .int z5), (0, .ref x0)] (by decide +kernel) rfl (by decide) (by first | rfl | simp [sm_rfc]) rfl ?_
  refine sm_iconst (i := 4) (x := 4) 15 (by decide +kernel) rfl rfl ?_
  refine sm_istore_n (k := 2) 16 [(2, .int 4), (1, .int z5), (0, .ref x0)] (by decide +kernel) rfl (by decide) (by first | rfl | simp [sm_rfc]) rfl ?_
  refine sm_iconst (i := 0) (x := 0) 17 (by decide +kernel) rfl rfl ?_
  refine sm_istore_n (k := 3) 18 [(3, .int 0), (2, .int 4), (1, .int z5), (0, .ref x0)] (by decide +kernel) rfl (by decide) (by first | rfl | simp [sm_rfc]) rfl ?_
  exact sm_sub [3, 2, 1, 0] rfl hf
def fP_study_18 (N d : Nat) (h : sm_H) (Q : Option Value → sm_H → Prop) (x0 : Nat) (x1 : Int32) (x2 : Int32) (x3 : Int32) : Prop := ((1000 ≤ x3 → Q (some (.int 0)) h) ∧ (¬ 1000 ≤ x3 → ((x1 ≤ x2 → Q (some (.int 0)) h) ∧ (¬ x1 ≤ x2 → ∃ h1, sm_p h x0 3 6 (.int x3) = some h1 ∧ ∃ h2, sm_p h1 x0 3 7 (.int (-1)) = some h2 ∧ sm_V N d mm_P_studyOperator 3 x0 [.int x2] h2 (fun r4 h3 => ∃ z5 : Int32, r4 = some (.int z5) ∧ ((z5 = 0 → ∃ z6 : Nat, sm_g h3 x0 3 0 = some (.ref z6) ∧ sm_V N d mm_B_valueEnd 0 z6 [.int x2] h3 (fun r8 h7 => ∃ z9 : Int32, r8 = some (.int z9) ∧ sm_W N (d + 1) mm_P_study 18 [(0, .ref x0), (1, .int x1), (2, .int z9), (3, .int (x3 + 1))] [] h7 Q)) ∧ (¬ z5 = 0 → Q (some (.int z5)) h3)))))))
set_option maxRecDepth 20000 in
set_option maxHeartbeats 4000000 in
theorem kP_study_18 {N d : Nat} {h : sm_H} {Q : Option Value → sm_H → Prop} {x0 : Nat} {x1 : Int32} {x2 : Int32} {x3 : Int32} (hf : fP_study_18 N d h Q x0 x1 x2 x3) : sm_W N (d + 1) mm_P_study 18 [(0, .ref x0), (1, .int x1), (2, .int x2), (3, .int x3)] [] h Q := by
  unfold fP_study_18 at hf
  refine sm_iload_n (k := 3) 19 3 (by decide +kernel) rfl rfl rfl ?_
  refine sm_sipush (i := 1000) (x := 1000) 22 (by decide +kernel) (by decide) rfl ?_
  refine sm_icmp_ge (off := 48) 25 70 (by decide +kernel) (by decide) rfl (fun q12 => ?_) (fun q12 => ?_)
  · have hf := hf.1 q12
    refine sm_iconst (i := 0) (x := 0) 71 (by decide +kernel) rfl rfl ?_
    exact sm_iret rfl (by decide +kernel) hf
  · have hf := hf.2 q12
    refine sm_iload_n (k := 2) 26 2 (by decide +kernel) rfl rfl rfl ?_
    refine sm_iload_n (k := 1) 27 1 (by decide +kernel) rfl rfl rfl ?_
    refine sm_icmp_ge (off := 43) 30 70 (by decide +kernel) (by decide) rfl (fun q11 => ?_) (fun q11 => ?_)
    · have hf := hf.1 q11
      refine sm_iconst (i := 0) (x := 0) 71 (by decide +kernel) rfl rfl ?_
      exact sm_iret rfl (by decide +kernel) hf
    · have hf := hf.2 q11
      refine sm_aload_n (k := 0) 31 0 (by decide +kernel) rfl rfl rfl ?_
      refine sm_iload_n (k := 3) 32 3 (by decide +kernel) rfl rfl rfl ?_
      obtain ⟨h1, eh1, hf⟩ := hf
      refine sm_put (ty := .int) 35 (by decide +kernel) fp_P_37 (fun _ => rfl) rfl rfl eh1 rfl ?_
      refine sm_aload_n (k := 0) 36 0 (by decide +kernel) rfl rfl rfl ?_
      refine sm_iconst (i := -1) (x := (-1)) 37 (by decide +kernel) rfl rfl ?_
      obtain ⟨h2, eh2, hf⟩ := hf
      refine sm_put (ty := .int) 40 (by decide +kernel) fp_P_40 (fun _ => rfl) rfl rfl eh2 rfl ?_
      refine sm_aload_n (k := 0) 41 0 (by decide +kernel) rfl rfl rfl ?_
      refine sm_iload_n (k := 2) 42 2 (by decide +kernel) rfl rfl rfl ?_
      refine sm_callV (M2 := mm_P_studyOperator) (av := [.int x2]) (rest := []) 45 (by decide +kernel) ml_P_47 (Nat.le_refl _) rfl rfl (by first | exact Nat.le_of_ble_eq_true rfl | simp [sm_rfc, Value.category]) rfl hf ?_
      rintro r4 h3 ⟨z5, rfl, hf⟩
      change sm_W N (d + 1) mm_P_study 45 [(0, .ref x0), (1, .int x1), (2, .int x2), (3, .int x3)] [.int z5] h3 Q
      refine sm_istore (i := 4) 47 [(4, .int z5), (0, .ref x0), (1, .int x1), (2, .int x2), (3, .int x3)] (by decide +kernel) (by decide) (by first | rfl | simp [sm_rfc]) rfl ?_
      refine sm_iload (i := 4) 49 0 (by decide +kernel) rfl rfl ?_
      refine sm_if_eq (off := 6) 52 55 (by decide +kernel) (by decide) rfl (fun q10 => ?_) (fun q10 => ?_)
      · have hf := hf.1 q10
        refine sm_aload_n (k := 0) 56 1 (by decide +kernel) rfl rfl rfl ?_
        obtain ⟨z6, ez6, hf⟩ := hf
        refine sm_get 59 (by decide +kernel) fl_P_14 ez6 rfl ?_
        refine sm_iload_n (k := 2) 60 3 (by decide +kernel) rfl rfl rfl ?_
        refine sm_callV (M2 := mm_B_valueEnd) (av := [.int x2]) (rest := []) 63 (by decide +kernel) ml_P_50 (Nat.le_refl _) rfl rfl (by first | exact Nat.le_of_ble_eq_true rfl | simp [sm_rfc, Value.category]) rfl hf ?_
        rintro r8 h7 ⟨z9, rfl, hf⟩
        change sm_W N (d + 1) mm_P_study 63 [(4, .int z5), (0, .ref x0), (1, .int x1), (2, .int x2), (3, .int x3)] [.int z9] h7 Q
        refine sm_istore_n (k := 2) 64 [(2, .int z9), (4, .int z5), (0, .ref x0), (1, .int x1), (3, .int x3)] (by decide +kernel) rfl (by decide) (by first | rfl | simp [sm_rfc]) rfl ?_
        refine sm_iinc (i := 3) (j := 4) (z := 1) (y := x3 + 1) 67 [(3, .int (x3 + 1)), (2, .int z9), (4, .int z5), (0, .ref x0), (1, .int x1)] (by decide +kernel) rfl (by rfl) (by decide) rfl rfl ?_
        refine sm_goto (off := -49) 18 (by decide +kernel) (by decide) ?_
        exact sm_sub [3, 4, 1, 0] rfl hf
      · have hf := hf.2 q10
        refine sm_iload (i := 4) 54 0 (by decide +kernel) rfl rfl ?_
        exact sm_iret rfl (by decide +kernel) hf
theorem cP_study {N d : Nat} {h : sm_H} {Q : Option Value → sm_H → Prop} {x0 : Nat} (hb : ∃ fs, h[x0]? = some (.inr (3, fs))) (hf : fP_study_0 N d h Q x0) : sm_V N (d + 1) mm_P_study 3 x0 [] h Q := ⟨hb, sm_meth (by decide +kernel) (fun _ => Nat.le_of_ble_eq_true rfl) (fun _ => rfl) (kP_study_0 hf)⟩
def fP_studyOperator_0 (N d : Nat) (h : sm_H) (Q : Option Value → sm_H → Prop) (x0 : Nat) (x1 : Int32) : Prop := sm_V N d mm_P_codeOf 3 x0 [.int (x1 + 1)] h (fun r2 h1 => ∃ z3 : Int32, r2 = some (.int z3) ∧ ((z3 = (-1) → Q (some (.int 1)) h1) ∧ (¬ z3 = (-1) → ∃ z4 : Nat, sm_g h1 x0 3 0 = some (.ref z4) ∧ sm_V N d mm_B_at 0 z4 [.int x1] h1 (fun r6 h5 => ∃ z7 : Int32, r6 = some (.int z7) ∧ ((z7 = 3 → ∃ z8 : Nat, sm_g h5 x0 3 0 = some (.ref z8) ∧ sm_V N d mm_B_valueStart 0 z8 [.int x1] h5 (fun r10 h9 => ∃ z11 : Int32, r10 = some (.int z11) ∧ ∃ z12 : Nat, sm_g h9 x0 3 0 = some (.ref z12) ∧ sm_V N d mm_B_lastOf 0 z12 [.int z11] h9 (fun r14 h13 => ∃ z15 : Int32, r14 = some (.int z15) ∧ sm_W N (d + 1) mm_P_studyOperator 56 [(0, .ref x0), (2, .int z3), (4, .int z15), (5, .int (z11 + 4)), (6, .int 0)] [] h13 Q))) ∧ (¬ z7 = 3 → Q (some (.int 2)) h5))))))
set_option maxRecDepth 20000 in
set_option maxHeartbeats 4000000 in
theorem kP_studyOperator_0 {N d : Nat} {h : sm_H} {Q : Option Value → sm_H → Prop} {x0 : Nat} {x1 : Int32} (hf : fP_studyOperator_0 N d h Q x0 x1) : sm_W N (d + 1) mm_P_studyOperator 0 [(0, .ref x0), (1, .int x1)] [] h Q := by
  unfold fP_studyOperator_0 at hf
  refine sm_aload_n (k := 0) 1 0 (by decide +kernel) rfl rfl rfl ?_
  refine sm_iload_n (k := 1) 2 1 (by decide +kernel) rfl rfl rfl ?_
  refine sm_iconst (i := 1) (x := 1) 3 (by decide +kernel) rfl rfl ?_
  refine sm_iadd 4 (by decide +kernel) rfl ?_
  refine sm_callV (M2 := mm_P_codeOf) (av := [.int (x1 + 1)]) (rest := []) 7 (by decide +kernel) ml_P_53 (Nat.le_refl _) rfl rfl (by first | exact Nat.le_of_ble_eq_true rfl | simp [sm_rfc, Value.category]) rfl hf ?_
  rintro r2 h1 ⟨z3, rfl, hf⟩
  change sm_W N (d + 1) mm_P_studyOperator 7 [(0, .ref x0), (1, .int x1)] [.int z3] h1 Q
  refine sm_istore_n (k := 2) 8 [(2, .int z3), (0, .ref x0), (1, .int x1)] (by decide +kernel) rfl (by decide) (by first | rfl | simp [sm_rfc]) rfl ?_
  refine sm_iload_n (k := 2) 9 0 (by decide +kernel) rfl rfl rfl ?_
  refine sm_iconst (i := -1) (x := (-1)) 10 (by decide +kernel) rfl rfl ?_
  refine sm_icmp_ne (off := 5) 13 15 (by decide +kernel) (by decide) rfl (fun q17 => ?_) (fun q17 => ?_)
  · have hf := hf.2 q17
    refine sm_aload_n (k := 0) 16 1 (by decide +kernel) rfl rfl rfl ?_
    obtain ⟨z4, ez4, hf⟩ := hf
    refine sm_get 19 (by decide +kernel) fl_P_14 ez4 rfl ?_
    refine sm_iload_n (k := 1) 20 2 (by decide +kernel) rfl rfl rfl ?_
    refine sm_callV (M2 := mm_B_at) (av := [.int x1]) (rest := []) 23 (by decide +kernel) ml_P_56 (Nat.le_refl _) rfl rfl (by first | exact Nat.le_of_ble_eq_true rfl | simp [sm_rfc, Value.category]) rfl hf ?_
    rintro r6 h5 ⟨z7, rfl, hf⟩
    change sm_W N (d + 1) mm_P_studyOperator 23 [(2, .int z3), (0, .ref x0), (1, .int x1)] [.int z7] h5 Q
    refine sm_iconst (i := 3) (x := 3) 24 (by decide +kernel) rfl rfl ?_
    refine sm_icmp_eq (off := 5) 27 29 (by decide +kernel) (by decide) rfl (fun q16 => ?_) (fun q16 => ?_)
    · have hf := hf.1 q16
      refine sm_aload_n (k := 0) 30 1 (by decide +kernel) rfl rfl rfl ?_
      obtain ⟨z8, ez8, hf⟩ := hf
      refine sm_get 33 (by decide +kernel) fl_P_14 ez8 rfl ?_
      refine sm_iload_n (k := 1) 34 2 (by decide +kernel) rfl rfl rfl ?_
      refine sm_callV (M2 := mm_B_valueStart) (av := [.int x1]) (rest := []) 37 (by decide +kernel) ml_P_59 (Nat.le_refl _) rfl rfl (by first | exact Nat.le_of_ble_eq_true rfl | simp [sm_rfc, Value.category]) rfl hf ?_
      rintro r10 h9 ⟨z11, rfl, hf⟩
      change sm_W N (d + 1) mm_P_studyOperator 37 [(2, .int z3), (0, .ref x0), (1, .int x1)] [.int z11] h9 Q
      refine sm_istore_n (k := 3) 38 [(3, .int z11), (2, .int z3), (0, .ref x0), (1, .int x1)] (by decide +kernel) rfl (by decide) (by first | rfl | simp [sm_rfc]) rfl ?_
      refine sm_aload_n (k := 0) 39 2 (by decide +kernel) rfl rfl rfl ?_
      obtain ⟨z12, ez12, hf⟩ := hf
      refine sm_get 42 (by decide +kernel) fl_P_14 ez12 rfl ?_
      refine sm_iload_n (k := 3) 43 0 (by decide +kernel) rfl rfl rfl ?_
      refine sm_callV (M2 := mm_B_lastOf) (av := [.int z11]) (rest := []) 46 (by decide +kernel) ml_P_43 (Nat.le_refl _) rfl rfl (by first | exact Nat.le_of_ble_eq_true rfl | simp [sm_rfc, Value.category]) rfl hf ?_
      rintro r14 h13 ⟨z15, rfl, hf⟩
      change sm_W N (d + 1) mm_P_studyOperator 46 [(3, .int z11), (2, .int z3), (0, .ref x0), (1, .int x1)] [.int z15] h13 Q
      refine sm_istore (i := 4) 48 [(4, .int z15), (3, .int z11), (2, .int z3), (0, .ref x0), (1, .int x1)] (by decide +kernel) (by decide) (by first | rfl | simp [sm_rfc]) rfl ?_
      refine sm_iload_n (k := 3) 49 1 (by decide +kernel) rfl rfl rfl ?_
      refine sm_iconst (i := 4) (x := 4) 50 (by decide +kernel) rfl rfl ?_
      refine sm_iadd 51 (by decide +kernel) rfl ?_
      refine sm_istore (i := 5) 53 [(5, .int (z11 + 4)), (4, .int z15), (3, .int z11), (2, .int z3), (0, .ref x0), (1, .int x1)] (by decide +kernel) (by decide) (by first | rfl | simp [sm_rfc]) rfl ?_
      refine sm_iconst (i := 0) (x := 0) 54 (by decide +kernel) rfl rfl ?_
      refine sm_istore (i := 6) 56 [(6, .int 0), (5, .int (z11 + 4)), (4, .int z15), (3, .int z11), (2, .int z3), (0, .ref x0), (1, .int x1)] (by decide +kernel) (by decide) (by first | rfl | simp [sm_rfc]) rfl ?_
      exact sm_sub [5, 4, 2, 1, 0] rfl hf
    · have hf := hf.2 q16
      refine sm_iconst (i := 2) (x := 2) 28 (by decide +kernel) rfl rfl ?_
      exact sm_iret rfl (by decide +kernel) hf
  · have hf := hf.1 q17
    refine sm_iconst (i := 1) (x := 1) 14 (by decide +kernel) rfl rfl ?_
    exact sm_iret rfl (by decide +kernel) hf
def fP_studyOperator_56 (N d : Nat) (h : sm_H) (Q : Option Value → sm_H → Prop) (x0 : Nat) (x2 : Int32) (x4 : Int32) (x5 : Int32) (x6 : Int32) : Prop := ((1000 ≤ x6 → Q (some (.int 0)) h) ∧ (¬ 1000 ≤ x6 → ((x4 ≤ x5 → Q (some (.int 0)) h) ∧ (¬ x4 ≤ x5 → ∃ h1, sm_p h x0 3 7 (.int x6) = some h1 ∧ sm_V N d mm_P_studyPath 3 x0 [.int x5, .int x2] h1 (fun r3 h2 => ∃ z4 : Int32, r3 = some (.int z4) ∧ ((z4 = 0 → sm_V N d mm_P_enlist 3 x0 [.int x5, .int x2] h2 (fun r6 h5 => r6 = none ∧ ∃ z7 : Nat, sm_g h5 x0 3 0 = some (.ref z7) ∧ sm_V N d mm_B_valueEnd 0 z7 [.int x5] h5 (fun r9 h8 => ∃ z10 : Int32, r9 = some (.int z10) ∧ sm_W N (d + 1) mm_P_studyOperator 56 [(0, .ref x0), (2, .int x2), (4, .int x4), (5, .int z10), (6, .int (x6 + 1))] [] h8 Q))) ∧ (¬ z4 = 0 → Q (some (.int z4)) h2)))))))
set_option maxRecDepth 20000 in
set_option maxHeartbeats 4000000 in
theorem kP_studyOperator_56 {N d : Nat} {h : sm_H} {Q : Option Value → sm_H → Prop} {x0 : Nat} {x2 : Int32} {x4 : Int32} {x5 : Int32} {x6 : Int32} (hf : fP_studyOperator_56 N d h Q x0 x2 x4 x5 x6) : sm_W N (d + 1) mm_P_studyOperator 56 [(0, .ref x0), (2, .int x2), (4, .int x4), (5, .int x5), (6, .int x6)] [] h Q := by
  unfold fP_studyOperator_56 at hf
  refine sm_iload (i := 6) 58 4 (by decide +kernel) rfl rfl ?_
  refine sm_sipush (i := 1000) (x := 1000) 61 (by decide +kernel) (by decide) rfl ?_
  refine sm_icmp_ge (off := 57) 64 118 (by decide +kernel) (by decide) rfl (fun q13 => ?_) (fun q13 => ?_)
  · have hf := hf.1 q13
    refine sm_iconst (i := 0) (x := 0) 119 (by decide +kernel) rfl rfl ?_
    exact sm_iret rfl (by decide +kernel) hf
  · have hf := hf.2 q13
    refine sm_iload (i := 5) 66 3 (by decide +kernel) rfl rfl ?_
    refine sm_iload (i := 4) 68 2 (by decide +kernel) rfl rfl ?_
    refine sm_icmp_ge (off := 50) 71 118 (by decide +kernel) (by decide) rfl (fun q12 => ?_) (fun q12 => ?_)
    · have hf := hf.1 q12
      refine sm_iconst (i := 0) (x := 0) 119 (by decide +kernel) rfl rfl ?_
      exact sm_iret rfl (by decide +kernel) hf
    · have hf := hf.2 q12
      refine sm_aload_n (k := 0) 72 0 (by decide +kernel) rfl rfl rfl ?_
      refine sm_iload (i := 6) 74 4 (by decide +kernel) rfl rfl ?_
      obtain ⟨h1, eh1, hf⟩ := hf
      refine sm_put (ty := .int) 77 (by decide +kernel) fp_P_40 (fun _ => rfl) rfl rfl eh1 rfl ?_
      refine sm_aload_n (k := 0) 78 0 (by decide +kernel) rfl rfl rfl ?_
      refine sm_iload (i := 5) 80 3 (by decide +kernel) rfl rfl ?_
      refine sm_iload_n (k := 2) 81 1 (by decide +kernel) rfl rfl rfl ?_
      refine sm_callV (M2 := mm_P_studyPath) (av := [.int x5, .int x2]) (rest := []) 84 (by decide +kernel) ml_P_62 (Nat.le_refl _) rfl rfl (by first | exact Nat.le_of_ble_eq_true rfl | simp [sm_rfc, Value.category]) rfl hf ?_
      rintro r3 h2 ⟨z4, rfl, hf⟩
      change sm_W N (d + 1) mm_P_studyOperator 84 [(0, .ref x0), (2, .int x2), (4, .int x4), (5, .int x5), (6, .int x6)] [.int z4] h2 Q
      refine sm_istore (i := 7) 86 [(7, .int z4), (0, .ref x0), (2, .int x2), (4, .int x4), (5, .int x5), (6, .int x6)] (by decide +kernel) (by decide) (by first | rfl | simp [sm_rfc]) rfl ?_
      refine sm_iload (i := 7) 88 0 (by decide +kernel) rfl rfl ?_
      refine sm_if_eq (off := 6) 91 94 (by decide +kernel) (by decide) rfl (fun q11 => ?_) (fun q11 => ?_)
      · have hf := hf.1 q11
        refine sm_aload_n (k := 0) 95 1 (by decide +kernel) rfl rfl rfl ?_
        refine sm_iload (i := 5) 97 4 (by decide +kernel) rfl rfl ?_
        refine sm_iload_n (k := 2) 98 2 (by decide +kernel) rfl rfl rfl ?_
        refine sm_callV (M2 := mm_P_enlist) (av := [.int x5, .int x2]) (rest := []) 101 (by decide +kernel) ml_P_66 (Nat.le_refl _) rfl rfl (by first | exact Nat.le_of_ble_eq_true rfl | simp [sm_rfc, Value.category]) rfl hf ?_
        rintro r6 h5 ⟨rfl, hf⟩
        change sm_W N (d + 1) mm_P_studyOperator 101 [(7, .int z4), (0, .ref x0), (2, .int x2), (4, .int x4), (5, .int x5), (6, .int x6)] [] h5 Q
        refine sm_aload_n (k := 0) 102 1 (by decide +kernel) rfl rfl rfl ?_
        obtain ⟨z7, ez7, hf⟩ := hf
        refine sm_get 105 (by decide +kernel) fl_P_14 ez7 rfl ?_
        refine sm_iload (i := 5) 107 4 (by decide +kernel) rfl rfl ?_
        refine sm_callV (M2 := mm_B_valueEnd) (av := [.int x5]) (rest := []) 110 (by decide +kernel) ml_P_50 (Nat.le_refl _) rfl rfl (by first | exact Nat.le_of_ble_eq_true rfl | simp [sm_rfc, Value.category]) rfl hf ?_
        rintro r9 h8 ⟨z10, rfl, hf⟩
        change sm_W N (d + 1) mm_P_studyOperator 110 [(7, .int z4), (0, .ref x0), (2, .int x2), (4, .int x4), (5, .int x5), (6, .int x6)] [.int z10] h8 Q
        refine sm_istore (i := 5) 112 [(5, .int z10), (7, .int z4), (0, .ref x0), (2, .int x2), (4, .int x4), (6, .int x6)] (by decide +kernel) (by decide) (by first | rfl | simp [sm_rfc]) rfl ?_
        refine sm_iinc (i := 6) (j := 5) (z := 1) (y := x6 + 1) 115 [(6, .int (x6 + 1)), (5, .int z10), (7, .int z4), (0, .ref x0), (2, .int x2), (4, .int x4)] (by decide +kernel) rfl (by rfl) (by decide) rfl rfl ?_
        refine sm_goto (off := -59) 56 (by decide +kernel) (by decide) ?_
        exact sm_sub [3, 4, 5, 1, 0] rfl hf
      · have hf := hf.2 q11
        refine sm_iload (i := 7) 93 0 (by decide +kernel) rfl rfl ?_
        exact sm_iret rfl (by decide +kernel) hf
theorem cP_studyOperator {N d : Nat} {h : sm_H} {Q : Option Value → sm_H → Prop} {x0 : Nat} {x1 : Int32} (hb : ∃ fs, h[x0]? = some (.inr (3, fs))) (hf : fP_studyOperator_0 N d h Q x0 x1) : sm_V N (d + 1) mm_P_studyOperator 3 x0 [.int x1] h Q := ⟨hb, sm_meth (by decide +kernel) (fun _ => Nat.le_of_ble_eq_true rfl) (fun _ => rfl) (kP_studyOperator_0 hf)⟩
def fP_studyPath_0 (N d : Nat) (h : sm_H) (Q : Option Value → sm_H → Prop) (x0 : Nat) (x1 : Int32) (x2 : Int32) : Prop := ∃ z1 : Nat, sm_g h x0 3 0 = some (.ref z1) ∧ sm_V N d mm_B_nameEnd 0 z1 [.int x1] h (fun r3 h2 => ∃ z4 : Int32, r3 = some (.int z4) ∧ sm_V N d mm_P_isPath 3 x0 [.int (x1 + 1), .int z4] h2 (fun r6 h5 => ∃ z7 : Int32, r6 = some (.int z7) ∧ ((z7 = 0 → Q (some (.int 3)) h5) ∧ (¬ z7 = 0 → ((x2 = 2 → ∃ z8 : Nat, sm_g h5 x0 3 0 = some (.ref z8) ∧ sm_V N d mm_B_at 0 z8 [.int x1] h5 (fun r10 h9 => ∃ z11 : Int32, r10 = some (.int z11) ∧ sm_T N d mm_D_isNumber [.int z11] h9 (fun r13 h12 => ∃ z14 : Int32, r13 = some (.int z14) ∧ ((z14 = 0 → Q (some (.int 4)) h12) ∧ (¬ z14 = 0 → sm_W N (d + 1) mm_P_studyPath 41 [(0, .ref x0), (1, .int x1)] [] h12 Q))))) ∧ (¬ x2 = 2 → sm_W N (d + 1) mm_P_studyPath 41 [(0, .ref x0), (1, .int x1)] [] h5 Q))))))
set_option maxRecDepth 20000 in
set_option maxHeartbeats 4000000 in
theorem kP_studyPath_0 {N d : Nat} {h : sm_H} {Q : Option Value → sm_H → Prop} {x0 : Nat} {x1 : Int32} {x2 : Int32} (hf : fP_studyPath_0 N d h Q x0 x1 x2) : sm_W N (d + 1) mm_P_studyPath 0 [(0, .ref x0), (1, .int x1), (2, .int x2)] [] h Q := by
  unfold fP_studyPath_0 at hf
  refine sm_aload_n (k := 0) 1 0 (by decide +kernel) rfl rfl rfl ?_
  refine sm_iload_n (k := 1) 2 1 (by decide +kernel) rfl rfl rfl ?_
  refine sm_iconst (i := 1) (x := 1) 3 (by decide +kernel) rfl rfl ?_
  refine sm_iadd 4 (by decide +kernel) rfl ?_
  refine sm_aload_n (k := 0) 5 0 (by decide +kernel) rfl rfl rfl ?_
  obtain ⟨z1, ez1, hf⟩ := hf
  refine sm_get 8 (by decide +kernel) fl_P_14 ez1 rfl ?_
  refine sm_iload_n (k := 1) 9 1 (by decide +kernel) rfl rfl rfl ?_
  refine sm_callV (M2 := mm_B_nameEnd) (av := [.int x1]) (rest := [.int (x1 + 1), .ref x0]) 12 (by decide +kernel) ml_P_70 (Nat.le_refl _) rfl rfl (by first | exact Nat.le_of_ble_eq_true rfl | simp [sm_rfc, Value.category]) rfl hf ?_
  rintro r3 h2 ⟨z4, rfl, hf⟩
  change sm_W N (d + 1) mm_P_studyPath 12 [(0, .ref x0), (1, .int x1), (2, .int x2)] [.int z4, .int (x1 + 1), .ref x0] h2 Q
  refine sm_callV (M2 := mm_P_isPath) (av := [.int (x1 + 1), .int z4]) (rest := []) 15 (by decide +kernel) ml_P_73 (Nat.le_refl _) rfl rfl (by first | exact Nat.le_of_ble_eq_true rfl | simp [sm_rfc, Value.category]) rfl hf ?_
  rintro r6 h5 ⟨z7, rfl, hf⟩
  change sm_W N (d + 1) mm_P_studyPath 15 [(0, .ref x0), (1, .int x1), (2, .int x2)] [.int z7] h5 Q
  refine sm_if_ne (off := 5) 18 20 (by decide +kernel) (by decide) rfl (fun q17 => ?_) (fun q17 => ?_)
  · have hf := hf.2 q17
    refine sm_iload_n (k := 2) 21 2 (by decide +kernel) rfl rfl rfl ?_
    refine sm_iconst (i := 2) (x := 2) 22 (by decide +kernel) rfl rfl ?_
    refine sm_icmp_ne (off := 19) 25 41 (by decide +kernel) (by decide) rfl (fun q16 => ?_) (fun q16 => ?_)
    · have hf := hf.2 q16
      exact sm_sub [0, 1] rfl hf
    · have hf := hf.1 q16
      refine sm_aload_n (k := 0) 26 0 (by decide +kernel) rfl rfl rfl ?_
      obtain ⟨z8, ez8, hf⟩ := hf
      refine sm_get 29 (by decide +kernel) fl_P_14 ez8 rfl ?_
      refine sm_iload_n (k := 1) 30 1 (by decide +kernel) rfl rfl rfl ?_
      refine sm_callV (M2 := mm_B_at) (av := [.int x1]) (rest := []) 33 (by decide +kernel) ml_P_56 (Nat.le_refl _) rfl rfl (by first | exact Nat.le_of_ble_eq_true rfl | simp [sm_rfc, Value.category]) rfl hf ?_
      rintro r10 h9 ⟨z11, rfl, hf⟩
      change sm_W N (d + 1) mm_P_studyPath 33 [(0, .ref x0), (1, .int x1), (2, .int x2)] [.int z11] h9 Q
      refine sm_callN (M2 := mm_D_isNumber) (av := [.int z11]) (rest := []) 36 (by decide +kernel) ml_P_77 (Nat.le_refl _) rfl rfl (by first | exact Nat.le_of_ble_eq_true rfl | simp [sm_rfc, Value.category]) rfl hf ?_
      rintro r13 h12 ⟨z14, rfl, hf⟩
      change sm_W N (d + 1) mm_P_studyPath 36 [(0, .ref x0), (1, .int x1), (2, .int x2)] [.int z14] h12 Q
      refine sm_if_ne (off := 5) 39 41 (by decide +kernel) (by decide) rfl (fun q15 => ?_) (fun q15 => ?_)
      · have hf := hf.2 q15
        exact sm_sub [0, 1] rfl hf
      · have hf := hf.1 q15
        refine sm_iconst (i := 4) (x := 4) 40 (by decide +kernel) rfl rfl ?_
        exact sm_iret rfl (by decide +kernel) hf
  · have hf := hf.1 q17
    refine sm_iconst (i := 3) (x := 3) 19 (by decide +kernel) rfl rfl ?_
    exact sm_iret rfl (by decide +kernel) hf
def fP_studyPath_41 (N d : Nat) (h : sm_H) (Q : Option Value → sm_H → Prop) (x0 : Nat) (x1 : Int32) : Prop := sm_W N (d + 1) mm_P_studyPath 43 [(0, .ref x0), (1, .int x1), (3, .int 0)] [] h Q
set_option maxRecDepth 20000 in
set_option maxHeartbeats 4000000 in
theorem kP_studyPath_41 {N d : Nat} {h : sm_H} {Q : Option Value → sm_H → Prop} {x0 : Nat} {x1 : Int32} (hf : fP_studyPath_41 N d h Q x0 x1) : sm_W N (d + 1) mm_P_studyPath 41 [(0, .ref x0), (1, .int x1)] [] h Q := by
  unfold fP_studyPath_41 at hf
  refine sm_iconst (i := 0) (x := 0) 42 (by decide +kernel) rfl rfl ?_
  refine sm_istore_n (k := 3) 43 [(3, .int 0), (0, .ref x0), (1, .int x1)] (by decide +kernel) rfl (by decide) (by first | rfl | simp [sm_rfc]) rfl ?_
  exact sm_sub [1, 2, 0] rfl hf
def fP_studyPath_43 (N d : Nat) (h : sm_H) (Q : Option Value → sm_H → Prop) (x0 : Nat) (x1 : Int32) (x3 : Int32) : Prop := ∃ z1 : Int32, sm_g h x0 3 5 = some (.int z1) ∧ ((z1 ≤ x3 → Q (some (.int 0)) h) ∧ (¬ z1 ≤ x3 → ∃ z2 : Nat, sm_g h x0 3 1 = some (.ref z2) ∧ ∃ z3 : Int32, sm_n h z2 = some z3 ∧ ((z3 ≤ x3 → Q (some (.int 0)) h) ∧ (¬ z3 ≤ x3 → ∃ z4 : Nat, sm_g h x0 3 1 = some (.ref z4) ∧ ∃ z5 : Int32, sm_gi h z4 1 x3 = some z5 ∧ sm_V N d mm_P_clash 3 x0 [.int (z5 + 1), .int (x1 + 1)] h (fun r7 h6 => ∃ z8 : Int32, r7 = some (.int z8) ∧ ((z8 = 0 → sm_W N (d + 1) mm_P_studyPath 43 [(0, .ref x0), (1, .int x1), (3, .int (x3 + 1))] [] h6 Q) ∧ (¬ z8 = 0 → Q (some (.int 5)) h6)))))))
set_option maxRecDepth 20000 in
set_option maxHeartbeats 4000000 in
theorem kP_studyPath_43 {N d : Nat} {h : sm_H} {Q : Option Value → sm_H → Prop} {x0 : Nat} {x1 : Int32} {x3 : Int32} (hf : fP_studyPath_43 N d h Q x0 x1 x3) : sm_W N (d + 1) mm_P_studyPath 43 [(0, .ref x0), (1, .int x1), (3, .int x3)] [] h Q := by
  unfold fP_studyPath_43 at hf
  refine sm_iload_n (k := 3) 44 2 (by decide +kernel) rfl rfl rfl ?_
  refine sm_aload_n (k := 0) 45 0 (by decide +kernel) rfl rfl rfl ?_
  obtain ⟨z1, ez1, hf⟩ := hf
  refine sm_get 48 (by decide +kernel) fl_P_33 ez1 rfl ?_
  refine sm_icmp_ge (off := 38) 51 86 (by decide +kernel) (by decide) rfl (fun q11 => ?_) (fun q11 => ?_)
  · have hf := hf.1 q11
    refine sm_iconst (i := 0) (x := 0) 87 (by decide +kernel) rfl rfl ?_
    exact sm_iret rfl (by decide +kernel) hf
  · have hf := hf.2 q11
    refine sm_iload_n (k := 3) 52 2 (by decide +kernel) rfl rfl rfl ?_
    refine sm_aload_n (k := 0) 53 0 (by decide +kernel) rfl rfl rfl ?_
    obtain ⟨z2, ez2, hf⟩ := hf
    refine sm_get 56 (by decide +kernel) fl_P_20 ez2 rfl ?_
    obtain ⟨z3, ez3, hf⟩ := hf
    refine sm_alen 57 (by decide +kernel) ez3 rfl ?_
    refine sm_icmp_ge (off := 29) 60 86 (by decide +kernel) (by decide) rfl (fun q10 => ?_) (fun q10 => ?_)
    · have hf := hf.1 q10
      refine sm_iconst (i := 0) (x := 0) 87 (by decide +kernel) rfl rfl ?_
      exact sm_iret rfl (by decide +kernel) hf
    · have hf := hf.2 q10
      refine sm_aload_n (k := 0) 61 0 (by decide +kernel) rfl rfl rfl ?_
      refine sm_aload_n (k := 0) 62 0 (by decide +kernel) rfl rfl rfl ?_
      obtain ⟨z4, ez4, hf⟩ := hf
      refine sm_get 65 (by decide +kernel) fl_P_20 ez4 rfl ?_
      refine sm_iload_n (k := 3) 66 2 (by decide +kernel) rfl rfl rfl ?_
      obtain ⟨z5, ez5, hf⟩ := hf
      refine sm_iald 67 (by decide +kernel) ez5 rfl ?_
      refine sm_iconst (i := 1) (x := 1) 68 (by decide +kernel) rfl rfl ?_
      refine sm_iadd 69 (by decide +kernel) rfl ?_
      refine sm_iload_n (k := 1) 70 1 (by decide +kernel) rfl rfl rfl ?_
      refine sm_iconst (i := 1) (x := 1) 71 (by decide +kernel) rfl rfl ?_
      refine sm_iadd 72 (by decide +kernel) rfl ?_
      refine sm_callV (M2 := mm_P_clash) (av := [.int (z5 + 1), .int (x1 + 1)]) (rest := []) 75 (by decide +kernel) ml_P_81 (Nat.le_refl _) rfl rfl (by first | exact Nat.le_of_ble_eq_true rfl | simp [sm_rfc, Value.category]) rfl hf ?_
      rintro r7 h6 ⟨z8, rfl, hf⟩
      change sm_W N (d + 1) mm_P_studyPath 75 [(0, .ref x0), (1, .int x1), (3, .int x3)] [.int z8] h6 Q
      refine sm_if_eq (off := 5) 78 80 (by decide +kernel) (by decide) rfl (fun q9 => ?_) (fun q9 => ?_)
      · have hf := hf.1 q9
        refine sm_iinc (i := 3) (j := 2) (z := 1) (y := x3 + 1) 83 [(3, .int (x3 + 1)), (0, .ref x0), (1, .int x1)] (by decide +kernel) rfl (by rfl) (by decide) rfl rfl ?_
        refine sm_goto (off := -40) 43 (by decide +kernel) (by decide) ?_
        exact sm_sub [1, 2, 0] rfl hf
      · have hf := hf.2 q9
        refine sm_iconst (i := 5) (x := 5) 79 (by decide +kernel) rfl rfl ?_
        exact sm_iret rfl (by decide +kernel) hf
theorem cP_studyPath {N d : Nat} {h : sm_H} {Q : Option Value → sm_H → Prop} {x0 : Nat} {x1 : Int32} {x2 : Int32} (hb : ∃ fs, h[x0]? = some (.inr (3, fs))) (hf : fP_studyPath_0 N d h Q x0 x1 x2) : sm_V N (d + 1) mm_P_studyPath 3 x0 [.int x1, .int x2] h Q := ⟨hb, sm_meth (by decide +kernel) (fun _ => Nat.le_of_ble_eq_true rfl) (fun _ => rfl) (kP_studyPath_0 hf)⟩
def fP_enlist_0 (N d : Nat) (h : sm_H) (Q : Option Value → sm_H → Prop) (x0 : Nat) (x1 : Int32) (x2 : Int32) : Prop := ∃ z1 : Int32, sm_g h x0 3 5 = some (.int z1) ∧ ∃ z2 : Nat, sm_g h x0 3 1 = some (.ref z2) ∧ ∃ z3 : Int32, sm_n h z2 = some z3 ∧ ((z3 ≤ z1 → Q none h) ∧ (¬ z3 ≤ z1 → ∃ z4 : Nat, sm_g h x0 3 1 = some (.ref z4) ∧ ∃ z5 : Int32, sm_g h x0 3 5 = some (.int z5) ∧ ∃ h6, sm_pi h z4 z5 x1 = some h6 ∧ ∃ z7 : Nat, sm_g h6 x0 3 2 = some (.ref z7) ∧ ∃ z8 : Int32, sm_g h6 x0 3 5 = some (.int z8) ∧ ∃ h9, sm_pi h6 z7 z8 x2 = some h9 ∧ ∃ z10 : Nat, sm_g h9 x0 3 3 = some (.ref z10) ∧ ∃ z11 : Int32, sm_g h9 x0 3 5 = some (.int z11) ∧ ∃ z12 : Int32, sm_g h9 x0 3 6 = some (.int z12) ∧ ∃ h13, sm_pi h9 z10 z11 z12 = some h13 ∧ ∃ z14 : Nat, sm_g h13 x0 3 4 = some (.ref z14) ∧ ∃ z15 : Int32, sm_g h13 x0 3 5 = some (.int z15) ∧ ∃ z16 : Int32, sm_g h13 x0 3 7 = some (.int z16) ∧ ∃ h17, sm_pi h13 z14 z15 z16 = some h17 ∧ ∃ z18 : Int32, sm_g h17 x0 3 5 = some (.int z18) ∧ ∃ h19, sm_p h17 x0 3 5 (.int (z18 + 1)) = some h19 ∧ Q none h19))
set_option maxRecDepth 20000 in
set_option maxHeartbeats 4000000 in
theorem kP_enlist_0 {N d : Nat} {h : sm_H} {Q : Option Value → sm_H → Prop} {x0 : Nat} {x1 : Int32} {x2 : Int32} (hf : fP_enlist_0 N d h Q x0 x1 x2) : sm_W N (d + 1) mm_P_enlist 0 [(0, .ref x0), (1, .int x1), (2, .int x2)] [] h Q := by
  unfold fP_enlist_0 at hf
  refine sm_aload_n (k := 0) 1 0 (by decide +kernel) rfl rfl rfl ?_
  obtain ⟨z1, ez1, hf⟩ := hf
  refine sm_get 4 (by decide +kernel) fl_P_33 ez1 rfl ?_
  refine sm_aload_n (k := 0) 5 0 (by decide +kernel) rfl rfl rfl ?_
  obtain ⟨z2, ez2, hf⟩ := hf
  refine sm_get 8 (by decide +kernel) fl_P_20 ez2 rfl ?_
  obtain ⟨z3, ez3, hf⟩ := hf
  refine sm_alen 9 (by decide +kernel) ez3 rfl ?_
  refine sm_icmp_ge (off := 59) 12 68 (by decide +kernel) (by decide) rfl (fun q20 => ?_) (fun q20 => ?_)
  · have hf := hf.1 q20
    exact sm_vret rfl (by decide +kernel) hf
  · have hf := hf.2 q20
    refine sm_aload_n (k := 0) 13 0 (by decide +kernel) rfl rfl rfl ?_
    obtain ⟨z4, ez4, hf⟩ := hf
    refine sm_get 16 (by decide +kernel) fl_P_20 ez4 rfl ?_
    refine sm_aload_n (k := 0) 17 0 (by decide +kernel) rfl rfl rfl ?_
    obtain ⟨z5, ez5, hf⟩ := hf
    refine sm_get 20 (by decide +kernel) fl_P_33 ez5 rfl ?_
    refine sm_iload_n (k := 1) 21 1 (by decide +kernel) rfl rfl rfl ?_
    obtain ⟨h6, eh6, hf⟩ := hf
    refine sm_iast 22 (by decide +kernel) eh6 rfl ?_
    refine sm_aload_n (k := 0) 23 0 (by decide +kernel) rfl rfl rfl ?_
    obtain ⟨z7, ez7, hf⟩ := hf
    refine sm_get 26 (by decide +kernel) fl_P_24 ez7 rfl ?_
    refine sm_aload_n (k := 0) 27 0 (by decide +kernel) rfl rfl rfl ?_
    obtain ⟨z8, ez8, hf⟩ := hf
    refine sm_get 30 (by decide +kernel) fl_P_33 ez8 rfl ?_
    refine sm_iload_n (k := 2) 31 2 (by decide +kernel) rfl rfl rfl ?_
    obtain ⟨h9, eh9, hf⟩ := hf
    refine sm_iast 32 (by decide +kernel) eh9 rfl ?_
    refine sm_aload_n (k := 0) 33 0 (by decide +kernel) rfl rfl rfl ?_
    obtain ⟨z10, ez10, hf⟩ := hf
    refine sm_get 36 (by decide +kernel) fl_P_27 ez10 rfl ?_
    refine sm_aload_n (k := 0) 37 0 (by decide +kernel) rfl rfl rfl ?_
    obtain ⟨z11, ez11, hf⟩ := hf
    refine sm_get 40 (by decide +kernel) fl_P_33 ez11 rfl ?_
    refine sm_aload_n (k := 0) 41 0 (by decide +kernel) rfl rfl rfl ?_
    obtain ⟨z12, ez12, hf⟩ := hf
    refine sm_get 44 (by decide +kernel) fl_P_37 ez12 rfl ?_
    obtain ⟨h13, eh13, hf⟩ := hf
    refine sm_iast 45 (by decide +kernel) eh13 rfl ?_
    refine sm_aload_n (k := 0) 46 0 (by decide +kernel) rfl rfl rfl ?_
    obtain ⟨z14, ez14, hf⟩ := hf
    refine sm_get 49 (by decide +kernel) fl_P_30 ez14 rfl ?_
    refine sm_aload_n (k := 0) 50 0 (by decide +kernel) rfl rfl rfl ?_
    obtain ⟨z15, ez15, hf⟩ := hf
    refine sm_get 53 (by decide +kernel) fl_P_33 ez15 rfl ?_
    refine sm_aload_n (k := 0) 54 0 (by decide +kernel) rfl rfl rfl ?_
    obtain ⟨z16, ez16, hf⟩ := hf
    refine sm_get 57 (by decide +kernel) fl_P_40 ez16 rfl ?_
    obtain ⟨h17, eh17, hf⟩ := hf
    refine sm_iast 58 (by decide +kernel) eh17 rfl ?_
    refine sm_aload_n (k := 0) 59 0 (by decide +kernel) rfl rfl rfl ?_
    refine sm_dup 60 (by decide +kernel) (by first | rfl | simp [sm_rfc]) rfl ?_
    obtain ⟨z18, ez18, hf⟩ := hf
    refine sm_get 63 (by decide +kernel) fl_P_33 ez18 rfl ?_
    refine sm_iconst (i := 1) (x := 1) 64 (by decide +kernel) rfl rfl ?_
    refine sm_iadd 65 (by decide +kernel) rfl ?_
    obtain ⟨h19, eh19, hf⟩ := hf
    refine sm_put (ty := .int) 68 (by decide +kernel) fp_P_33 (fun _ => rfl) rfl rfl eh19 rfl ?_
    exact sm_vret rfl (by decide +kernel) hf
theorem cP_enlist {N d : Nat} {h : sm_H} {Q : Option Value → sm_H → Prop} {x0 : Nat} {x1 : Int32} {x2 : Int32} (hb : ∃ fs, h[x0]? = some (.inr (3, fs))) (hf : fP_enlist_0 N d h Q x0 x1 x2) : sm_V N (d + 1) mm_P_enlist 3 x0 [.int x1, .int x2] h Q := ⟨hb, sm_meth (by decide +kernel) (fun _ => Nat.le_of_ble_eq_true rfl) (fun _ => rfl) (kP_enlist_0 hf)⟩
def fP_codeOf_0 (N d : Nat) (h : sm_H) (Q : Option Value → sm_H → Prop) (x0 : Nat) (x1 : Int32) : Prop := sm_W N (d + 1) mm_P_codeOf 2 [(0, .ref x0), (1, .int x1), (2, .int 0)] [] h Q
set_option maxRecDepth 20000 in
set_option maxHeartbeats 4000000 in
theorem kP_codeOf_0 {N d : Nat} {h : sm_H} {Q : Option Value → sm_H → Prop} {x0 : Nat} {x1 : Int32} (hf : fP_codeOf_0 N d h Q x0 x1) : sm_W N (d + 1) mm_P_codeOf 0 [(0, .ref x0), (1, .int x1)] [] h Q := by
  unfold fP_codeOf_0 at hf
  refine sm_iconst (i := 0) (x := 0) 1 (by decide +kernel) rfl rfl ?_
  refine sm_istore_n (k := 2) 2 [(2, .int 0), (0, .ref x0), (1, .int x1)] (by decide +kernel) rfl (by decide) (by first | rfl | simp [sm_rfc]) rfl ?_
  exact sm_sub [1, 2, 0] rfl hf
def fP_codeOf_2 (N d : Nat) (h : sm_H) (Q : Option Value → sm_H → Prop) (x0 : Nat) (x1 : Int32) (x2 : Int32) : Prop := ((6 ≤ x2 → Q (some (.int (-1))) h) ∧ (¬ 6 ≤ x2 → sm_T N d mm_P_textOf [.int x2] h (fun r2 h1 => ∃ z3 : Nat, r2 = some (.retAddr z3) ∧ sm_V N d mm_P_isNamed 3 x0 [.int x1, .retAddr z3] h1 (fun r5 h4 => ∃ z6 : Int32, r5 = some (.int z6) ∧ ((z6 = 0 → sm_W N (d + 1) mm_P_codeOf 2 [(0, .ref x0), (1, .int x1), (2, .int (x2 + 1))] [] h4 Q) ∧ (¬ z6 = 0 → Q (some (.int x2)) h4))))))
set_option maxRecDepth 20000 in
set_option maxHeartbeats 4000000 in
theorem kP_codeOf_2 {N d : Nat} {h : sm_H} {Q : Option Value → sm_H → Prop} {x0 : Nat} {x1 : Int32} {x2 : Int32} (hf : fP_codeOf_2 N d h Q x0 x1 x2) : sm_W N (d + 1) mm_P_codeOf 2 [(0, .ref x0), (1, .int x1), (2, .int x2)] [] h Q := by
  unfold fP_codeOf_2 at hf
  refine sm_iload_n (k := 2) 3 2 (by decide +kernel) rfl rfl rfl ?_
  refine sm_bipush (i := 6) (x := 6) 5 (by decide +kernel) (by decide) rfl ?_
  refine sm_icmp_ge (off := 23) 8 28 (by decide +kernel) (by decide) rfl (fun q8 => ?_) (fun q8 => ?_)
  · have hf := hf.1 q8
    refine sm_iconst (i := -1) (x := (-1)) 29 (by decide +kernel) rfl rfl ?_
    exact sm_iret rfl (by decide +kernel) hf
  · have hf := hf.2 q8
    refine sm_aload_n (k := 0) 9 0 (by decide +kernel) rfl rfl rfl ?_
    refine sm_iload_n (k := 1) 10 1 (by decide +kernel) rfl rfl rfl ?_
    refine sm_iload_n (k := 2) 11 2 (by decide +kernel) rfl rfl rfl ?_
    refine sm_callS (M2 := mm_P_textOf) (av := [.int x2]) (rest := [.int x1, .ref x0]) 14 (by decide +kernel) ml_P_84 (Nat.le_refl _) rfl rfl (by first | exact Nat.le_of_ble_eq_true rfl | simp [sm_rfc, Value.category]) rfl hf ?_
    rintro r2 h1 ⟨z3, rfl, hf⟩
    change sm_W N (d + 1) mm_P_codeOf 14 [(0, .ref x0), (1, .int x1), (2, .int x2)] [.retAddr z3, .int x1, .ref x0] h1 Q
    refine sm_callV (M2 := mm_P_isNamed) (av := [.int x1, .retAddr z3]) (rest := []) 17 (by decide +kernel) ml_P_88 (Nat.le_refl _) rfl rfl (by first | exact Nat.le_of_ble_eq_true rfl | simp [sm_rfc, Value.category]) rfl hf ?_
    rintro r5 h4 ⟨z6, rfl, hf⟩
    change sm_W N (d + 1) mm_P_codeOf 17 [(0, .ref x0), (1, .int x1), (2, .int x2)] [.int z6] h4 Q
    refine sm_if_eq (off := 5) 20 22 (by decide +kernel) (by decide) rfl (fun q7 => ?_) (fun q7 => ?_)
    · have hf := hf.1 q7
      refine sm_iinc (i := 2) (j := 2) (z := 1) (y := x2 + 1) 25 [(2, .int (x2 + 1)), (0, .ref x0), (1, .int x1)] (by decide +kernel) rfl (by rfl) (by decide) rfl rfl ?_
      refine sm_goto (off := -23) 2 (by decide +kernel) (by decide) ?_
      exact sm_sub [1, 2, 0] rfl hf
    · have hf := hf.2 q7
      refine sm_iload_n (k := 2) 21 2 (by decide +kernel) rfl rfl rfl ?_
      exact sm_iret rfl (by decide +kernel) hf
theorem cP_codeOf {N d : Nat} {h : sm_H} {Q : Option Value → sm_H → Prop} {x0 : Nat} {x1 : Int32} (hb : ∃ fs, h[x0]? = some (.inr (3, fs))) (hf : fP_codeOf_0 N d h Q x0 x1) : sm_V N (d + 1) mm_P_codeOf 3 x0 [.int x1] h Q := ⟨hb, sm_meth (by decide +kernel) (fun _ => Nat.le_of_ble_eq_true rfl) (fun _ => rfl) (kP_codeOf_0 hf)⟩
def fP_textOf_0 (N d : Nat) (h : sm_H) (Q : Option Value → sm_H → Prop) (x0 : Int32) : Prop := ((x0 = 0 → Q (some (.retAddr 0)) h) ∧ (x0 = 1 → Q (some (.retAddr 1)) h) ∧ (x0 = 2 → Q (some (.retAddr 2)) h) ∧ (x0 = 3 → Q (some (.retAddr 3)) h) ∧ (x0 = 4 → Q (some (.retAddr 4)) h) ∧ ((¬ x0 = 0 ∧ ¬ x0 = 1 ∧ ¬ x0 = 2 ∧ ¬ x0 = 3 ∧ ¬ x0 = 4) → Q (some (.retAddr 5)) h))
set_option maxRecDepth 20000 in
set_option maxHeartbeats 4000000 in
theorem kP_textOf_0 {N d : Nat} {h : sm_H} {Q : Option Value → sm_H → Prop} {x0 : Int32} (hf : fP_textOf_0 N d h Q x0) : sm_W N (d + 1) mm_P_textOf 0 [(0, .int x0)] [] h Q := by
  unfold fP_textOf_0 at hf
  refine sm_iload_n (k := 0) 1 0 (by decide +kernel) rfl rfl rfl ?_
  by_cases g0 : x0 = 0
  · refine sm_tabIn (dflt := 50) (lo := 0) (hi := 4) (offs := #[35, 38, 41, 44, 47]) (len := 35) (off := 35) 36 (by decide +kernel) (by rw [g0]; decide) (by rw [g0]; decide) (by rw [g0]; decide) (by decide) ?_
    have hf := hf.1 g0
    refine sm_ldcS (i := 102) (j := 0) 38 (by decide +kernel) rfl (by decide) rfl rfl ?_
    exact sm_aret (C := "java/lang/String") rfl (Or.inr (Or.inr ⟨_, rfl⟩)) (by decide +kernel) hf
  by_cases g1 : x0 = 1
  · refine sm_tabIn (dflt := 50) (lo := 0) (hi := 4) (offs := #[35, 38, 41, 44, 47]) (len := 35) (off := 38) 39 (by decide +kernel) (by rw [g1]; decide) (by rw [g1]; decide) (by rw [g1]; decide) (by decide) ?_
    have hf := hf.2.1 g1
    refine sm_ldcS (i := 104) (j := 1) 41 (by decide +kernel) rfl (by decide) rfl rfl ?_
    exact sm_aret (C := "java/lang/String") rfl (Or.inr (Or.inr ⟨_, rfl⟩)) (by decide +kernel) hf
  by_cases g2 : x0 = 2
  · refine sm_tabIn (dflt := 50) (lo := 0) (hi := 4) (offs := #[35, 38, 41, 44, 47]) (len := 35) (off := 41) 42 (by decide +kernel) (by rw [g2]; decide) (by rw [g2]; decide) (by rw [g2]; decide) (by decide) ?_
    have hf := hf.2.2.1 g2
    refine sm_ldcS (i := 106) (j := 2) 44 (by decide +kernel) rfl (by decide) rfl rfl ?_
    exact sm_aret (C := "java/lang/String") rfl (Or.inr (Or.inr ⟨_, rfl⟩)) (by decide +kernel) hf
  by_cases g3 : x0 = 3
  · refine sm_tabIn (dflt := 50) (lo := 0) (hi := 4) (offs := #[35, 38, 41, 44, 47]) (len := 35) (off := 44) 45 (by decide +kernel) (by rw [g3]; decide) (by rw [g3]; decide) (by rw [g3]; decide) (by decide) ?_
    have hf := hf.2.2.2.1 g3
    refine sm_ldcS (i := 108) (j := 3) 47 (by decide +kernel) rfl (by decide) rfl rfl ?_
    exact sm_aret (C := "java/lang/String") rfl (Or.inr (Or.inr ⟨_, rfl⟩)) (by decide +kernel) hf
  by_cases g4 : x0 = 4
  · refine sm_tabIn (dflt := 50) (lo := 0) (hi := 4) (offs := #[35, 38, 41, 44, 47]) (len := 35) (off := 47) 48 (by decide +kernel) (by rw [g4]; decide) (by rw [g4]; decide) (by rw [g4]; decide) (by decide) ?_
    have hf := hf.2.2.2.2.1 g4
    refine sm_ldcS (i := 110) (j := 4) 50 (by decide +kernel) rfl (by decide) rfl rfl ?_
    exact sm_aret (C := "java/lang/String") rfl (Or.inr (Or.inr ⟨_, rfl⟩)) (by decide +kernel) hf
  have gout : x0.toInt < 0 ∨ 4 < x0.toInt := sm_out (fun v a1 a2 => by
    rcases sm_iv0_4 a1 a2 with rfl | rfl | rfl | rfl | rfl
    · exact sm_ne 0 (by decide) g0
    · exact sm_ne 1 (by decide) g1
    · exact sm_ne 2 (by decide) g2
    · exact sm_ne 3 (by decide) g3
    · exact sm_ne 4 (by decide) g4
    )
  refine sm_tabOut (dflt := 50) (lo := 0) (hi := 4) (offs := #[35, 38, 41, 44, 47]) (len := 35) 51 (by decide +kernel) gout (by decide) ?_
  have hf := hf.2.2.2.2.2 ⟨g0, g1, g2, g3, g4⟩
  refine sm_ldcS (i := 112) (j := 5) 53 (by decide +kernel) rfl (by decide) rfl rfl ?_
  exact sm_aret (C := "java/lang/String") rfl (Or.inr (Or.inr ⟨_, rfl⟩)) (by decide +kernel) hf
theorem cP_textOf {N d : Nat} {h : sm_H} {Q : Option Value → sm_H → Prop} {x0 : Int32} (hf : fP_textOf_0 N d h Q x0) : sm_T N (d + 1) mm_P_textOf [.int x0] h Q := sm_meth (by decide +kernel) (fun _ => Nat.le_of_ble_eq_true rfl) (fun _ => rfl) (kP_textOf_0 hf)
def fP_isPath_0 (N d : Nat) (h : sm_H) (Q : Option Value → sm_H → Prop) (x0 : Nat) (x1 : Int32) (x2 : Int32) : Prop := sm_W N (d + 1) mm_P_isPath 8 [(0, .ref x0), (2, .int x2), (3, .int 1), (4, .int x1), (5, .int x1)] [] h Q
set_option maxRecDepth 20000 in
set_option maxHeartbeats 4000000 in
theorem kP_isPath_0 {N d : Nat} {h : sm_H} {Q : Option Value → sm_H → Prop} {x0 : Nat} {x1 : Int32} {x2 : Int32} (hf : fP_isPath_0 N d h Q x0 x1 x2) : sm_W N (d + 1) mm_P_isPath 0 [(0, .ref x0), (1, .int x1), (2, .int x2)] [] h Q := by
  unfold fP_isPath_0 at hf
  refine sm_iconst (i := 1) (x := 1) 1 (by decide +kernel) rfl rfl ?_
  refine sm_istore_n (k := 3) 2 [(3, .int 1), (0, .ref x0), (1, .int x1), (2, .int x2)] (by decide +kernel) rfl (by decide) (by first | rfl | simp [sm_rfc]) rfl ?_
  refine sm_iload_n (k := 1) 3 2 (by decide +kernel) rfl rfl rfl ?_
  refine sm_istore (i := 4) 5 [(4, .int x1), (3, .int 1), (0, .ref x0), (1, .int x1), (2, .int x2)] (by decide +kernel) (by decide) (by first | rfl | simp [sm_rfc]) rfl ?_
  refine sm_iload_n (k := 1) 6 3 (by decide +kernel) rfl rfl rfl ?_
  refine sm_istore (i := 5) 8 [(5, .int x1), (4, .int x1), (3, .int 1), (0, .ref x0), (1, .int x1), (2, .int x2)] (by decide +kernel) (by decide) (by first | rfl | simp [sm_rfc]) rfl ?_
  exact sm_sub [3, 5, 2, 1, 0] rfl hf
def fP_isPath_8 (N d : Nat) (h : sm_H) (Q : Option Value → sm_H → Prop) (x0 : Nat) (x2 : Int32) (x3 : Int32) (x4 : Int32) (x5 : Int32) : Prop := ((x2 ≤ x5 → ((x2 ≤ x4 → Q (some (.int 0)) h) ∧ (¬ x2 ≤ x4 → ((8 < x3 → Q (some (.int 0)) h) ∧ (¬ 8 < x3 → Q (some (.int 1)) h))))) ∧ (¬ x2 ≤ x5 → ∃ z3 : Nat, sm_g h x0 3 0 = some (.ref z3) ∧ sm_V N d mm_B_at 0 z3 [.int x5] h (fun r5 h4 => ∃ z6 : Int32, r5 = some (.int z6) ∧ ((z6 = 46 → ((x5 = x4 → Q (some (.int 0)) h4) ∧ (¬ x5 = x4 → sm_W N (d + 1) mm_P_isPath 46 [(0, .ref x0), (2, .int x2), (3, .int (x3 + 1)), (4, .int (x5 + 1)), (5, .int x5)] [] h4 Q))) ∧ (¬ z6 = 46 → sm_W N (d + 1) mm_P_isPath 46 [(0, .ref x0), (2, .int x2), (3, .int x3), (4, .int x4), (5, .int x5)] [] h4 Q)))))
set_option maxRecDepth 20000 in
set_option maxHeartbeats 4000000 in
theorem kP_isPath_8 {N d : Nat} {h : sm_H} {Q : Option Value → sm_H → Prop} {x0 : Nat} {x2 : Int32} {x3 : Int32} {x4 : Int32} {x5 : Int32} (hf : fP_isPath_8 N d h Q x0 x2 x3 x4 x5) : sm_W N (d + 1) mm_P_isPath 8 [(0, .ref x0), (2, .int x2), (3, .int x3), (4, .int x4), (5, .int x5)] [] h Q := by
  unfold fP_isPath_8 at hf
  refine sm_iload (i := 5) 10 4 (by decide +kernel) rfl rfl ?_
  refine sm_iload_n (k := 2) 11 1 (by decide +kernel) rfl rfl rfl ?_
  refine sm_icmp_ge (off := 41) 14 52 (by decide +kernel) (by decide) rfl (fun q9 => ?_) (fun q9 => ?_)
  · have hf := hf.1 q9
    refine sm_iload (i := 4) 54 3 (by decide +kernel) rfl rfl ?_
    refine sm_iload_n (k := 2) 55 1 (by decide +kernel) rfl rfl rfl ?_
    refine sm_icmp_ge (off := 13) 58 68 (by decide +kernel) (by decide) rfl (fun q2 => ?_) (fun q2 => ?_)
    · have hf := hf.1 q2
      refine sm_iconst (i := 0) (x := 0) 69 (by decide +kernel) rfl rfl ?_
      exact sm_zret rfl (by decide +kernel) (by decide) hf
    · have hf := hf.2 q2
      refine sm_iload_n (k := 3) 59 2 (by decide +kernel) rfl rfl rfl ?_
      refine sm_bipush (i := 8) (x := 8) 61 (by decide +kernel) (by decide) rfl ?_
      refine sm_icmp_gt (off := 7) 64 68 (by decide +kernel) (by decide) rfl (fun q1 => ?_) (fun q1 => ?_)
      · have hf := hf.1 q1
        refine sm_iconst (i := 0) (x := 0) 69 (by decide +kernel) rfl rfl ?_
        exact sm_zret rfl (by decide +kernel) (by decide) hf
      · have hf := hf.2 q1
        refine sm_iconst (i := 1) (x := 1) 65 (by decide +kernel) rfl rfl ?_
        refine sm_goto (off := 4) 69 (by decide +kernel) (by decide) ?_
        exact sm_zret rfl (by decide +kernel) (by decide) hf
  · have hf := hf.2 q9
    refine sm_aload_n (k := 0) 15 0 (by decide +kernel) rfl rfl rfl ?_
    obtain ⟨z3, ez3, hf⟩ := hf
    refine sm_get 18 (by decide +kernel) fl_P_14 ez3 rfl ?_
    refine sm_iload (i := 5) 20 4 (by decide +kernel) rfl rfl ?_
    refine sm_callV (M2 := mm_B_at) (av := [.int x5]) (rest := []) 23 (by decide +kernel) ml_P_56 (Nat.le_refl _) rfl rfl (by first | exact Nat.le_of_ble_eq_true rfl | simp [sm_rfc, Value.category]) rfl hf ?_
    rintro r5 h4 ⟨z6, rfl, hf⟩
    change sm_W N (d + 1) mm_P_isPath 23 [(0, .ref x0), (2, .int x2), (3, .int x3), (4, .int x4), (5, .int x5)] [.int z6] h4 Q
    refine sm_bipush (i := 46) (x := 46) 25 (by decide +kernel) (by decide) rfl ?_
    refine sm_icmp_ne (off := 21) 28 46 (by decide +kernel) (by decide) rfl (fun q8 => ?_) (fun q8 => ?_)
    · have hf := hf.2 q8
      exact sm_sub [0, 1, 2, 3, 4] rfl hf
    · have hf := hf.1 q8
      refine sm_iload (i := 5) 30 4 (by decide +kernel) rfl rfl ?_
      refine sm_iload (i := 4) 32 3 (by decide +kernel) rfl rfl ?_
      refine sm_icmp_ne (off := 5) 35 37 (by decide +kernel) (by decide) rfl (fun q7 => ?_) (fun q7 => ?_)
      · have hf := hf.2 q7
        refine sm_iinc (i := 3) (j := 2) (z := 1) (y := x3 + 1) 40 [(3, .int (x3 + 1)), (0, .ref x0), (2, .int x2), (4, .int x4), (5, .int x5)] (by decide +kernel) rfl (by rfl) (by decide) rfl rfl ?_
        refine sm_iload (i := 5) 42 4 (by decide +kernel) rfl rfl ?_
        refine sm_iconst (i := 1) (x := 1) 43 (by decide +kernel) rfl rfl ?_
        refine sm_iadd 44 (by decide +kernel) rfl ?_
        refine sm_istore (i := 4) 46 [(4, .int (x5 + 1)), (3, .int (x3 + 1)), (0, .ref x0), (2, .int x2), (5, .int x5)] (by decide +kernel) (by decide) (by first | rfl | simp [sm_rfc]) rfl ?_
        exact sm_sub [2, 3, 1, 0, 4] rfl hf
      · have hf := hf.1 q7
        refine sm_iconst (i := 0) (x := 0) 36 (by decide +kernel) rfl rfl ?_
        exact sm_zret rfl (by decide +kernel) (by decide) hf
def fP_isPath_46 (N d : Nat) (h : sm_H) (Q : Option Value → sm_H → Prop) (x0 : Nat) (x2 : Int32) (x3 : Int32) (x4 : Int32) (x5 : Int32) : Prop := sm_W N (d + 1) mm_P_isPath 8 [(0, .ref x0), (2, .int x2), (3, .int x3), (4, .int x4), (5, .int (x5 + 1))] [] h Q
set_option maxRecDepth 20000 in
set_option maxHeartbeats 4000000 in
theorem kP_isPath_46 {N d : Nat} {h : sm_H} {Q : Option Value → sm_H → Prop} {x0 : Nat} {x2 : Int32} {x3 : Int32} {x4 : Int32} {x5 : Int32} (hf : fP_isPath_46 N d h Q x0 x2 x3 x4 x5) : sm_W N (d + 1) mm_P_isPath 46 [(0, .ref x0), (2, .int x2), (3, .int x3), (4, .int x4), (5, .int x5)] [] h Q := by
  unfold fP_isPath_46 at hf
  refine sm_iinc (i := 5) (j := 4) (z := 1) (y := x5 + 1) 49 [(5, .int (x5 + 1)), (0, .ref x0), (2, .int x2), (3, .int x3), (4, .int x4)] (by decide +kernel) rfl (by rfl) (by decide) rfl rfl ?_
  refine sm_goto (off := -41) 8 (by decide +kernel) (by decide) ?_
  exact sm_sub [1, 2, 3, 4, 0] rfl hf
theorem cP_isPath {N d : Nat} {h : sm_H} {Q : Option Value → sm_H → Prop} {x0 : Nat} {x1 : Int32} {x2 : Int32} (hb : ∃ fs, h[x0]? = some (.inr (3, fs))) (hf : fP_isPath_0 N d h Q x0 x1 x2) : sm_V N (d + 1) mm_P_isPath 3 x0 [.int x1, .int x2] h Q := ⟨hb, sm_meth (by decide +kernel) (fun _ => Nat.le_of_ble_eq_true rfl) (fun _ => rfl) (kP_isPath_0 hf)⟩
def fP_clash_0 (N d : Nat) (h : sm_H) (Q : Option Value → sm_H → Prop) (x0 : Nat) (x1 : Int32) (x2 : Int32) : Prop := sm_W N (d + 1) mm_P_clash 2 [(0, .ref x0), (1, .int x1), (2, .int x2), (3, .int 0)] [] h Q
set_option maxRecDepth 20000 in
set_option maxHeartbeats 4000000 in
theorem kP_clash_0 {N d : Nat} {h : sm_H} {Q : Option Value → sm_H → Prop} {x0 : Nat} {x1 : Int32} {x2 : Int32} (hf : fP_clash_0 N d h Q x0 x1 x2) : sm_W N (d + 1) mm_P_clash 0 [(0, .ref x0), (1, .int x1), (2, .int x2)] [] h Q := by
  unfold fP_clash_0 at hf
  refine sm_iconst (i := 0) (x := 0) 1 (by decide +kernel) rfl rfl ?_
  refine sm_istore_n (k := 3) 2 [(3, .int 0), (0, .ref x0), (1, .int x1), (2, .int x2)] (by decide +kernel) rfl (by decide) (by first | rfl | simp [sm_rfc]) rfl ?_
  exact sm_sub [1, 2, 3, 0] rfl hf
def fP_clash_2 (N d : Nat) (h : sm_H) (Q : Option Value → sm_H → Prop) (x0 : Nat) (x1 : Int32) (x2 : Int32) (x3 : Int32) : Prop := ∃ z1 : Nat, sm_g h x0 3 0 = some (.ref z1) ∧ ∃ z2 : Int32, sm_g h z1 0 1 = some (.int z2) ∧ ((z2 ≤ x3 → Q (some (.int 0)) h) ∧ (¬ z2 ≤ x3 → ∃ z3 : Nat, sm_g h x0 3 0 = some (.ref z3) ∧ sm_V N d mm_B_at 0 z3 [.int (x1 + x3)] h (fun r5 h4 => ∃ z6 : Int32, r5 = some (.int z6) ∧ ∃ z7 : Nat, sm_g h4 x0 3 0 = some (.ref z7) ∧ sm_V N d mm_B_at 0 z7 [.int (x2 + x3)] h4 (fun r9 h8 => ∃ z10 : Int32, r9 = some (.int z10) ∧ ((z6 = z10 → ((z6 = 0 → Q (some (.int 1)) h8) ∧ (¬ z6 = 0 → sm_W N (d + 1) mm_P_clash 2 [(0, .ref x0), (1, .int x1), (2, .int x2), (3, .int (x3 + 1))] [] h8 Q))) ∧ (¬ z6 = z10 → ((z6 = 0 → ((z10 = 46 → sm_W N (d + 1) mm_P_clash 68 [] [] h8 Q) ∧ (¬ z10 = 46 → sm_W N (d + 1) mm_P_clash 56 [(4, .int z6), (5, .int z10)] [] h8 Q))) ∧ (¬ z6 = 0 → sm_W N (d + 1) mm_P_clash 56 [(4, .int z6), (5, .int z10)] [] h8 Q))))))))
set_option maxRecDepth 20000 in
set_option maxHeartbeats 4000000 in
theorem kP_clash_2 {N d : Nat} {h : sm_H} {Q : Option Value → sm_H → Prop} {x0 : Nat} {x1 : Int32} {x2 : Int32} {x3 : Int32} (hf : fP_clash_2 N d h Q x0 x1 x2 x3) : sm_W N (d + 1) mm_P_clash 2 [(0, .ref x0), (1, .int x1), (2, .int x2), (3, .int x3)] [] h Q := by
  unfold fP_clash_2 at hf
  refine sm_iload_n (k := 3) 3 3 (by decide +kernel) rfl rfl rfl ?_
  refine sm_aload_n (k := 0) 4 0 (by decide +kernel) rfl rfl rfl ?_
  obtain ⟨z1, ez1, hf⟩ := hf
  refine sm_get 7 (by decide +kernel) fl_P_14 ez1 rfl ?_
  obtain ⟨z2, ez2, hf⟩ := hf
  refine sm_get 10 (by decide +kernel) fl_P_114 ez2 rfl ?_
  refine sm_icmp_ge (off := 77) 13 87 (by decide +kernel) (by decide) rfl (fun q15 => ?_) (fun q15 => ?_)
  · have hf := hf.1 q15
    refine sm_iconst (i := 0) (x := 0) 88 (by decide +kernel) rfl rfl ?_
    exact sm_zret rfl (by decide +kernel) (by decide) hf
  · have hf := hf.2 q15
    refine sm_aload_n (k := 0) 14 0 (by decide +kernel) rfl rfl rfl ?_
    obtain ⟨z3, ez3, hf⟩ := hf
    refine sm_get 17 (by decide +kernel) fl_P_14 ez3 rfl ?_
    refine sm_iload_n (k := 1) 18 1 (by decide +kernel) rfl rfl rfl ?_
    refine sm_iload_n (k := 3) 19 3 (by decide +kernel) rfl rfl rfl ?_
    refine sm_iadd 20 (by decide +kernel) rfl ?_
    refine sm_callV (M2 := mm_B_at) (av := [.int (x1 + x3)]) (rest := []) 23 (by decide +kernel) ml_P_56 (Nat.le_refl _) rfl rfl (by first | exact Nat.le_of_ble_eq_true rfl | simp [sm_rfc, Value.category]) rfl hf ?_
    rintro r5 h4 ⟨z6, rfl, hf⟩
    change sm_W N (d + 1) mm_P_clash 23 [(0, .ref x0), (1, .int x1), (2, .int x2), (3, .int x3)] [.int z6] h4 Q
    refine sm_istore (i := 4) 25 [(4, .int z6), (0, .ref x0), (1, .int x1), (2, .int x2), (3, .int x3)] (by decide +kernel) (by decide) (by first | rfl | simp [sm_rfc]) rfl ?_
    refine sm_aload_n (k := 0) 26 1 (by decide +kernel) rfl rfl rfl ?_
    obtain ⟨z7, ez7, hf⟩ := hf
    refine sm_get 29 (by decide +kernel) fl_P_14 ez7 rfl ?_
    refine sm_iload_n (k := 2) 30 3 (by decide +kernel) rfl rfl rfl ?_
    refine sm_iload_n (k := 3) 31 4 (by decide +kernel) rfl rfl rfl ?_
    refine sm_iadd 32 (by decide +kernel) rfl ?_
    refine sm_callV (M2 := mm_B_at) (av := [.int (x2 + x3)]) (rest := []) 35 (by decide +kernel) ml_P_56 (Nat.le_refl _) rfl rfl (by first | exact Nat.le_of_ble_eq_true rfl | simp [sm_rfc, Value.category]) rfl hf ?_
    rintro r9 h8 ⟨z10, rfl, hf⟩
    change sm_W N (d + 1) mm_P_clash 35 [(4, .int z6), (0, .ref x0), (1, .int x1), (2, .int x2), (3, .int x3)] [.int z10] h8 Q
    refine sm_istore (i := 5) 37 [(5, .int z10), (4, .int z6), (0, .ref x0), (1, .int x1), (2, .int x2), (3, .int x3)] (by decide +kernel) (by decide) (by first | rfl | simp [sm_rfc]) rfl ?_
    refine sm_iload (i := 4) 39 1 (by decide +kernel) rfl rfl ?_
    refine sm_iload (i := 5) 41 0 (by decide +kernel) rfl rfl ?_
    refine sm_icmp_eq (off := 33) 44 74 (by decide +kernel) (by decide) rfl (fun q14 => ?_) (fun q14 => ?_)
    · have hf := hf.1 q14
      refine sm_iload (i := 4) 76 1 (by decide +kernel) rfl rfl ?_
      refine sm_if_ne (off := 5) 79 81 (by decide +kernel) (by decide) rfl (fun q11 => ?_) (fun q11 => ?_)
      · have hf := hf.2 q11
        refine sm_iinc (i := 3) (j := 5) (z := 1) (y := x3 + 1) 84 [(3, .int (x3 + 1)), (5, .int z10), (4, .int z6), (0, .ref x0), (1, .int x1), (2, .int x2)] (by decide +kernel) rfl (by rfl) (by decide) rfl rfl ?_
        refine sm_goto (off := -82) 2 (by decide +kernel) (by decide) ?_
        exact sm_sub [3, 4, 5, 0] rfl hf
      · have hf := hf.1 q11
        refine sm_iconst (i := 1) (x := 1) 80 (by decide +kernel) rfl rfl ?_
        exact sm_zret rfl (by decide +kernel) (by decide) hf
    · have hf := hf.2 q14
      refine sm_iload (i := 4) 46 1 (by decide +kernel) rfl rfl ?_
      refine sm_if_ne (off := 10) 49 56 (by decide +kernel) (by decide) rfl (fun q13 => ?_) (fun q13 => ?_)
      · have hf := hf.2 q13
        exact sm_sub [1, 0] rfl hf
      · have hf := hf.1 q13
        refine sm_iload (i := 5) 51 0 (by decide +kernel) rfl rfl ?_
        refine sm_bipush (i := 46) (x := 46) 53 (by decide +kernel) (by decide) rfl ?_
        refine sm_icmp_eq (off := 15) 56 68 (by decide +kernel) (by decide) rfl (fun q12 => ?_) (fun q12 => ?_)
        · have hf := hf.1 q12
          exact sm_sub [] rfl hf
        · have hf := hf.2 q12
          exact sm_sub [1, 0] rfl hf
def fP_clash_56 (N d : Nat) (h : sm_H) (Q : Option Value → sm_H → Prop) (x4 : Int32) (x5 : Int32) : Prop := ((x4 = 46 → ((x5 = 0 → sm_W N (d + 1) mm_P_clash 68 [] [] h Q) ∧ (¬ x5 = 0 → Q (some (.int 0)) h))) ∧ (¬ x4 = 46 → Q (some (.int 0)) h))
set_option maxRecDepth 20000 in
set_option maxHeartbeats 4000000 in
theorem kP_clash_56 {N d : Nat} {h : sm_H} {Q : Option Value → sm_H → Prop} {x4 : Int32} {x5 : Int32} (hf : fP_clash_56 N d h Q x4 x5) : sm_W N (d + 1) mm_P_clash 56 [(4, .int x4), (5, .int x5)] [] h Q := by
  unfold fP_clash_56 at hf
  refine sm_iload (i := 4) 58 0 (by decide +kernel) rfl rfl ?_
  refine sm_bipush (i := 46) (x := 46) 60 (by decide +kernel) (by decide) rfl ?_
  refine sm_icmp_ne (off := 12) 63 72 (by decide +kernel) (by decide) rfl (fun q2 => ?_) (fun q2 => ?_)
  · have hf := hf.2 q2
    refine sm_iconst (i := 0) (x := 0) 73 (by decide +kernel) rfl rfl ?_
    exact sm_zret rfl (by decide +kernel) (by decide) hf
  · have hf := hf.1 q2
    refine sm_iload (i := 5) 65 1 (by decide +kernel) rfl rfl ?_
    refine sm_if_ne (off := 7) 68 72 (by decide +kernel) (by decide) rfl (fun q1 => ?_) (fun q1 => ?_)
    · have hf := hf.2 q1
      refine sm_iconst (i := 0) (x := 0) 73 (by decide +kernel) rfl rfl ?_
      exact sm_zret rfl (by decide +kernel) (by decide) hf
    · have hf := hf.1 q1
      exact sm_sub [] rfl hf
def fP_clash_68 (N d : Nat) (h : sm_H) (Q : Option Value → sm_H → Prop)  : Prop := Q (some (.int 1)) h
set_option maxRecDepth 20000 in
set_option maxHeartbeats 4000000 in
theorem kP_clash_68 {N d : Nat} {h : sm_H} {Q : Option Value → sm_H → Prop}  (hf : fP_clash_68 N d h Q ) : sm_W N (d + 1) mm_P_clash 68 [] [] h Q := by
  unfold fP_clash_68 at hf
  refine sm_iconst (i := 1) (x := 1) 69 (by decide +kernel) rfl rfl ?_
  refine sm_goto (off := 4) 73 (by decide +kernel) (by decide) ?_
  exact sm_zret rfl (by decide +kernel) (by decide) hf
theorem cP_clash {N d : Nat} {h : sm_H} {Q : Option Value → sm_H → Prop} {x0 : Nat} {x1 : Int32} {x2 : Int32} (hb : ∃ fs, h[x0]? = some (.inr (3, fs))) (hf : fP_clash_0 N d h Q x0 x1 x2) : sm_V N (d + 1) mm_P_clash 3 x0 [.int x1, .int x2] h Q := ⟨hb, sm_meth (by decide +kernel) (fun _ => Nat.le_of_ble_eq_true rfl) (fun _ => rfl) (kP_clash_0 hf)⟩
def fP_elementOf_0 (N d : Nat) (h : sm_H) (Q : Option Value → sm_H → Prop) (x0 : Nat) (x1 : Int32) : Prop := ((x1 < 0 → Q (some (.int 0)) h) ∧ (¬ x1 < 0 → ∃ z1 : Int32, sm_g h x0 3 5 = some (.int z1) ∧ ((z1 ≤ x1 → Q (some (.int 0)) h) ∧ (¬ z1 ≤ x1 → ∃ z2 : Nat, sm_g h x0 3 1 = some (.ref z2) ∧ ∃ z3 : Int32, sm_n h z2 = some z3 ∧ ((z3 ≤ x1 → Q (some (.int 0)) h) ∧ (¬ z3 ≤ x1 → ∃ z4 : Nat, sm_g h x0 3 1 = some (.ref z4) ∧ ∃ z5 : Int32, sm_gi h z4 1 x1 = some z5 ∧ Q (some (.int z5)) h))))))
set_option maxRecDepth 20000 in
set_option maxHeartbeats 4000000 in
theorem kP_elementOf_0 {N d : Nat} {h : sm_H} {Q : Option Value → sm_H → Prop} {x0 : Nat} {x1 : Int32} (hf : fP_elementOf_0 N d h Q x0 x1) : sm_W N (d + 1) mm_P_elementOf 0 [(0, .ref x0), (1, .int x1)] [] h Q := by
  unfold fP_elementOf_0 at hf
  refine sm_iload_n (k := 1) 1 1 (by decide +kernel) rfl rfl rfl ?_
  refine sm_if_lt (off := 29) 4 30 (by decide +kernel) (by decide) rfl (fun q8 => ?_) (fun q8 => ?_)
  · have hf := hf.1 q8
    refine sm_iconst (i := 0) (x := 0) 31 (by decide +kernel) rfl rfl ?_
    exact sm_iret rfl (by decide +kernel) hf
  · have hf := hf.2 q8
    refine sm_iload_n (k := 1) 5 1 (by decide +kernel) rfl rfl rfl ?_
    refine sm_aload_n (k := 0) 6 0 (by decide +kernel) rfl rfl rfl ?_
    obtain ⟨z1, ez1, hf⟩ := hf
    refine sm_get 9 (by decide +kernel) fl_P_33 ez1 rfl ?_
    refine sm_icmp_ge (off := 21) 12 30 (by decide +kernel) (by decide) rfl (fun q7 => ?_) (fun q7 => ?_)
    · have hf := hf.1 q7
      refine sm_iconst (i := 0) (x := 0) 31 (by decide +kernel) rfl rfl ?_
      exact sm_iret rfl (by decide +kernel) hf
    · have hf := hf.2 q7
      refine sm_iload_n (k := 1) 13 1 (by decide +kernel) rfl rfl rfl ?_
      refine sm_aload_n (k := 0) 14 0 (by decide +kernel) rfl rfl rfl ?_
      obtain ⟨z2, ez2, hf⟩ := hf
      refine sm_get 17 (by decide +kernel) fl_P_20 ez2 rfl ?_
      obtain ⟨z3, ez3, hf⟩ := hf
      refine sm_alen 18 (by decide +kernel) ez3 rfl ?_
      refine sm_icmp_ge (off := 12) 21 30 (by decide +kernel) (by decide) rfl (fun q6 => ?_) (fun q6 => ?_)
      · have hf := hf.1 q6
        refine sm_iconst (i := 0) (x := 0) 31 (by decide +kernel) rfl rfl ?_
        exact sm_iret rfl (by decide +kernel) hf
      · have hf := hf.2 q6
        refine sm_aload_n (k := 0) 22 0 (by decide +kernel) rfl rfl rfl ?_
        obtain ⟨z4, ez4, hf⟩ := hf
        refine sm_get 25 (by decide +kernel) fl_P_20 ez4 rfl ?_
        refine sm_iload_n (k := 1) 26 1 (by decide +kernel) rfl rfl rfl ?_
        obtain ⟨z5, ez5, hf⟩ := hf
        refine sm_iald 27 (by decide +kernel) ez5 rfl ?_
        refine sm_goto (off := 4) 31 (by decide +kernel) (by decide) ?_
        exact sm_iret rfl (by decide +kernel) hf
theorem cP_elementOf {N d : Nat} {h : sm_H} {Q : Option Value → sm_H → Prop} {x0 : Nat} {x1 : Int32} (hb : ∃ fs, h[x0]? = some (.inr (3, fs))) (hf : fP_elementOf_0 N d h Q x0 x1) : sm_V N (d + 1) mm_P_elementOf 3 x0 [.int x1] h Q := ⟨hb, sm_meth (by decide +kernel) (fun _ => Nat.le_of_ble_eq_true rfl) (fun _ => rfl) (kP_elementOf_0 hf)⟩
def fP_codeOfPath_0 (N d : Nat) (h : sm_H) (Q : Option Value → sm_H → Prop) (x0 : Nat) (x1 : Int32) : Prop := ((x1 < 0 → Q (some (.int (-1))) h) ∧ (¬ x1 < 0 → ∃ z1 : Int32, sm_g h x0 3 5 = some (.int z1) ∧ ((z1 ≤ x1 → Q (some (.int (-1))) h) ∧ (¬ z1 ≤ x1 → ∃ z2 : Nat, sm_g h x0 3 2 = some (.ref z2) ∧ ∃ z3 : Int32, sm_n h z2 = some z3 ∧ ((z3 ≤ x1 → Q (some (.int (-1))) h) ∧ (¬ z3 ≤ x1 → ∃ z4 : Nat, sm_g h x0 3 2 = some (.ref z4) ∧ ∃ z5 : Int32, sm_gi h z4 1 x1 = some z5 ∧ Q (some (.int z5)) h))))))
set_option maxRecDepth 20000 in
set_option maxHeartbeats 4000000 in
theorem kP_codeOfPath_0 {N d : Nat} {h : sm_H} {Q : Option Value → sm_H → Prop} {x0 : Nat} {x1 : Int32} (hf : fP_codeOfPath_0 N d h Q x0 x1) : sm_W N (d + 1) mm_P_codeOfPath 0 [(0, .ref x0), (1, .int x1)] [] h Q := by
  unfold fP_codeOfPath_0 at hf
  refine sm_iload_n (k := 1) 1 1 (by decide +kernel) rfl rfl rfl ?_
  refine sm_if_lt (off := 29) 4 30 (by decide +kernel) (by decide) rfl (fun q8 => ?_) (fun q8 => ?_)
  · have hf := hf.1 q8
    refine sm_iconst (i := -1) (x := (-1)) 31 (by decide +kernel) rfl rfl ?_
    exact sm_iret rfl (by decide +kernel) hf
  · have hf := hf.2 q8
    refine sm_iload_n (k := 1) 5 1 (by decide +kernel) rfl rfl rfl ?_
    refine sm_aload_n (k := 0) 6 0 (by decide +kernel) rfl rfl rfl ?_
    obtain ⟨z1, ez1, hf⟩ := hf
    refine sm_get 9 (by decide +kernel) fl_P_33 ez1 rfl ?_
    refine sm_icmp_ge (off := 21) 12 30 (by decide +kernel) (by decide) rfl (fun q7 => ?_) (fun q7 => ?_)
    · have hf := hf.1 q7
      refine sm_iconst (i := -1) (x := (-1)) 31 (by decide +kernel) rfl rfl ?_
      exact sm_iret rfl (by decide +kernel) hf
    · have hf := hf.2 q7
      refine sm_iload_n (k := 1) 13 1 (by decide +kernel) rfl rfl rfl ?_
      refine sm_aload_n (k := 0) 14 0 (by decide +kernel) rfl rfl rfl ?_
      obtain ⟨z2, ez2, hf⟩ := hf
      refine sm_get 17 (by decide +kernel) fl_P_24 ez2 rfl ?_
      obtain ⟨z3, ez3, hf⟩ := hf
      refine sm_alen 18 (by decide +kernel) ez3 rfl ?_
      refine sm_icmp_ge (off := 12) 21 30 (by decide +kernel) (by decide) rfl (fun q6 => ?_) (fun q6 => ?_)
      · have hf := hf.1 q6
        refine sm_iconst (i := -1) (x := (-1)) 31 (by decide +kernel) rfl rfl ?_
        exact sm_iret rfl (by decide +kernel) hf
      · have hf := hf.2 q6
        refine sm_aload_n (k := 0) 22 0 (by decide +kernel) rfl rfl rfl ?_
        obtain ⟨z4, ez4, hf⟩ := hf
        refine sm_get 25 (by decide +kernel) fl_P_24 ez4 rfl ?_
        refine sm_iload_n (k := 1) 26 1 (by decide +kernel) rfl rfl rfl ?_
        obtain ⟨z5, ez5, hf⟩ := hf
        refine sm_iald 27 (by decide +kernel) ez5 rfl ?_
        refine sm_goto (off := 4) 31 (by decide +kernel) (by decide) ?_
        exact sm_iret rfl (by decide +kernel) hf
theorem cP_codeOfPath {N d : Nat} {h : sm_H} {Q : Option Value → sm_H → Prop} {x0 : Nat} {x1 : Int32} (hb : ∃ fs, h[x0]? = some (.inr (3, fs))) (hf : fP_codeOfPath_0 N d h Q x0 x1) : sm_V N (d + 1) mm_P_codeOfPath 3 x0 [.int x1] h Q := ⟨hb, sm_meth (by decide +kernel) (fun _ => Nat.le_of_ble_eq_true rfl) (fun _ => rfl) (kP_codeOfPath_0 hf)⟩
def fP_operatorOf_0 (N d : Nat) (h : sm_H) (Q : Option Value → sm_H → Prop) (x0 : Nat) (x1 : Int32) : Prop := ((x1 < 0 → Q (some (.int (-1))) h) ∧ (¬ x1 < 0 → ∃ z1 : Int32, sm_g h x0 3 5 = some (.int z1) ∧ ((z1 ≤ x1 → Q (some (.int (-1))) h) ∧ (¬ z1 ≤ x1 → ∃ z2 : Nat, sm_g h x0 3 3 = some (.ref z2) ∧ ∃ z3 : Int32, sm_n h z2 = some z3 ∧ ((z3 ≤ x1 → Q (some (.int (-1))) h) ∧ (¬ z3 ≤ x1 → ∃ z4 : Nat, sm_g h x0 3 3 = some (.ref z4) ∧ ∃ z5 : Int32, sm_gi h z4 1 x1 = some z5 ∧ Q (some (.int z5)) h))))))
set_option maxRecDepth 20000 in
set_option maxHeartbeats 4000000 in
theorem kP_operatorOf_0 {N d : Nat} {h : sm_H} {Q : Option Value → sm_H → Prop} {x0 : Nat} {x1 : Int32} (hf : fP_operatorOf_0 N d h Q x0 x1) : sm_W N (d + 1) mm_P_operatorOf 0 [(0, .ref x0), (1, .int x1)] [] h Q := by
  unfold fP_operatorOf_0 at hf
  refine sm_iload_n (k := 1) 1 1 (by decide +kernel) rfl rfl rfl ?_
  refine sm_if_lt (off := 29) 4 30 (by decide +kernel) (by decide) rfl (fun q8 => ?_) (fun q8 => ?_)
  · have hf := hf.1 q8
    refine sm_iconst (i := -1) (x := (-1)) 31 (by decide +kernel) rfl rfl ?_
    exact sm_iret rfl (by decide +kernel) hf
  · have hf := hf.2 q8
    refine sm_iload_n (k := 1) 5 1 (by decide +kernel) rfl rfl rfl ?_
    refine sm_aload_n (k := 0) 6 0 (by decide +kernel) rfl rfl rfl ?_
    obtain ⟨z1, ez1, hf⟩ := hf
    refine sm_get 9 (by decide +kernel) fl_P_33 ez1 rfl ?_
    refine sm_icmp_ge (off := 21) 12 30 (by decide +kernel) (by decide) rfl (fun q7 => ?_) (fun q7 => ?_)
    · have hf := hf.1 q7
      refine sm_iconst (i := -1) (x := (-1)) 31 (by decide +kernel) rfl rfl ?_
      exact sm_iret rfl (by decide +kernel) hf
    · have hf := hf.2 q7
      refine sm_iload_n (k := 1) 13 1 (by decide +kernel) rfl rfl rfl ?_
      refine sm_aload_n (k := 0) 14 0 (by decide +kernel) rfl rfl rfl ?_
      obtain ⟨z2, ez2, hf⟩ := hf
      refine sm_get 17 (by decide +kernel) fl_P_27 ez2 rfl ?_
      obtain ⟨z3, ez3, hf⟩ := hf
      refine sm_alen 18 (by decide +kernel) ez3 rfl ?_
      refine sm_icmp_ge (off := 12) 21 30 (by decide +kernel) (by decide) rfl (fun q6 => ?_) (fun q6 => ?_)
      · have hf := hf.1 q6
        refine sm_iconst (i := -1) (x := (-1)) 31 (by decide +kernel) rfl rfl ?_
        exact sm_iret rfl (by decide +kernel) hf
      · have hf := hf.2 q6
        refine sm_aload_n (k := 0) 22 0 (by decide +kernel) rfl rfl rfl ?_
        obtain ⟨z4, ez4, hf⟩ := hf
        refine sm_get 25 (by decide +kernel) fl_P_27 ez4 rfl ?_
        refine sm_iload_n (k := 1) 26 1 (by decide +kernel) rfl rfl rfl ?_
        obtain ⟨z5, ez5, hf⟩ := hf
        refine sm_iald 27 (by decide +kernel) ez5 rfl ?_
        refine sm_goto (off := 4) 31 (by decide +kernel) (by decide) ?_
        exact sm_iret rfl (by decide +kernel) hf
theorem cP_operatorOf {N d : Nat} {h : sm_H} {Q : Option Value → sm_H → Prop} {x0 : Nat} {x1 : Int32} (hb : ∃ fs, h[x0]? = some (.inr (3, fs))) (hf : fP_operatorOf_0 N d h Q x0 x1) : sm_V N (d + 1) mm_P_operatorOf 3 x0 [.int x1] h Q := ⟨hb, sm_meth (by decide +kernel) (fun _ => Nat.le_of_ble_eq_true rfl) (fun _ => rfl) (kP_operatorOf_0 hf)⟩
def fP_numberOf_0 (N d : Nat) (h : sm_H) (Q : Option Value → sm_H → Prop) (x0 : Nat) (x1 : Int32) : Prop := ((x1 < 0 → Q (some (.int (-1))) h) ∧ (¬ x1 < 0 → ∃ z1 : Int32, sm_g h x0 3 5 = some (.int z1) ∧ ((z1 ≤ x1 → Q (some (.int (-1))) h) ∧ (¬ z1 ≤ x1 → ∃ z2 : Nat, sm_g h x0 3 4 = some (.ref z2) ∧ ∃ z3 : Int32, sm_n h z2 = some z3 ∧ ((z3 ≤ x1 → Q (some (.int (-1))) h) ∧ (¬ z3 ≤ x1 → ∃ z4 : Nat, sm_g h x0 3 4 = some (.ref z4) ∧ ∃ z5 : Int32, sm_gi h z4 1 x1 = some z5 ∧ Q (some (.int z5)) h))))))
set_option maxRecDepth 20000 in
set_option maxHeartbeats 4000000 in
theorem kP_numberOf_0 {N d : Nat} {h : sm_H} {Q : Option Value → sm_H → Prop} {x0 : Nat} {x1 : Int32} (hf : fP_numberOf_0 N d h Q x0 x1) : sm_W N (d + 1) mm_P_numberOf 0 [(0, .ref x0), (1, .int x1)] [] h Q := by
  unfold fP_numberOf_0 at hf
  refine sm_iload_n (k := 1) 1 1 (by decide +kernel) rfl rfl rfl ?_
  refine sm_if_lt (off := 29) 4 30 (by decide +kernel) (by decide) rfl (fun q8 => ?_) (fun q8 => ?_)
  · have hf := hf.1 q8
    refine sm_iconst (i := -1) (x := (-1)) 31 (by decide +kernel) rfl rfl ?_
    exact sm_iret rfl (by decide +kernel) hf
  · have hf := hf.2 q8
    refine sm_iload_n (k := 1) 5 1 (by decide +kernel) rfl rfl rfl ?_
    refine sm_aload_n (k := 0) 6 0 (by decide +kernel) rfl rfl rfl ?_
    obtain ⟨z1, ez1, hf⟩ := hf
    refine sm_get 9 (by decide +kernel) fl_P_33 ez1 rfl ?_
    refine sm_icmp_ge (off := 21) 12 30 (by decide +kernel) (by decide) rfl (fun q7 => ?_) (fun q7 => ?_)
    · have hf := hf.1 q7
      refine sm_iconst (i := -1) (x := (-1)) 31 (by decide +kernel) rfl rfl ?_
      exact sm_iret rfl (by decide +kernel) hf
    · have hf := hf.2 q7
      refine sm_iload_n (k := 1) 13 1 (by decide +kernel) rfl rfl rfl ?_
      refine sm_aload_n (k := 0) 14 0 (by decide +kernel) rfl rfl rfl ?_
      obtain ⟨z2, ez2, hf⟩ := hf
      refine sm_get 17 (by decide +kernel) fl_P_30 ez2 rfl ?_
      obtain ⟨z3, ez3, hf⟩ := hf
      refine sm_alen 18 (by decide +kernel) ez3 rfl ?_
      refine sm_icmp_ge (off := 12) 21 30 (by decide +kernel) (by decide) rfl (fun q6 => ?_) (fun q6 => ?_)
      · have hf := hf.1 q6
        refine sm_iconst (i := -1) (x := (-1)) 31 (by decide +kernel) rfl rfl ?_
        exact sm_iret rfl (by decide +kernel) hf
      · have hf := hf.2 q6
        refine sm_aload_n (k := 0) 22 0 (by decide +kernel) rfl rfl rfl ?_
        obtain ⟨z4, ez4, hf⟩ := hf
        refine sm_get 25 (by decide +kernel) fl_P_30 ez4 rfl ?_
        refine sm_iload_n (k := 1) 26 1 (by decide +kernel) rfl rfl rfl ?_
        obtain ⟨z5, ez5, hf⟩ := hf
        refine sm_iald 27 (by decide +kernel) ez5 rfl ?_
        refine sm_goto (off := 4) 31 (by decide +kernel) (by decide) ?_
        exact sm_iret rfl (by decide +kernel) hf
theorem cP_numberOf {N d : Nat} {h : sm_H} {Q : Option Value → sm_H → Prop} {x0 : Nat} {x1 : Int32} (hb : ∃ fs, h[x0]? = some (.inr (3, fs))) (hf : fP_numberOf_0 N d h Q x0 x1) : sm_V N (d + 1) mm_P_numberOf 3 x0 [.int x1] h Q := ⟨hb, sm_meth (by decide +kernel) (fun _ => Nat.le_of_ble_eq_true rfl) (fun _ => rfl) (kP_numberOf_0 hf)⟩
