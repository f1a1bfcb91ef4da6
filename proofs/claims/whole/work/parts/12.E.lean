def fE_perform_0 (N d : Nat) (h : sm_H) (Q : Option Value → sm_H → Prop) (x0 : Nat) (x1 : Nat) : Prop := ∃ h1, sm_p h x0 2 10 (.int 0) = some h1 ∧ sm_W N (d + 1) mm_E_perform 9 [(0, .ref x0), (1, .ref x1), (2, .int 0), (3, .int 0)] [] h1 Q
set_option maxRecDepth 20000 in
set_option maxHeartbeats 4000000 in
theorem kE_perform_0 {N d : Nat} {h : sm_H} {Q : Option Value → sm_H → Prop} {x0 : Nat} {x1 : Nat} (hf : fE_perform_0 N d h Q x0 x1) : sm_W N (d + 1) mm_E_perform 0 [(0, .ref x0), (1, .ref x1)] [] h Q := by
  unfold fE_perform_0 at hf
  refine sm_iconst (i := 0) (x := 0) 1 (by decide +kernel) rfl rfl ?_
  refine sm_istore_n (k := 2) 2 [(2, .int 0), (0, .ref x0), (1, .ref x1)] (by decide +kernel) rfl (by decide) (by first | rfl | simp [sm_rfc]) rfl ?_
  refine sm_aload_n (k := 0) 3 1 (by decide +kernel) rfl rfl rfl ?_
  refine sm_iconst (i := 0) (x := 0) 4 (by decide +kernel) rfl rfl ?_
  obtain ⟨h1, eh1, hf⟩ := hf
  refine sm_put (ty := .boolean) 7 (by decide +kernel) fp_E_49 (fun _ => rfl) rfl rfl eh1 rfl ?_
  refine sm_iconst (i := 0) (x := 0) 8 (by decide +kernel) rfl rfl ?_
  refine sm_istore_n (k := 3) 9 [(3, .int 0), (2, .int 0), (0, .ref x0), (1, .ref x1)] (by decide +kernel) rfl (by decide) (by first | rfl | simp [sm_rfc]) rfl ?_
  exact sm_sub [2, 3, 1, 0] rfl hf
def fE_perform_9 (N d : Nat) (h : sm_H) (Q : Option Value → sm_H → Prop) (x0 : Nat) (x1 : Nat) (x2 : Int32) (x3 : Int32) : Prop := ∃ z1 : Int32, sm_g h x1 3 5 = some (.int z1) ∧ ((z1 ≤ x3 → ∃ h2, sm_p h x0 2 11 (.int (-1)) = some h2 ∧ ∃ z3 : Int32, sm_g h2 x0 2 10 = some (.int z3) ∧ ((z3 = 0 → ∃ z4 : Nat, sm_g h2 x0 2 0 = some (.ref z4) ∧ ∃ z5 : Int32, sm_g h2 z4 0 1 = some (.int z5) ∧ ((2000 < z5 → Q (some (.int (-9))) h2) ∧ (¬ 2000 < z5 → ∃ z6 : Nat, sm_g h2 x0 2 0 = some (.ref z6) ∧ sm_T N d mm_D_deepest [.ref z6, .int 0, .int 1] h2 (fun r8 h7 => ∃ z9 : Int32, r8 = some (.int z9) ∧ ((z9 ≤ 16 → Q (some (.int x2)) h7) ∧ (¬ z9 ≤ 16 → Q (some (.int (-9))) h7)))))) ∧ (¬ z3 = 0 → Q (some (.int (-9))) h2))) ∧ (¬ z1 ≤ x3 → ∃ h13, sm_p h x0 2 11 (.int x3) = some h13 ∧ ∃ z14 : Nat, sm_g h13 x1 3 0 = some (.ref z14) ∧ sm_V N d mm_P_elementOf 3 x1 [.int x3] h13 (fun r16 h15 => ∃ z17 : Int32, r16 = some (.int z17) ∧ sm_V N d mm_P_codeOfPath 3 x1 [.int x3] h15 (fun r19 h18 => ∃ z20 : Int32, r19 = some (.int z20) ∧ sm_V N d mm_E_performPath 2 x0 [.ref z14, .int z17, .int z20] h18 (fun r22 h21 => ∃ z23 : Int32, r22 = some (.int z23) ∧ ((0 ≤ z23 → sm_W N (d + 1) mm_E_perform 9 [(0, .ref x0), (1, .ref x1), (2, .int (x2 + z23)), (3, .int (x3 + 1))] [] h21 Q) ∧ (¬ 0 ≤ z23 → Q (some (.int z23)) h21)))))))
set_option maxRecDepth 20000 in
set_option maxHeartbeats 4000000 in
theorem kE_perform_9 {N d : Nat} {h : sm_H} {Q : Option Value → sm_H → Prop} {x0 : Nat} {x1 : Nat} {x2 : Int32} {x3 : Int32} (hf : fE_perform_9 N d h Q x0 x1 x2 x3) : sm_W N (d + 1) mm_E_perform 9 [(0, .ref x0), (1, .ref x1), (2, .int x2), (3, .int x3)] [] h Q := by
  unfold fE_perform_9 at hf
  refine sm_iload_n (k := 3) 10 3 (by decide +kernel) rfl rfl rfl ?_
  refine sm_aload_n (k := 1) 11 1 (by decide +kernel) rfl rfl rfl ?_
  obtain ⟨z1, ez1, hf⟩ := hf
  refine sm_get 14 (by decide +kernel) fl_E_59 ez1 rfl ?_
  refine sm_icmp_ge (off := 47) 17 61 (by decide +kernel) (by decide) rfl (fun q25 => ?_) (fun q25 => ?_)
  · have hf := hf.1 q25
    refine sm_aload_n (k := 0) 62 0 (by decide +kernel) rfl rfl rfl ?_
    refine sm_iconst (i := -1) (x := (-1)) 63 (by decide +kernel) rfl rfl ?_
    obtain ⟨h2, eh2, hf⟩ := hf
    refine sm_put (ty := .int) 66 (by decide +kernel) fp_E_53 (fun _ => rfl) rfl rfl eh2 rfl ?_
    refine sm_aload_n (k := 0) 67 0 (by decide +kernel) rfl rfl rfl ?_
    obtain ⟨z3, ez3, hf⟩ := hf
    refine sm_get 70 (by decide +kernel) fl_E_49 ez3 rfl ?_
    refine sm_if_ne (off := 30) 73 100 (by decide +kernel) (by decide) rfl (fun q12 => ?_) (fun q12 => ?_)
    · have hf := hf.2 q12
      refine sm_bipush (i := -9) (x := (-9)) 102 (by decide +kernel) (by decide) rfl ?_
      exact sm_iret rfl (by decide +kernel) hf
    · have hf := hf.1 q12
      refine sm_aload_n (k := 0) 74 0 (by decide +kernel) rfl rfl rfl ?_
      obtain ⟨z4, ez4, hf⟩ := hf
      refine sm_get 77 (by decide +kernel) fl_E_14 ez4 rfl ?_
      obtain ⟨z5, ez5, hf⟩ := hf
      refine sm_get 80 (by decide +kernel) fl_E_78 ez5 rfl ?_
      refine sm_sipush (i := 2000) (x := 2000) 83 (by decide +kernel) (by decide) rfl ?_
      refine sm_icmp_gt (off := 17) 86 100 (by decide +kernel) (by decide) rfl (fun q11 => ?_) (fun q11 => ?_)
      · have hf := hf.1 q11
        refine sm_bipush (i := -9) (x := (-9)) 102 (by decide +kernel) (by decide) rfl ?_
        exact sm_iret rfl (by decide +kernel) hf
      · have hf := hf.2 q11
        refine sm_aload_n (k := 0) 87 0 (by decide +kernel) rfl rfl rfl ?_
        obtain ⟨z6, ez6, hf⟩ := hf
        refine sm_get 90 (by decide +kernel) fl_E_14 ez6 rfl ?_
        refine sm_iconst (i := 0) (x := 0) 91 (by decide +kernel) rfl rfl ?_
        refine sm_iconst (i := 1) (x := 1) 92 (by decide +kernel) rfl rfl ?_
        refine sm_callN (M2 := mm_D_deepest) (av := [.ref z6, .int 0, .int 1]) (rest := []) 95 (by decide +kernel) ml_E_81 (Nat.le_refl _) rfl rfl (by first | exact Nat.le_of_ble_eq_true rfl | simp [sm_rfc, Value.category]) rfl hf ?_
        rintro r8 h7 ⟨z9, rfl, hf⟩
        change sm_W N (d + 1) mm_E_perform 95 [(0, .ref x0), (1, .ref x1), (2, .int x2), (3, .int x3)] [.int z9] h7 Q
        refine sm_bipush (i := 16) (x := 16) 97 (by decide +kernel) (by decide) rfl ?_
        refine sm_icmp_le (off := 6) 100 103 (by decide +kernel) (by decide) rfl (fun q10 => ?_) (fun q10 => ?_)
        · have hf := hf.1 q10
          refine sm_iload_n (k := 2) 104 2 (by decide +kernel) rfl rfl rfl ?_
          exact sm_iret rfl (by decide +kernel) hf
        · have hf := hf.2 q10
          refine sm_bipush (i := -9) (x := (-9)) 102 (by decide +kernel) (by decide) rfl ?_
          exact sm_iret rfl (by decide +kernel) hf
  · have hf := hf.2 q25
    refine sm_aload_n (k := 0) 18 0 (by decide +kernel) rfl rfl rfl ?_
    refine sm_iload_n (k := 3) 19 3 (by decide +kernel) rfl rfl rfl ?_
    obtain ⟨h13, eh13, hf⟩ := hf
    refine sm_put (ty := .int) 22 (by decide +kernel) fp_E_53 (fun _ => rfl) rfl rfl eh13 rfl ?_
    refine sm_aload_n (k := 0) 23 0 (by decide +kernel) rfl rfl rfl ?_
    refine sm_aload_n (k := 1) 24 1 (by decide +kernel) rfl rfl rfl ?_
    obtain ⟨z14, ez14, hf⟩ := hf
    refine sm_get 27 (by decide +kernel) fl_E_64 ez14 rfl ?_
    refine sm_aload_n (k := 1) 28 1 (by decide +kernel) rfl rfl rfl ?_
    refine sm_iload_n (k := 3) 29 3 (by decide +kernel) rfl rfl rfl ?_
    refine sm_callV (M2 := mm_P_elementOf) (av := [.int x3]) (rest := [.ref z14, .ref x0]) 32 (by decide +kernel) ml_E_67 (Nat.le_refl _) rfl rfl (by first | exact Nat.le_of_ble_eq_true rfl | simp [sm_rfc, Value.category]) rfl hf ?_
    rintro r16 h15 ⟨z17, rfl, hf⟩
    change sm_W N (d + 1) mm_E_perform 32 [(0, .ref x0), (1, .ref x1), (2, .int x2), (3, .int x3)] [.int z17, .ref z14, .ref x0] h15 Q
    refine sm_aload_n (k := 1) 33 1 (by decide +kernel) rfl rfl rfl ?_
    refine sm_iload_n (k := 3) 34 3 (by decide +kernel) rfl rfl rfl ?_
    refine sm_callV (M2 := mm_P_codeOfPath) (av := [.int x3]) (rest := [.int z17, .ref z14, .ref x0]) 37 (by decide +kernel) ml_E_71 (Nat.le_refl _) rfl rfl (by first | exact Nat.le_of_ble_eq_true rfl | simp [sm_rfc, Value.category]) rfl hf ?_
    rintro r19 h18 ⟨z20, rfl, hf⟩
    change sm_W N (d + 1) mm_E_perform 37 [(0, .ref x0), (1, .ref x1), (2, .int x2), (3, .int x3)] [.int z20, .int z17, .ref z14, .ref x0] h18 Q
    refine sm_callV (M2 := mm_E_performPath) (av := [.ref z14, .int z17, .int z20]) (rest := []) 40 (by decide +kernel) ml_E_74 (Nat.le_refl _) rfl rfl (by first | exact Nat.le_of_ble_eq_true rfl | simp [sm_rfc, Value.category]) rfl hf ?_
    rintro r22 h21 ⟨z23, rfl, hf⟩
    change sm_W N (d + 1) mm_E_perform 40 [(0, .ref x0), (1, .ref x1), (2, .int x2), (3, .int x3)] [.int z23] h21 Q
    refine sm_istore (i := 4) 42 [(4, .int z23), (0, .ref x0), (1, .ref x1), (2, .int x2), (3, .int x3)] (by decide +kernel) (by decide) (by first | rfl | simp [sm_rfc]) rfl ?_
    refine sm_iload (i := 4) 44 0 (by decide +kernel) rfl rfl ?_
    refine sm_if_ge (off := 6) 47 50 (by decide +kernel) (by decide) rfl (fun q24 => ?_) (fun q24 => ?_)
    · have hf := hf.1 q24
      refine sm_iload_n (k := 2) 51 3 (by decide +kernel) rfl rfl rfl ?_
      refine sm_iload (i := 4) 53 0 (by decide +kernel) rfl rfl ?_
      refine sm_iadd 54 (by decide +kernel) rfl ?_
      refine sm_istore_n (k := 2) 55 [(2, .int (x2 + z23)), (4, .int z23), (0, .ref x0), (1, .ref x1), (3, .int x3)] (by decide +kernel) rfl (by decide) (by first | rfl | simp [sm_rfc]) rfl ?_
      refine sm_iinc (i := 3) (j := 4) (z := 1) (y := x3 + 1) 58 [(3, .int (x3 + 1)), (2, .int (x2 + z23)), (4, .int z23), (0, .ref x0), (1, .ref x1)] (by decide +kernel) rfl (by rfl) (by decide) rfl rfl ?_
      refine sm_goto (off := -49) 9 (by decide +kernel) (by decide) ?_
      exact sm_sub [3, 4, 1, 0] rfl hf
    · have hf := hf.2 q24
      refine sm_iload (i := 4) 49 0 (by decide +kernel) rfl rfl ?_
      exact sm_iret rfl (by decide +kernel) hf
theorem cE_perform {N d : Nat} {h : sm_H} {Q : Option Value → sm_H → Prop} {x0 : Nat} {x1 : Nat} (hb : ∃ fs, h[x0]? = some (.inr (2, fs))) (hf : fE_perform_0 N d h Q x0 x1) : sm_V N (d + 1) mm_E_perform 2 x0 [.ref x1] h Q := ⟨hb, sm_meth (by decide +kernel) (fun _ => Nat.le_of_ble_eq_true rfl) (fun _ => rfl) (kE_perform_0 hf)⟩
def fE_performPath_0 (N d : Nat) (h : sm_H) (Q : Option Value → sm_H → Prop) (x0 : Nat) (x1 : Nat) (x2 : Int32) (x3 : Int32) : Prop := ((x3 = 1 → sm_W N (d + 1) mm_E_performPath 14 [(0, .ref x0), (1, .ref x1), (2, .int x2), (3, .int x3)] [] h Q) ∧ (¬ x3 = 1 → ((x3 = 4 → sm_W N (d + 1) mm_E_performPath 14 [(0, .ref x0), (1, .ref x1), (2, .int x2), (3, .int x3)] [] h Q) ∧ (¬ x3 = 4 → sm_W N (d + 1) mm_E_performPath 15 [(0, .ref x0), (1, .ref x1), (2, .int x2), (3, .int x3)] [.int 1] h Q))))
set_option maxRecDepth 20000 in
set_option maxHeartbeats 4000000 in
theorem kE_performPath_0 {N d : Nat} {h : sm_H} {Q : Option Value → sm_H → Prop} {x0 : Nat} {x1 : Nat} {x2 : Int32} {x3 : Int32} (hf : fE_performPath_0 N d h Q x0 x1 x2 x3) : sm_W N (d + 1) mm_E_performPath 0 [(0, .ref x0), (1, .ref x1), (2, .int x2), (3, .int x3)] [] h Q := by
  unfold fE_performPath_0 at hf
  refine sm_iload_n (k := 3) 1 3 (by decide +kernel) rfl rfl rfl ?_
  refine sm_iconst (i := 1) (x := 1) 2 (by decide +kernel) rfl rfl ?_
  refine sm_icmp_eq (off := 12) 5 14 (by decide +kernel) (by decide) rfl (fun q2 => ?_) (fun q2 => ?_)
  · have hf := hf.1 q2
    exact sm_sub [0, 1, 2, 3] rfl hf
  · have hf := hf.2 q2
    refine sm_iload_n (k := 3) 6 3 (by decide +kernel) rfl rfl rfl ?_
    refine sm_iconst (i := 4) (x := 4) 7 (by decide +kernel) rfl rfl ?_
    refine sm_icmp_eq (off := 7) 10 14 (by decide +kernel) (by decide) rfl (fun q1 => ?_) (fun q1 => ?_)
    · have hf := hf.1 q1
      exact sm_sub [0, 1, 2, 3] rfl hf
    · have hf := hf.2 q1
      refine sm_iconst (i := 1) (x := 1) 11 (by decide +kernel) rfl rfl ?_
      refine sm_goto (off := 4) 15 (by decide +kernel) (by decide) ?_
      exact sm_sub [0, 1, 2, 3] rfl hf
def fE_performPath_14 (N d : Nat) (h : sm_H) (Q : Option Value → sm_H → Prop) (x0 : Nat) (x1 : Nat) (x2 : Int32) (x3 : Int32) : Prop := sm_W N (d + 1) mm_E_performPath 15 [(0, .ref x0), (1, .ref x1), (2, .int x2), (3, .int x3)] [.int 0] h Q
set_option maxRecDepth 20000 in
set_option maxHeartbeats 4000000 in
theorem kE_performPath_14 {N d : Nat} {h : sm_H} {Q : Option Value → sm_H → Prop} {x0 : Nat} {x1 : Nat} {x2 : Int32} {x3 : Int32} (hf : fE_performPath_14 N d h Q x0 x1 x2 x3) : sm_W N (d + 1) mm_E_performPath 14 [(0, .ref x0), (1, .ref x1), (2, .int x2), (3, .int x3)] [] h Q := by
  unfold fE_performPath_14 at hf
  refine sm_iconst (i := 0) (x := 0) 15 (by decide +kernel) rfl rfl ?_
  exact sm_sub [0, 1, 2, 3] rfl hf
def fE_performPath_15 (N d : Nat) (h : sm_H) (Q : Option Value → sm_H → Prop) (x0 : Nat) (x1 : Nat) (x2 : Int32) (x3 : Int32) (y0 : Int32) : Prop := sm_V N d mm_B_nameEnd 0 x1 [.int x2] h (fun r2 h1 => ∃ z3 : Int32, r2 = some (.int z3) ∧ sm_V N d mm_E_reach 2 x0 [.ref x1, .int (x2 + 1), .int z3, .int y0] h1 (fun r5 h4 => ∃ z6 : Int32, r5 = some (.int z6) ∧ ((z6 = 0 → ((y0 = 0 → Q (some (.int 0)) h4) ∧ (¬ y0 = 0 → Q (some (.int (-6))) h4))) ∧ (¬ z6 = 0 → ((x3 = 0 → sm_V N d mm_E_setValue 2 x0 [.ref x1, .int x2] h4 (fun r8 h7 => ∃ z9 : Int32, r8 = some (.int z9) ∧ Q (some (.int z9)) h7)) ∧ (x3 = 1 → sm_V N d mm_E_unsetValue 2 x0 [] h4 (fun r11 h10 => ∃ z12 : Int32, r11 = some (.int z12) ∧ Q (some (.int z12)) h10)) ∧ (x3 = 2 → ∃ z13 : Int32, sm_g h4 x0 2 7 = some (.int z13) ∧ ((z13 = (-1) → sm_V N d mm_E_setValue 2 x0 [.ref x1, .int x2] h4 (fun r18 h17 => ∃ z19 : Int32, r18 = some (.int z19) ∧ Q (some (.int z19)) h17)) ∧ (¬ z13 = (-1) → sm_V N d mm_E_increase 2 x0 [.ref x1, .int x2] h4 (fun r15 h14 => ∃ z16 : Int32, r15 = some (.int z16) ∧ Q (some (.int z16)) h14)))) ∧ (x3 = 3 → sm_V N d mm_E_addItem 2 x0 [.ref x1, .int x2] h4 (fun r22 h21 => ∃ z23 : Int32, r22 = some (.int z23) ∧ Q (some (.int z23)) h21)) ∧ (x3 = 4 → sm_V N d mm_E_pullItems 2 x0 [.ref x1, .int x2] h4 (fun r25 h24 => ∃ z26 : Int32, r25 = some (.int z26) ∧ Q (some (.int z26)) h24)) ∧ (x3 = 5 → sm_V N d mm_E_hasItem 2 x0 [.ref x1, .int x2] h4 (fun r28 h27 => ∃ z29 : Int32, r28 = some (.int z29) ∧ ((z29 = 0 → sm_V N d mm_E_addItem 2 x0 [.ref x1, .int x2] h27 (fun r31 h30 => ∃ z32 : Int32, r31 = some (.int z32) ∧ Q (some (.int z32)) h30)) ∧ (¬ z29 = 0 → Q (some (.int 0)) h27)))) ∧ ((¬ x3 = 0 ∧ ¬ x3 = 1 ∧ ¬ x3 = 2 ∧ ¬ x3 = 3 ∧ ¬ x3 = 4 ∧ ¬ x3 = 5) → Q (some (.int 0)) h4))))))
set_option maxRecDepth 20000 in
set_option maxHeartbeats 4000000 in
theorem kE_performPath_15 {N d : Nat} {h : sm_H} {Q : Option Value → sm_H → Prop} {x0 : Nat} {x1 : Nat} {x2 : Int32} {x3 : Int32} {y0 : Int32} (hf : fE_performPath_15 N d h Q x0 x1 x2 x3 y0) : sm_W N (d + 1) mm_E_performPath 15 [(0, .ref x0), (1, .ref x1), (2, .int x2), (3, .int x3)] [.int y0] h Q := by
  unfold fE_performPath_15 at hf
  refine sm_istore (i := 4) 17 [(4, .int y0), (0, .ref x0), (1, .ref x1), (2, .int x2), (3, .int x3)] (by decide +kernel) (by decide) (by first | rfl | simp [sm_rfc]) rfl ?_
  refine sm_aload_n (k := 0) 18 1 (by decide +kernel) rfl rfl rfl ?_
  refine sm_aload_n (k := 1) 19 2 (by decide +kernel) rfl rfl rfl ?_
  refine sm_iload_n (k := 2) 20 3 (by decide +kernel) rfl rfl rfl ?_
  refine sm_iconst (i := 1) (x := 1) 21 (by decide +kernel) rfl rfl ?_
  refine sm_iadd 22 (by decide +kernel) rfl ?_
  refine sm_aload_n (k := 1) 23 2 (by decide +kernel) rfl rfl rfl ?_
  refine sm_iload_n (k := 2) 24 3 (by decide +kernel) rfl rfl rfl ?_
  refine sm_callV (M2 := mm_B_nameEnd) (av := [.int x2]) (rest := [.int (x2 + 1), .ref x1, .ref x0]) 27 (by decide +kernel) ml_E_84 (Nat.le_refl _) rfl rfl (by first | exact Nat.le_of_ble_eq_true rfl | simp [sm_rfc, Value.category]) rfl hf ?_
  rintro r2 h1 ⟨z3, rfl, hf⟩
  change sm_W N (d + 1) mm_E_performPath 27 [(4, .int y0), (0, .ref x0), (1, .ref x1), (2, .int x2), (3, .int x3)] [.int z3, .int (x2 + 1), .ref x1, .ref x0] h1 Q
  refine sm_iload (i := 4) 29 0 (by decide +kernel) rfl rfl ?_
  refine sm_callV (M2 := mm_E_reach) (av := [.ref x1, .int (x2 + 1), .int z3, .int y0]) (rest := []) 32 (by decide +kernel) ml_E_87 (Nat.le_refl _) rfl rfl (by first | exact Nat.le_of_ble_eq_true rfl | simp [sm_rfc, Value.category]) rfl hf ?_
  rintro r5 h4 ⟨z6, rfl, hf⟩
  change sm_W N (d + 1) mm_E_performPath 32 [(4, .int y0), (0, .ref x0), (1, .ref x1), (2, .int x2), (3, .int x3)] [.int z6] h4 Q
  refine sm_if_ne (off := 15) 35 47 (by decide +kernel) (by decide) rfl (fun q35 => ?_) (fun q35 => ?_)
  · have hf := hf.2 q35
    refine sm_iload_n (k := 3) 48 4 (by decide +kernel) rfl rfl rfl ?_
    by_cases g0 : x3 = 0
    · refine sm_tabIn (dflt := 110) (lo := 0) (hi := 5) (offs := #[40, 47, 52, 76, 83, 90]) (len := 40) (off := 40) 88 (by decide +kernel) (by rw [g0]; decide) (by rw [g0]; decide) (by rw [g0]; decide) (by decide) ?_
      have hf := hf.1 g0
      refine sm_aload_n (k := 0) 89 1 (by decide +kernel) rfl rfl rfl ?_
      refine sm_aload_n (k := 1) 90 2 (by decide +kernel) rfl rfl rfl ?_
      refine sm_iload_n (k := 2) 91 3 (by decide +kernel) rfl rfl rfl ?_
      refine sm_callV (M2 := mm_E_setValue) (av := [.ref x1, .int x2]) (rest := []) 94 (by decide +kernel) ml_E_91 (Nat.le_refl _) rfl rfl (by first | exact Nat.le_of_ble_eq_true rfl | simp [sm_rfc, Value.category]) rfl hf ?_
      rintro r8 h7 ⟨z9, rfl, hf⟩
      change sm_W N (d + 1) mm_E_performPath 94 [(4, .int y0), (0, .ref x0), (1, .ref x1), (2, .int x2), (3, .int x3)] [.int z9] h7 Q
      exact sm_iret rfl (by decide +kernel) hf
    by_cases g1 : x3 = 1
    · refine sm_tabIn (dflt := 110) (lo := 0) (hi := 5) (offs := #[40, 47, 52, 76, 83, 90]) (len := 40) (off := 47) 95 (by decide +kernel) (by rw [g1]; decide) (by rw [g1]; decide) (by rw [g1]; decide) (by decide) ?_
      have hf := hf.2.1 g1
      refine sm_aload_n (k := 0) 96 1 (by decide +kernel) rfl rfl rfl ?_
      refine sm_callV (M2 := mm_E_unsetValue) (av := []) (rest := []) 99 (by decide +kernel) ml_E_95 (Nat.le_refl _) rfl rfl (by first | exact Nat.le_of_ble_eq_true rfl | simp [sm_rfc, Value.category]) rfl hf ?_
      rintro r11 h10 ⟨z12, rfl, hf⟩
      change sm_W N (d + 1) mm_E_performPath 99 [(4, .int y0), (0, .ref x0), (1, .ref x1), (2, .int x2), (3, .int x3)] [.int z12] h10 Q
      exact sm_iret rfl (by decide +kernel) hf
    by_cases g2 : x3 = 2
    · refine sm_tabIn (dflt := 110) (lo := 0) (hi := 5) (offs := #[40, 47, 52, 76, 83, 90]) (len := 40) (off := 52) 100 (by decide +kernel) (by rw [g2]; decide) (by rw [g2]; decide) (by rw [g2]; decide) (by decide) ?_
      have hf := hf.2.2.1 g2
      refine sm_aload_n (k := 0) 101 1 (by decide +kernel) rfl rfl rfl ?_
      obtain ⟨z13, ez13, hf⟩ := hf
      refine sm_get 104 (by decide +kernel) fl_E_40 ez13 rfl ?_
      refine sm_iconst (i := -1) (x := (-1)) 105 (by decide +kernel) rfl rfl ?_
      refine sm_icmp_ne (off := 12) 108 117 (by decide +kernel) (by decide) rfl (fun q20 => ?_) (fun q20 => ?_)
      · have hf := hf.2 q20
        refine sm_aload_n (k := 0) 118 1 (by decide +kernel) rfl rfl rfl ?_
        refine sm_aload_n (k := 1) 119 2 (by decide +kernel) rfl rfl rfl ?_
        refine sm_iload_n (k := 2) 120 3 (by decide +kernel) rfl rfl rfl ?_
        refine sm_callV (M2 := mm_E_increase) (av := [.ref x1, .int x2]) (rest := []) 123 (by decide +kernel) ml_E_99 (Nat.le_refl _) rfl rfl (by first | exact Nat.le_of_ble_eq_true rfl | simp [sm_rfc, Value.category]) rfl hf ?_
        rintro r15 h14 ⟨z16, rfl, hf⟩
        change sm_W N (d + 1) mm_E_performPath 123 [(4, .int y0), (0, .ref x0), (1, .ref x1), (2, .int x2), (3, .int x3)] [.int z16] h14 Q
        exact sm_iret rfl (by decide +kernel) hf
      · have hf := hf.1 q20
        refine sm_aload_n (k := 0) 109 1 (by decide +kernel) rfl rfl rfl ?_
        refine sm_aload_n (k := 1) 110 2 (by decide +kernel) rfl rfl rfl ?_
        refine sm_iload_n (k := 2) 111 3 (by decide +kernel) rfl rfl rfl ?_
        refine sm_callV (M2 := mm_E_setValue) (av := [.ref x1, .int x2]) (rest := []) 114 (by decide +kernel) ml_E_91 (Nat.le_refl _) rfl rfl (by first | exact Nat.le_of_ble_eq_true rfl | simp [sm_rfc, Value.category]) rfl hf ?_
        rintro r18 h17 ⟨z19, rfl, hf⟩
        change sm_W N (d + 1) mm_E_performPath 114 [(4, .int y0), (0, .ref x0), (1, .ref x1), (2, .int x2), (3, .int x3)] [.int z19] h17 Q
        refine sm_goto (off := 9) 123 (by decide +kernel) (by decide) ?_
        exact sm_iret rfl (by decide +kernel) hf
    by_cases g3 : x3 = 3
    · refine sm_tabIn (dflt := 110) (lo := 0) (hi := 5) (offs := #[40, 47, 52, 76, 83, 90]) (len := 40) (off := 76) 124 (by decide +kernel) (by rw [g3]; decide) (by rw [g3]; decide) (by rw [g3]; decide) (by decide) ?_
      have hf := hf.2.2.2.1 g3
      refine sm_aload_n (k := 0) 125 1 (by decide +kernel) rfl rfl rfl ?_
      refine sm_aload_n (k := 1) 126 2 (by decide +kernel) rfl rfl rfl ?_
      refine sm_iload_n (k := 2) 127 3 (by decide +kernel) rfl rfl rfl ?_
      refine sm_callV (M2 := mm_E_addItem) (av := [.ref x1, .int x2]) (rest := []) 130 (by decide +kernel) ml_E_102 (Nat.le_refl _) rfl rfl (by first | exact Nat.le_of_ble_eq_true rfl | simp [sm_rfc, Value.category]) rfl hf ?_
      rintro r22 h21 ⟨z23, rfl, hf⟩
      change sm_W N (d + 1) mm_E_performPath 130 [(4, .int y0), (0, .ref x0), (1, .ref x1), (2, .int x2), (3, .int x3)] [.int z23] h21 Q
      exact sm_iret rfl (by decide +kernel) hf
    by_cases g4 : x3 = 4
    · refine sm_tabIn (dflt := 110) (lo := 0) (hi := 5) (offs := #[40, 47, 52, 76, 83, 90]) (len := 40) (off := 83) 131 (by decide +kernel) (by rw [g4]; decide) (by rw [g4]; decide) (by rw [g4]; decide) (by decide) ?_
      have hf := hf.2.2.2.2.1 g4
      refine sm_aload_n (k := 0) 132 1 (by decide +kernel) rfl rfl rfl ?_
      refine sm_aload_n (k := 1) 133 2 (by decide +kernel) rfl rfl rfl ?_
      refine sm_iload_n (k := 2) 134 3 (by decide +kernel) rfl rfl rfl ?_
      refine sm_callV (M2 := mm_E_pullItems) (av := [.ref x1, .int x2]) (rest := []) 137 (by decide +kernel) ml_E_105 (Nat.le_refl _) rfl rfl (by first | exact Nat.le_of_ble_eq_true rfl | simp [sm_rfc, Value.category]) rfl hf ?_
      rintro r25 h24 ⟨z26, rfl, hf⟩
      change sm_W N (d + 1) mm_E_performPath 137 [(4, .int y0), (0, .ref x0), (1, .ref x1), (2, .int x2), (3, .int x3)] [.int z26] h24 Q
      exact sm_iret rfl (by decide +kernel) hf
    by_cases g5 : x3 = 5
    · refine sm_tabIn (dflt := 110) (lo := 0) (hi := 5) (offs := #[40, 47, 52, 76, 83, 90]) (len := 40) (off := 90) 138 (by decide +kernel) (by rw [g5]; decide) (by rw [g5]; decide) (by rw [g5]; decide) (by decide) ?_
      have hf := hf.2.2.2.2.2.1 g5
      refine sm_aload_n (k := 0) 139 1 (by decide +kernel) rfl rfl rfl ?_
      refine sm_aload_n (k := 1) 140 2 (by decide +kernel) rfl rfl rfl ?_
      refine sm_iload_n (k := 2) 141 3 (by decide +kernel) rfl rfl rfl ?_
      refine sm_callV (M2 := mm_E_hasItem) (av := [.ref x1, .int x2]) (rest := []) 144 (by decide +kernel) ml_E_108 (Nat.le_refl _) rfl rfl (by first | exact Nat.le_of_ble_eq_true rfl | simp [sm_rfc, Value.category]) rfl hf ?_
      rintro r28 h27 ⟨z29, rfl, hf⟩
      change sm_W N (d + 1) mm_E_performPath 144 [(4, .int y0), (0, .ref x0), (1, .ref x1), (2, .int x2), (3, .int x3)] [.int z29] h27 Q
      refine sm_if_eq (off := 7) 147 151 (by decide +kernel) (by decide) rfl (fun q33 => ?_) (fun q33 => ?_)
      · have hf := hf.1 q33
        refine sm_aload_n (k := 0) 152 1 (by decide +kernel) rfl rfl rfl ?_
        refine sm_aload_n (k := 1) 153 2 (by decide +kernel) rfl rfl rfl ?_
        refine sm_iload_n (k := 2) 154 3 (by decide +kernel) rfl rfl rfl ?_
        refine sm_callV (M2 := mm_E_addItem) (av := [.ref x1, .int x2]) (rest := []) 157 (by decide +kernel) ml_E_102 (Nat.le_refl _) rfl rfl (by first | exact Nat.le_of_ble_eq_true rfl | simp [sm_rfc, Value.category]) rfl hf ?_
        rintro r31 h30 ⟨z32, rfl, hf⟩
        change sm_W N (d + 1) mm_E_performPath 157 [(4, .int y0), (0, .ref x0), (1, .ref x1), (2, .int x2), (3, .int x3)] [.int z32] h30 Q
        exact sm_iret rfl (by decide +kernel) hf
      · have hf := hf.2 q33
        refine sm_iconst (i := 0) (x := 0) 148 (by decide +kernel) rfl rfl ?_
        refine sm_goto (off := 9) 157 (by decide +kernel) (by decide) ?_
        exact sm_iret rfl (by decide +kernel) hf
    have gout : x3.toInt < 0 ∨ 5 < x3.toInt := sm_out (fun v a1 a2 => by
      rcases sm_iv0_5 a1 a2 with rfl | rfl | rfl | rfl | rfl | rfl
      · exact sm_ne 0 (by decide) g0
      · exact sm_ne 1 (by decide) g1
      · exact sm_ne 2 (by decide) g2
      · exact sm_ne 3 (by decide) g3
      · exact sm_ne 4 (by decide) g4
      · exact sm_ne 5 (by decide) g5
      )
    refine sm_tabOut (dflt := 110) (lo := 0) (hi := 5) (offs := #[40, 47, 52, 76, 83, 90]) (len := 40) 158 (by decide +kernel) gout (by decide) ?_
    have hf := hf.2.2.2.2.2.2 ⟨g0, g1, g2, g3, g4, g5⟩
    refine sm_iconst (i := 0) (x := 0) 159 (by decide +kernel) rfl rfl ?_
    exact sm_iret rfl (by decide +kernel) hf
  · have hf := hf.1 q35
    refine sm_iload (i := 4) 37 0 (by decide +kernel) rfl rfl ?_
    refine sm_if_eq (off := 8) 40 45 (by decide +kernel) (by decide) rfl (fun q34 => ?_) (fun q34 => ?_)
    · have hf := hf.1 q34
      refine sm_iconst (i := 0) (x := 0) 46 (by decide +kernel) rfl rfl ?_
      exact sm_iret rfl (by decide +kernel) hf
    · have hf := hf.2 q34
      refine sm_bipush (i := -6) (x := (-6)) 42 (by decide +kernel) (by decide) rfl ?_
      refine sm_goto (off := 4) 46 (by decide +kernel) (by decide) ?_
      exact sm_iret rfl (by decide +kernel) hf
theorem cE_performPath {N d : Nat} {h : sm_H} {Q : Option Value → sm_H → Prop} {x0 : Nat} {x1 : Nat} {x2 : Int32} {x3 : Int32} (hb : ∃ fs, h[x0]? = some (.inr (2, fs))) (hf : fE_performPath_0 N d h Q x0 x1 x2 x3) : sm_V N (d + 1) mm_E_performPath 2 x0 [.ref x1, .int x2, .int x3] h Q := ⟨hb, sm_meth (by decide +kernel) (fun _ => Nat.le_of_ble_eq_true rfl) (fun _ => rfl) (kE_performPath_0 hf)⟩
def fE_reach_0 (N d : Nat) (h : sm_H) (Q : Option Value → sm_H → Prop) (x0 : Nat) (x1 : Nat) (x2 : Int32) (x3 : Int32) (x4 : Int32) : Prop := ∃ h1, sm_p h x0 2 5 (.int 0) = some h1 ∧ sm_V N d mm_E_enter 2 x0 [.int 0, .int 3] h1 (fun r3 h2 => r3 = none ∧ ∃ h4, sm_p h2 x0 2 9 (.int (x2 - 1)) = some h4 ∧ sm_W N (d + 1) mm_E_reach 21 [(0, .ref x0), (1, .ref x1), (3, .int x3), (4, .int x4), (5, .int 0)] [] h4 Q)
set_option maxRecDepth 20000 in
set_option maxHeartbeats 4000000 in
theorem kE_reach_0 {N d : Nat} {h : sm_H} {Q : Option Value → sm_H → Prop} {x0 : Nat} {x1 : Nat} {x2 : Int32} {x3 : Int32} {x4 : Int32} (hf : fE_reach_0 N d h Q x0 x1 x2 x3 x4) : sm_W N (d + 1) mm_E_reach 0 [(0, .ref x0), (1, .ref x1), (2, .int x2), (3, .int x3), (4, .int x4)] [] h Q := by
  unfold fE_reach_0 at hf
  refine sm_aload_n (k := 0) 1 0 (by decide +kernel) rfl rfl rfl ?_
  refine sm_iconst (i := 0) (x := 0) 2 (by decide +kernel) rfl rfl ?_
  obtain ⟨h1, eh1, hf⟩ := hf
  refine sm_put (ty := .int) 5 (by decide +kernel) fp_E_33 (fun _ => rfl) rfl rfl eh1 rfl ?_
  refine sm_aload_n (k := 0) 6 0 (by decide +kernel) rfl rfl rfl ?_
  refine sm_iconst (i := 0) (x := 0) 7 (by decide +kernel) rfl rfl ?_
  refine sm_iconst (i := 3) (x := 3) 8 (by decide +kernel) rfl rfl ?_
  refine sm_callV (M2 := mm_E_enter) (av := [.int 0, .int 3]) (rest := []) 11 (by decide +kernel) ml_E_112 (Nat.le_refl _) rfl rfl (by first | exact Nat.le_of_ble_eq_true rfl | simp [sm_rfc, Value.category]) rfl hf ?_
  rintro r3 h2 ⟨rfl, hf⟩
  change sm_W N (d + 1) mm_E_reach 11 [(0, .ref x0), (1, .ref x1), (2, .int x2), (3, .int x3), (4, .int x4)] [] h2 Q
  refine sm_aload_n (k := 0) 12 0 (by decide +kernel) rfl rfl rfl ?_
  refine sm_iload_n (k := 2) 13 2 (by decide +kernel) rfl rfl rfl ?_
  refine sm_iconst (i := 1) (x := 1) 14 (by decide +kernel) rfl rfl ?_
  refine sm_isub 15 (by decide +kernel) rfl ?_
  obtain ⟨h4, eh4, hf⟩ := hf
  refine sm_put (ty := .int) 18 (by decide +kernel) fp_E_46 (fun _ => rfl) rfl rfl eh4 rfl ?_
  refine sm_iconst (i := 0) (x := 0) 19 (by decide +kernel) rfl rfl ?_
  refine sm_istore (i := 5) 21 [(5, .int 0), (0, .ref x0), (1, .ref x1), (2, .int x2), (3, .int x3), (4, .int x4)] (by decide +kernel) (by decide) (by first | rfl | simp [sm_rfc]) rfl ?_
  exact sm_sub [1, 2, 4, 5, 0] rfl hf
def fE_reach_21 (N d : Nat) (h : sm_H) (Q : Option Value → sm_H → Prop) (x0 : Nat) (x1 : Nat) (x3 : Int32) (x4 : Int32) (x5 : Int32) : Prop := ((8 ≤ x5 → Q (some (.int 1)) h) ∧ (¬ 8 ≤ x5 → ∃ z1 : Int32, sm_g h x0 2 9 = some (.int z1) ∧ ((x3 ≤ z1 → Q (some (.int 1)) h) ∧ (¬ x3 ≤ z1 → ∃ z2 : Int32, sm_g h x0 2 9 = some (.int z2) ∧ ∃ h3, sm_p h x0 2 8 (.int (z2 + 1)) = some h3 ∧ ∃ z4 : Int32, sm_g h3 x0 2 8 = some (.int z4) ∧ sm_T N d mm_E_stepEnd [.ref x1, .int z4, .int x3] h3 (fun r6 h5 => ∃ z7 : Int32, r6 = some (.int z7) ∧ ∃ h8, sm_p h5 x0 2 9 (.int z7) = some h8 ∧ sm_V N d mm_E_findStep 2 x0 [.ref x1] h8 (fun r10 h9 => ∃ z11 : Int32, r10 = some (.int z11) ∧ ∃ z12 : Int32, sm_g h9 x0 2 7 = some (.int z12) ∧ ((z12 = (-1) → ((x4 = 0 → Q (some (.int 0)) h9) ∧ (¬ x4 = 0 → ((z11 = 0 → Q (some (.int 0)) h9) ∧ (¬ z11 = 0 → sm_W N (d + 1) mm_E_reach 86 [(0, .ref x0), (1, .ref x1), (3, .int x3), (4, .int x4), (5, .int x5)] [] h9 Q))))) ∧ (¬ z12 = (-1) → sm_W N (d + 1) mm_E_reach 86 [(0, .ref x0), (1, .ref x1), (3, .int x3), (4, .int x4), (5, .int x5)] [] h9 Q))))))))
set_option maxRecDepth 20000 in
set_option maxHeartbeats 4000000 in
theorem kE_reach_21 {N d : Nat} {h : sm_H} {Q : Option Value → sm_H → Prop} {x0 : Nat} {x1 : Nat} {x3 : Int32} {x4 : Int32} {x5 : Int32} (hf : fE_reach_21 N d h Q x0 x1 x3 x4 x5) : sm_W N (d + 1) mm_E_reach 21 [(0, .ref x0), (1, .ref x1), (3, .int x3), (4, .int x4), (5, .int x5)] [] h Q := by
  unfold fE_reach_21 at hf
  refine sm_iload (i := 5) 23 4 (by decide +kernel) rfl rfl ?_
  refine sm_bipush (i := 8) (x := 8) 25 (by decide +kernel) (by decide) rfl ?_
  refine sm_icmp_ge (off := 140) 28 165 (by decide +kernel) (by decide) rfl (fun q17 => ?_) (fun q17 => ?_)
  · have hf := hf.1 q17
    refine sm_iconst (i := 1) (x := 1) 166 (by decide +kernel) rfl rfl ?_
    exact sm_zret rfl (by decide +kernel) (by decide) hf
  · have hf := hf.2 q17
    refine sm_aload_n (k := 0) 29 0 (by decide +kernel) rfl rfl rfl ?_
    obtain ⟨z1, ez1, hf⟩ := hf
    refine sm_get 32 (by decide +kernel) fl_E_46 ez1 rfl ?_
    refine sm_iload_n (k := 3) 33 2 (by decide +kernel) rfl rfl rfl ?_
    refine sm_icmp_ge (off := 132) 36 165 (by decide +kernel) (by decide) rfl (fun q16 => ?_) (fun q16 => ?_)
    · have hf := hf.1 q16
      refine sm_iconst (i := 1) (x := 1) 166 (by decide +kernel) rfl rfl ?_
      exact sm_zret rfl (by decide +kernel) (by decide) hf
    · have hf := hf.2 q16
      refine sm_aload_n (k := 0) 37 0 (by decide +kernel) rfl rfl rfl ?_
      refine sm_aload_n (k := 0) 38 0 (by decide +kernel) rfl rfl rfl ?_
      obtain ⟨z2, ez2, hf⟩ := hf
      refine sm_get 41 (by decide +kernel) fl_E_46 ez2 rfl ?_
      refine sm_iconst (i := 1) (x := 1) 42 (by decide +kernel) rfl rfl ?_
      refine sm_iadd 43 (by decide +kernel) rfl ?_
      obtain ⟨h3, eh3, hf⟩ := hf
      refine sm_put (ty := .int) 46 (by decide +kernel) fp_E_43 (fun _ => rfl) rfl rfl eh3 rfl ?_
      refine sm_aload_n (k := 0) 47 0 (by decide +kernel) rfl rfl rfl ?_
      refine sm_aload_n (k := 1) 48 1 (by decide +kernel) rfl rfl rfl ?_
      refine sm_aload_n (k := 0) 49 0 (by decide +kernel) rfl rfl rfl ?_
      obtain ⟨z4, ez4, hf⟩ := hf
      refine sm_get 52 (by decide +kernel) fl_E_43 ez4 rfl ?_
      refine sm_iload_n (k := 3) 53 2 (by decide +kernel) rfl rfl rfl ?_
      refine sm_callS (M2 := mm_E_stepEnd) (av := [.ref x1, .int z4, .int x3]) (rest := [.ref x0]) 56 (by decide +kernel) ml_E_116 (Nat.le_refl _) rfl rfl (by first | exact Nat.le_of_ble_eq_true rfl | simp [sm_rfc, Value.category]) rfl hf ?_
      rintro r6 h5 ⟨z7, rfl, hf⟩
      change sm_W N (d + 1) mm_E_reach 56 [(0, .ref x0), (1, .ref x1), (3, .int x3), (4, .int x4), (5, .int x5)] [.int z7, .ref x0] h5 Q
      obtain ⟨h8, eh8, hf⟩ := hf
      refine sm_put (ty := .int) 59 (by decide +kernel) fp_E_46 (fun _ => rfl) rfl rfl eh8 rfl ?_
      refine sm_aload_n (k := 0) 60 0 (by decide +kernel) rfl rfl rfl ?_
      refine sm_aload_n (k := 1) 61 1 (by decide +kernel) rfl rfl rfl ?_
      refine sm_callV (M2 := mm_E_findStep) (av := [.ref x1]) (rest := []) 64 (by decide +kernel) ml_E_119 (Nat.le_refl _) rfl rfl (by first | exact Nat.le_of_ble_eq_true rfl | simp [sm_rfc, Value.category]) rfl hf ?_
      rintro r10 h9 ⟨z11, rfl, hf⟩
      change sm_W N (d + 1) mm_E_reach 64 [(0, .ref x0), (1, .ref x1), (3, .int x3), (4, .int x4), (5, .int x5)] [.int z11] h9 Q
      refine sm_istore (i := 6) 66 [(6, .int z11), (0, .ref x0), (1, .ref x1), (3, .int x3), (4, .int x4), (5, .int x5)] (by decide +kernel) (by decide) (by first | rfl | simp [sm_rfc]) rfl ?_
      refine sm_aload_n (k := 0) 67 1 (by decide +kernel) rfl rfl rfl ?_
      obtain ⟨z12, ez12, hf⟩ := hf
      refine sm_get 70 (by decide +kernel) fl_E_40 ez12 rfl ?_
      refine sm_iconst (i := -1) (x := (-1)) 71 (by decide +kernel) rfl rfl ?_
      refine sm_icmp_ne (off := 15) 74 86 (by decide +kernel) (by decide) rfl (fun q15 => ?_) (fun q15 => ?_)
      · have hf := hf.2 q15
        exact sm_sub [1, 2, 3, 4, 5] rfl hf
      · have hf := hf.1 q15
        refine sm_iload (i := 4) 76 4 (by decide +kernel) rfl rfl ?_
        refine sm_if_eq (off := 8) 79 84 (by decide +kernel) (by decide) rfl (fun q14 => ?_) (fun q14 => ?_)
        · have hf := hf.1 q14
          refine sm_iconst (i := 0) (x := 0) 85 (by decide +kernel) rfl rfl ?_
          exact sm_zret rfl (by decide +kernel) (by decide) hf
        · have hf := hf.2 q14
          refine sm_iload (i := 6) 81 0 (by decide +kernel) rfl rfl ?_
          refine sm_if_ne (off := 5) 84 86 (by decide +kernel) (by decide) rfl (fun q13 => ?_) (fun q13 => ?_)
          · have hf := hf.2 q13
            exact sm_sub [1, 2, 3, 4, 5] rfl hf
          · have hf := hf.1 q13
            refine sm_iconst (i := 0) (x := 0) 85 (by decide +kernel) rfl rfl ?_
            exact sm_zret rfl (by decide +kernel) (by decide) hf
def fE_reach_86 (N d : Nat) (h : sm_H) (Q : Option Value → sm_H → Prop) (x0 : Nat) (x1 : Nat) (x3 : Int32) (x4 : Int32) (x5 : Int32) : Prop := ∃ z1 : Int32, sm_g h x0 2 9 = some (.int z1) ∧ ((x3 ≤ z1 → sm_W N (d + 1) mm_E_reach 159 [(0, .ref x0), (1, .ref x1), (3, .int x3), (4, .int x4), (5, .int x5)] [] h Q) ∧ (¬ x3 ≤ z1 → ∃ z2 : Int32, sm_g h x0 2 7 = some (.int z2) ∧ ((z2 = (-1) → ∃ z3 : Nat, sm_g h x0 2 2 = some (.ref z3) ∧ sm_V N d mm_E_addElement 2 x0 [.int 3, .ref x1, .ref z3, .int 0, .int 5] h (fun r5 h4 => r5 = none ∧ sm_W N (d + 1) mm_E_reach 114 [(0, .ref x0), (1, .ref x1), (3, .int x3), (4, .int x4), (5, .int x5)] [] h4 Q)) ∧ (¬ z2 = (-1) → sm_W N (d + 1) mm_E_reach 114 [(0, .ref x0), (1, .ref x1), (3, .int x3), (4, .int x4), (5, .int x5)] [] h Q))))
set_option maxRecDepth 20000 in
set_option maxHeartbeats 4000000 in
theorem kE_reach_86 {N d : Nat} {h : sm_H} {Q : Option Value → sm_H → Prop} {x0 : Nat} {x1 : Nat} {x3 : Int32} {x4 : Int32} {x5 : Int32} (hf : fE_reach_86 N d h Q x0 x1 x3 x4 x5) : sm_W N (d + 1) mm_E_reach 86 [(0, .ref x0), (1, .ref x1), (3, .int x3), (4, .int x4), (5, .int x5)] [] h Q := by
  unfold fE_reach_86 at hf
  refine sm_aload_n (k := 0) 87 0 (by decide +kernel) rfl rfl rfl ?_
  obtain ⟨z1, ez1, hf⟩ := hf
  refine sm_get 90 (by decide +kernel) fl_E_46 ez1 rfl ?_
  refine sm_iload_n (k := 3) 91 2 (by decide +kernel) rfl rfl rfl ?_
  refine sm_icmp_ge (off := 68) 94 159 (by decide +kernel) (by decide) rfl (fun q7 => ?_) (fun q7 => ?_)
  · have hf := hf.1 q7
    exact sm_sub [0, 1, 2, 3, 4] rfl hf
  · have hf := hf.2 q7
    refine sm_aload_n (k := 0) 95 0 (by decide +kernel) rfl rfl rfl ?_
    obtain ⟨z2, ez2, hf⟩ := hf
    refine sm_get 98 (by decide +kernel) fl_E_40 ez2 rfl ?_
    refine sm_iconst (i := -1) (x := (-1)) 99 (by decide +kernel) rfl rfl ?_
    refine sm_icmp_ne (off := 15) 102 114 (by decide +kernel) (by decide) rfl (fun q6 => ?_) (fun q6 => ?_)
    · have hf := hf.2 q6
      exact sm_sub [0, 1, 2, 3, 4] rfl hf
    · have hf := hf.1 q6
      refine sm_aload_n (k := 0) 103 0 (by decide +kernel) rfl rfl rfl ?_
      refine sm_iconst (i := 3) (x := 3) 104 (by decide +kernel) rfl rfl ?_
      refine sm_aload_n (k := 1) 105 1 (by decide +kernel) rfl rfl rfl ?_
      refine sm_aload_n (k := 0) 106 0 (by decide +kernel) rfl rfl rfl ?_
      obtain ⟨z3, ez3, hf⟩ := hf
      refine sm_get 109 (by decide +kernel) fl_E_24 ez3 rfl ?_
      refine sm_iconst (i := 0) (x := 0) 110 (by decide +kernel) rfl rfl ?_
      refine sm_iconst (i := 5) (x := 5) 111 (by decide +kernel) rfl rfl ?_
      refine sm_callV (M2 := mm_E_addElement) (av := [.int 3, .ref x1, .ref z3, .int 0, .int 5]) (rest := []) 114 (by decide +kernel) ml_E_123 (Nat.le_refl _) rfl rfl (by first | exact Nat.le_of_ble_eq_true rfl | simp [sm_rfc, Value.category]) rfl hf ?_
      rintro r5 h4 ⟨rfl, hf⟩
      change sm_W N (d + 1) mm_E_reach 114 [(0, .ref x0), (1, .ref x1), (3, .int x3), (4, .int x4), (5, .int x5)] [] h4 Q
      exact sm_sub [0, 1, 2, 3, 4] rfl hf
def fE_reach_114 (N d : Nat) (h : sm_H) (Q : Option Value → sm_H → Prop) (x0 : Nat) (x1 : Nat) (x3 : Int32) (x4 : Int32) (x5 : Int32) : Prop := ∃ z1 : Nat, sm_g h x0 2 0 = some (.ref z1) ∧ ∃ z2 : Int32, sm_g h x0 2 7 = some (.int z2) ∧ sm_V N d mm_B_at 0 z1 [.int z2] h (fun r4 h3 => ∃ z5 : Int32, r4 = some (.int z5) ∧ sm_T N d mm_D_isHolder [.int z5] h3 (fun r7 h6 => ∃ z8 : Int32, r7 = some (.int z8) ∧ ((z8 = 0 → Q (some (.int 0)) h6) ∧ (¬ z8 = 0 → ∃ z9 : Nat, sm_g h6 x0 2 0 = some (.ref z9) ∧ ∃ z10 : Int32, sm_g h6 x0 2 7 = some (.int z10) ∧ sm_V N d mm_B_valueStart 0 z9 [.int z10] h6 (fun r12 h11 => ∃ z13 : Int32, r12 = some (.int z13) ∧ ∃ z14 : Nat, sm_g h11 x0 2 0 = some (.ref z14) ∧ ∃ z15 : Int32, sm_g h11 x0 2 7 = some (.int z15) ∧ sm_V N d mm_B_at 0 z14 [.int z15] h11 (fun r17 h16 => ∃ z18 : Int32, r17 = some (.int z18) ∧ sm_V N d mm_E_enter 2 x0 [.int z13, .int z18] h16 (fun r20 h19 => r20 = none ∧ sm_W N (d + 1) mm_E_reach 159 [(0, .ref x0), (1, .ref x1), (3, .int x3), (4, .int x4), (5, .int x5)] [] h19 Q)))))))
set_option maxRecDepth 20000 in
set_option maxHeartbeats 4000000 in
theorem kE_reach_114 {N d : Nat} {h : sm_H} {Q : Option Value → sm_H → Prop} {x0 : Nat} {x1 : Nat} {x3 : Int32} {x4 : Int32} {x5 : Int32} (hf : fE_reach_114 N d h Q x0 x1 x3 x4 x5) : sm_W N (d + 1) mm_E_reach 114 [(0, .ref x0), (1, .ref x1), (3, .int x3), (4, .int x4), (5, .int x5)] [] h Q := by
  unfold fE_reach_114 at hf
  refine sm_aload_n (k := 0) 115 0 (by decide +kernel) rfl rfl rfl ?_
  obtain ⟨z1, ez1, hf⟩ := hf
  refine sm_get 118 (by decide +kernel) fl_E_14 ez1 rfl ?_
  refine sm_aload_n (k := 0) 119 0 (by decide +kernel) rfl rfl rfl ?_
  obtain ⟨z2, ez2, hf⟩ := hf
  refine sm_get 122 (by decide +kernel) fl_E_40 ez2 rfl ?_
  refine sm_callV (M2 := mm_B_at) (av := [.int z2]) (rest := []) 125 (by decide +kernel) ml_E_127 (Nat.le_refl _) rfl rfl (by first | exact Nat.le_of_ble_eq_true rfl | simp [sm_rfc, Value.category]) rfl hf ?_
  rintro r4 h3 ⟨z5, rfl, hf⟩
  change sm_W N (d + 1) mm_E_reach 125 [(0, .ref x0), (1, .ref x1), (3, .int x3), (4, .int x4), (5, .int x5)] [.int z5] h3 Q
  refine sm_callN (M2 := mm_D_isHolder) (av := [.int z5]) (rest := []) 128 (by decide +kernel) ml_E_130 (Nat.le_refl _) rfl rfl (by first | exact Nat.le_of_ble_eq_true rfl | simp [sm_rfc, Value.category]) rfl hf ?_
  rintro r7 h6 ⟨z8, rfl, hf⟩
  change sm_W N (d + 1) mm_E_reach 128 [(0, .ref x0), (1, .ref x1), (3, .int x3), (4, .int x4), (5, .int x5)] [.int z8] h6 Q
  refine sm_if_ne (off := 5) 131 133 (by decide +kernel) (by decide) rfl (fun q21 => ?_) (fun q21 => ?_)
  · have hf := hf.2 q21
    refine sm_aload_n (k := 0) 134 0 (by decide +kernel) rfl rfl rfl ?_
    refine sm_aload_n (k := 0) 135 0 (by decide +kernel) rfl rfl rfl ?_
    obtain ⟨z9, ez9, hf⟩ := hf
    refine sm_get 138 (by decide +kernel) fl_E_14 ez9 rfl ?_
    refine sm_aload_n (k := 0) 139 0 (by decide +kernel) rfl rfl rfl ?_
    obtain ⟨z10, ez10, hf⟩ := hf
    refine sm_get 142 (by decide +kernel) fl_E_40 ez10 rfl ?_
    refine sm_callV (M2 := mm_B_valueStart) (av := [.int z10]) (rest := [.ref x0]) 145 (by decide +kernel) ml_E_134 (Nat.le_refl _) rfl rfl (by first | exact Nat.le_of_ble_eq_true rfl | simp [sm_rfc, Value.category]) rfl hf ?_
    rintro r12 h11 ⟨z13, rfl, hf⟩
    change sm_W N (d + 1) mm_E_reach 145 [(0, .ref x0), (1, .ref x1), (3, .int x3), (4, .int x4), (5, .int x5)] [.int z13, .ref x0] h11 Q
    refine sm_aload_n (k := 0) 146 0 (by decide +kernel) rfl rfl rfl ?_
    obtain ⟨z14, ez14, hf⟩ := hf
    refine sm_get 149 (by decide +kernel) fl_E_14 ez14 rfl ?_
    refine sm_aload_n (k := 0) 150 0 (by decide +kernel) rfl rfl rfl ?_
    obtain ⟨z15, ez15, hf⟩ := hf
    refine sm_get 153 (by decide +kernel) fl_E_40 ez15 rfl ?_
    refine sm_callV (M2 := mm_B_at) (av := [.int z15]) (rest := [.int z13, .ref x0]) 156 (by decide +kernel) ml_E_127 (Nat.le_refl _) rfl rfl (by first | exact Nat.le_of_ble_eq_true rfl | simp [sm_rfc, Value.category]) rfl hf ?_
    rintro r17 h16 ⟨z18, rfl, hf⟩
    change sm_W N (d + 1) mm_E_reach 156 [(0, .ref x0), (1, .ref x1), (3, .int x3), (4, .int x4), (5, .int x5)] [.int z18, .int z13, .ref x0] h16 Q
    refine sm_callV (M2 := mm_E_enter) (av := [.int z13, .int z18]) (rest := []) 159 (by decide +kernel) ml_E_112 (Nat.le_refl _) rfl rfl (by first | exact Nat.le_of_ble_eq_true rfl | simp [sm_rfc, Value.category]) rfl hf ?_
    rintro r20 h19 ⟨rfl, hf⟩
    change sm_W N (d + 1) mm_E_reach 159 [(0, .ref x0), (1, .ref x1), (3, .int x3), (4, .int x4), (5, .int x5)] [] h19 Q
    exact sm_sub [0, 1, 2, 3, 4] rfl hf
  · have hf := hf.1 q21
    refine sm_iconst (i := 0) (x := 0) 132 (by decide +kernel) rfl rfl ?_
    exact sm_zret rfl (by decide +kernel) (by decide) hf
def fE_reach_159 (N d : Nat) (h : sm_H) (Q : Option Value → sm_H → Prop) (x0 : Nat) (x1 : Nat) (x3 : Int32) (x4 : Int32) (x5 : Int32) : Prop := sm_W N (d + 1) mm_E_reach 21 [(0, .ref x0), (1, .ref x1), (3, .int x3), (4, .int x4), (5, .int (x5 + 1))] [] h Q
set_option maxRecDepth 20000 in
set_option maxHeartbeats 4000000 in
theorem kE_reach_159 {N d : Nat} {h : sm_H} {Q : Option Value → sm_H → Prop} {x0 : Nat} {x1 : Nat} {x3 : Int32} {x4 : Int32} {x5 : Int32} (hf : fE_reach_159 N d h Q x0 x1 x3 x4 x5) : sm_W N (d + 1) mm_E_reach 159 [(0, .ref x0), (1, .ref x1), (3, .int x3), (4, .int x4), (5, .int x5)] [] h Q := by
  unfold fE_reach_159 at hf
  refine sm_iinc (i := 5) (j := 4) (z := 1) (y := x5 + 1) 162 [(5, .int (x5 + 1)), (0, .ref x0), (1, .ref x1), (3, .int x3), (4, .int x4)] (by decide +kernel) rfl (by rfl) (by decide) rfl rfl ?_
  refine sm_goto (off := -141) 21 (by decide +kernel) (by decide) ?_
  exact sm_sub [1, 2, 3, 4, 0] rfl hf
theorem cE_reach {N d : Nat} {h : sm_H} {Q : Option Value → sm_H → Prop} {x0 : Nat} {x1 : Nat} {x2 : Int32} {x3 : Int32} {x4 : Int32} (hb : ∃ fs, h[x0]? = some (.inr (2, fs))) (hf : fE_reach_0 N d h Q x0 x1 x2 x3 x4) : sm_V N (d + 1) mm_E_reach 2 x0 [.ref x1, .int x2, .int x3, .int x4] h Q := ⟨hb, sm_meth (by decide +kernel) (fun _ => Nat.le_of_ble_eq_true rfl) (fun _ => rfl) (kE_reach_0 hf)⟩
def fE_stepEnd_0 (N d : Nat) (h : sm_H) (Q : Option Value → sm_H → Prop) (x0 : Nat) (x1 : Int32) (x2 : Int32) : Prop := sm_W N (d + 1) mm_E_stepEnd 2 [(0, .ref x0), (2, .int x2), (3, .int x1)] [] h Q
set_option maxRecDepth 20000 in
set_option maxHeartbeats 4000000 in
theorem kE_stepEnd_0 {N d : Nat} {h : sm_H} {Q : Option Value → sm_H → Prop} {x0 : Nat} {x1 : Int32} {x2 : Int32} (hf : fE_stepEnd_0 N d h Q x0 x1 x2) : sm_W N (d + 1) mm_E_stepEnd 0 [(0, .ref x0), (1, .int x1), (2, .int x2)] [] h Q := by
  unfold fE_stepEnd_0 at hf
  refine sm_iload_n (k := 1) 1 1 (by decide +kernel) rfl rfl rfl ?_
  refine sm_istore_n (k := 3) 2 [(3, .int x1), (0, .ref x0), (1, .int x1), (2, .int x2)] (by decide +kernel) rfl (by decide) (by first | rfl | simp [sm_rfc]) rfl ?_
  exact sm_sub [1, 3, 0] rfl hf
def fE_stepEnd_2 (N d : Nat) (h : sm_H) (Q : Option Value → sm_H → Prop) (x0 : Nat) (x2 : Int32) (x3 : Int32) : Prop := ((x2 ≤ x3 → Q (some (.int x2)) h) ∧ (¬ x2 ≤ x3 → sm_V N d mm_B_at 0 x0 [.int x3] h (fun r2 h1 => ∃ z3 : Int32, r2 = some (.int z3) ∧ ((z3 = 46 → Q (some (.int x3)) h1) ∧ (¬ z3 = 46 → sm_W N (d + 1) mm_E_stepEnd 2 [(0, .ref x0), (2, .int x2), (3, .int (x3 + 1))] [] h1 Q)))))
set_option maxRecDepth 20000 in
set_option maxHeartbeats 4000000 in
theorem kE_stepEnd_2 {N d : Nat} {h : sm_H} {Q : Option Value → sm_H → Prop} {x0 : Nat} {x2 : Int32} {x3 : Int32} (hf : fE_stepEnd_2 N d h Q x0 x2 x3) : sm_W N (d + 1) mm_E_stepEnd 2 [(0, .ref x0), (2, .int x2), (3, .int x3)] [] h Q := by
  unfold fE_stepEnd_2 at hf
  refine sm_iload_n (k := 3) 3 2 (by decide +kernel) rfl rfl rfl ?_
  refine sm_iload_n (k := 2) 4 1 (by decide +kernel) rfl rfl rfl ?_
  refine sm_icmp_ge (off := 21) 7 25 (by decide +kernel) (by decide) rfl (fun q5 => ?_) (fun q5 => ?_)
  · have hf := hf.1 q5
    refine sm_iload_n (k := 2) 26 1 (by decide +kernel) rfl rfl rfl ?_
    exact sm_iret rfl (by decide +kernel) hf
  · have hf := hf.2 q5
    refine sm_aload_n (k := 0) 8 0 (by decide +kernel) rfl rfl rfl ?_
    refine sm_iload_n (k := 3) 9 2 (by decide +kernel) rfl rfl rfl ?_
    refine sm_callV (M2 := mm_B_at) (av := [.int x3]) (rest := []) 12 (by decide +kernel) ml_E_127 (Nat.le_refl _) rfl rfl (by first | exact Nat.le_of_ble_eq_true rfl | simp [sm_rfc, Value.category]) rfl hf ?_
    rintro r2 h1 ⟨z3, rfl, hf⟩
    change sm_W N (d + 1) mm_E_stepEnd 12 [(0, .ref x0), (2, .int x2), (3, .int x3)] [.int z3] h1 Q
    refine sm_bipush (i := 46) (x := 46) 14 (by decide +kernel) (by decide) rfl ?_
    refine sm_icmp_ne (off := 5) 17 19 (by decide +kernel) (by decide) rfl (fun q4 => ?_) (fun q4 => ?_)
    · have hf := hf.2 q4
      refine sm_iinc (i := 3) (j := 2) (z := 1) (y := x3 + 1) 22 [(3, .int (x3 + 1)), (0, .ref x0), (2, .int x2)] (by decide +kernel) rfl (by rfl) (by decide) rfl rfl ?_
      refine sm_goto (off := -20) 2 (by decide +kernel) (by decide) ?_
      exact sm_sub [1, 2, 0] rfl hf
    · have hf := hf.1 q4
      refine sm_iload_n (k := 3) 18 2 (by decide +kernel) rfl rfl rfl ?_
      exact sm_iret rfl (by decide +kernel) hf
theorem cE_stepEnd {N d : Nat} {h : sm_H} {Q : Option Value → sm_H → Prop} {x0 : Nat} {x1 : Int32} {x2 : Int32} (hf : fE_stepEnd_0 N d h Q x0 x1 x2) : sm_T N (d + 1) mm_E_stepEnd [.ref x0, .int x1, .int x2] h Q := sm_meth (by decide +kernel) (fun _ => Nat.le_of_ble_eq_true rfl) (fun _ => rfl) (kE_stepEnd_0 hf)
def fE_enter_0 (N d : Nat) (h : sm_H) (Q : Option Value → sm_H → Prop) (x0 : Nat) (x1 : Int32) (x2 : Int32) : Prop := ∃ z1 : Int32, sm_g h x0 2 5 = some (.int z1) ∧ ∃ z2 : Nat, sm_g h x0 2 1 = some (.ref z2) ∧ ∃ z3 : Int32, sm_n h z2 = some z3 ∧ ((z3 ≤ z1 → Q none h) ∧ (¬ z3 ≤ z1 → ∃ z4 : Nat, sm_g h x0 2 1 = some (.ref z4) ∧ ∃ z5 : Int32, sm_g h x0 2 5 = some (.int z5) ∧ ∃ h6, sm_pi h z4 z5 x1 = some h6 ∧ ∃ z7 : Int32, sm_g h6 x0 2 5 = some (.int z7) ∧ ∃ h8, sm_p h6 x0 2 5 (.int (z7 + 1)) = some h8 ∧ ∃ h9, sm_p h8 x0 2 6 (.int x2) = some h9 ∧ Q none h9))
set_option maxRecDepth 20000 in
set_option maxHeartbeats 4000000 in
theorem kE_enter_0 {N d : Nat} {h : sm_H} {Q : Option Value → sm_H → Prop} {x0 : Nat} {x1 : Int32} {x2 : Int32} (hf : fE_enter_0 N d h Q x0 x1 x2) : sm_W N (d + 1) mm_E_enter 0 [(0, .ref x0), (1, .int x1), (2, .int x2)] [] h Q := by
  unfold fE_enter_0 at hf
  refine sm_aload_n (k := 0) 1 0 (by decide +kernel) rfl rfl rfl ?_
  obtain ⟨z1, ez1, hf⟩ := hf
  refine sm_get 4 (by decide +kernel) fl_E_33 ez1 rfl ?_
  refine sm_aload_n (k := 0) 5 0 (by decide +kernel) rfl rfl rfl ?_
  obtain ⟨z2, ez2, hf⟩ := hf
  refine sm_get 8 (by decide +kernel) fl_E_20 ez2 rfl ?_
  obtain ⟨z3, ez3, hf⟩ := hf
  refine sm_alen 9 (by decide +kernel) ez3 rfl ?_
  refine sm_icmp_ge (off := 28) 12 37 (by decide +kernel) (by decide) rfl (fun q10 => ?_) (fun q10 => ?_)
  · have hf := hf.1 q10
    exact sm_vret rfl (by decide +kernel) hf
  · have hf := hf.2 q10
    refine sm_aload_n (k := 0) 13 0 (by decide +kernel) rfl rfl rfl ?_
    obtain ⟨z4, ez4, hf⟩ := hf
    refine sm_get 16 (by decide +kernel) fl_E_20 ez4 rfl ?_
    refine sm_aload_n (k := 0) 17 0 (by decide +kernel) rfl rfl rfl ?_
    obtain ⟨z5, ez5, hf⟩ := hf
    refine sm_get 20 (by decide +kernel) fl_E_33 ez5 rfl ?_
    refine sm_iload_n (k := 1) 21 1 (by decide +kernel) rfl rfl rfl ?_
    obtain ⟨h6, eh6, hf⟩ := hf
    refine sm_iast 22 (by decide +kernel) eh6 rfl ?_
    refine sm_aload_n (k := 0) 23 0 (by decide +kernel) rfl rfl rfl ?_
    refine sm_dup 24 (by decide +kernel) (by first | rfl | simp [sm_rfc]) rfl ?_
    obtain ⟨z7, ez7, hf⟩ := hf
    refine sm_get 27 (by decide +kernel) fl_E_33 ez7 rfl ?_
    refine sm_iconst (i := 1) (x := 1) 28 (by decide +kernel) rfl rfl ?_
    refine sm_iadd 29 (by decide +kernel) rfl ?_
    obtain ⟨h8, eh8, hf⟩ := hf
    refine sm_put (ty := .int) 32 (by decide +kernel) fp_E_33 (fun _ => rfl) rfl rfl eh8 rfl ?_
    refine sm_aload_n (k := 0) 33 0 (by decide +kernel) rfl rfl rfl ?_
    refine sm_iload_n (k := 2) 34 2 (by decide +kernel) rfl rfl rfl ?_
    obtain ⟨h9, eh9, hf⟩ := hf
    refine sm_put (ty := .int) 37 (by decide +kernel) fp_E_37 (fun _ => rfl) rfl rfl eh9 rfl ?_
    exact sm_vret rfl (by decide +kernel) hf
theorem cE_enter {N d : Nat} {h : sm_H} {Q : Option Value → sm_H → Prop} {x0 : Nat} {x1 : Int32} {x2 : Int32} (hb : ∃ fs, h[x0]? = some (.inr (2, fs))) (hf : fE_enter_0 N d h Q x0 x1 x2) : sm_V N (d + 1) mm_E_enter 2 x0 [.int x1, .int x2] h Q := ⟨hb, sm_meth (by decide +kernel) (fun _ => Nat.le_of_ble_eq_true rfl) (fun _ => rfl) (kE_enter_0 hf)⟩
def fE_holder_0 (N d : Nat) (h : sm_H) (Q : Option Value → sm_H → Prop) (x0 : Nat) : Prop := ∃ z1 : Int32, sm_g h x0 2 5 = some (.int z1) ∧ ((z1 ≤ 0 → Q (some (.int 0)) h) ∧ (¬ z1 ≤ 0 → ∃ z2 : Int32, sm_g h x0 2 5 = some (.int z2) ∧ ∃ z3 : Nat, sm_g h x0 2 1 = some (.ref z3) ∧ ∃ z4 : Int32, sm_n h z3 = some z4 ∧ ((z4 < z2 → Q (some (.int 0)) h) ∧ (¬ z4 < z2 → ∃ z5 : Nat, sm_g h x0 2 1 = some (.ref z5) ∧ ∃ z6 : Int32, sm_g h x0 2 5 = some (.int z6) ∧ ∃ z7 : Int32, sm_gi h z5 1 (z6 - 1) = some z7 ∧ Q (some (.int z7)) h))))
set_option maxRecDepth 20000 in
set_option maxHeartbeats 4000000 in
theorem kE_holder_0 {N d : Nat} {h : sm_H} {Q : Option Value → sm_H → Prop} {x0 : Nat} (hf : fE_holder_0 N d h Q x0) : sm_W N (d + 1) mm_E_holder 0 [(0, .ref x0)] [] h Q := by
  unfold fE_holder_0 at hf
  refine sm_aload_n (k := 0) 1 0 (by decide +kernel) rfl rfl rfl ?_
  obtain ⟨z1, ez1, hf⟩ := hf
  refine sm_get 4 (by decide +kernel) fl_E_33 ez1 rfl ?_
  refine sm_if_le (off := 29) 7 33 (by decide +kernel) (by decide) rfl (fun q9 => ?_) (fun q9 => ?_)
  · have hf := hf.1 q9
    refine sm_iconst (i := 0) (x := 0) 34 (by decide +kernel) rfl rfl ?_
    exact sm_iret rfl (by decide +kernel) hf
  · have hf := hf.2 q9
    refine sm_aload_n (k := 0) 8 0 (by decide +kernel) rfl rfl rfl ?_
    obtain ⟨z2, ez2, hf⟩ := hf
    refine sm_get 11 (by decide +kernel) fl_E_33 ez2 rfl ?_
    refine sm_aload_n (k := 0) 12 0 (by decide +kernel) rfl rfl rfl ?_
    obtain ⟨z3, ez3, hf⟩ := hf
    refine sm_get 15 (by decide +kernel) fl_E_20 ez3 rfl ?_
    obtain ⟨z4, ez4, hf⟩ := hf
    refine sm_alen 16 (by decide +kernel) ez4 rfl ?_
    refine sm_icmp_gt (off := 17) 19 33 (by decide +kernel) (by decide) rfl (fun q8 => ?_) (fun q8 => ?_)
    · have hf := hf.1 q8
      refine sm_iconst (i := 0) (x := 0) 34 (by decide +kernel) rfl rfl ?_
      exact sm_iret rfl (by decide +kernel) hf
    · have hf := hf.2 q8
      refine sm_aload_n (k := 0) 20 0 (by decide +kernel) rfl rfl rfl ?_
      obtain ⟨z5, ez5, hf⟩ := hf
      refine sm_get 23 (by decide +kernel) fl_E_20 ez5 rfl ?_
      refine sm_aload_n (k := 0) 24 0 (by decide +kernel) rfl rfl rfl ?_
      obtain ⟨z6, ez6, hf⟩ := hf
      refine sm_get 27 (by decide +kernel) fl_E_33 ez6 rfl ?_
      refine sm_iconst (i := 1) (x := 1) 28 (by decide +kernel) rfl rfl ?_
      refine sm_isub 29 (by decide +kernel) rfl ?_
      obtain ⟨z7, ez7, hf⟩ := hf
      refine sm_iald 30 (by decide +kernel) ez7 rfl ?_
      refine sm_goto (off := 4) 34 (by decide +kernel) (by decide) ?_
      exact sm_iret rfl (by decide +kernel) hf
theorem cE_holder {N d : Nat} {h : sm_H} {Q : Option Value → sm_H → Prop} {x0 : Nat} (hb : ∃ fs, h[x0]? = some (.inr (2, fs))) (hf : fE_holder_0 N d h Q x0) : sm_V N (d + 1) mm_E_holder 2 x0 [] h Q := ⟨hb, sm_meth (by decide +kernel) (fun _ => Nat.le_of_ble_eq_true rfl) (fun _ => rfl) (kE_holder_0 hf)⟩
def fE_findStep_0 (N d : Nat) (h : sm_H) (Q : Option Value → sm_H → Prop) (x0 : Nat) (x1 : Nat) : Prop := ∃ z1 : Nat, sm_g h x0 2 0 = some (.ref z1) ∧ sm_V N d mm_E_holder 2 x0 [] h (fun r3 h2 => ∃ z4 : Int32, r3 = some (.int z4) ∧ sm_V N d mm_B_lastOf 0 z1 [.int z4] h2 (fun r6 h5 => ∃ z7 : Int32, r6 = some (.int z7) ∧ sm_V N d mm_E_holder 2 x0 [] h5 (fun r9 h8 => ∃ z10 : Int32, r9 = some (.int z10) ∧ sm_W N (d + 1) mm_E_findStep 22 [(0, .ref x0), (1, .ref x1), (2, .int z7), (3, .int (z10 + 4)), (4, .int 0)] [] h8 Q)))
set_option maxRecDepth 20000 in
set_option maxHeartbeats 4000000 in
theorem kE_findStep_0 {N d : Nat} {h : sm_H} {Q : Option Value → sm_H → Prop} {x0 : Nat} {x1 : Nat} (hf : fE_findStep_0 N d h Q x0 x1) : sm_W N (d + 1) mm_E_findStep 0 [(0, .ref x0), (1, .ref x1)] [] h Q := by
  unfold fE_findStep_0 at hf
  refine sm_aload_n (k := 0) 1 0 (by decide +kernel) rfl rfl rfl ?_
  obtain ⟨z1, ez1, hf⟩ := hf
  refine sm_get 4 (by decide +kernel) fl_E_14 ez1 rfl ?_
  refine sm_aload_n (k := 0) 5 0 (by decide +kernel) rfl rfl rfl ?_
  refine sm_callV (M2 := mm_E_holder) (av := []) (rest := [.ref z1]) 8 (by decide +kernel) ml_E_137 (Nat.le_refl _) rfl rfl (by first | exact Nat.le_of_ble_eq_true rfl | simp [sm_rfc, Value.category]) rfl hf ?_
  rintro r3 h2 ⟨z4, rfl, hf⟩
  change sm_W N (d + 1) mm_E_findStep 8 [(0, .ref x0), (1, .ref x1)] [.int z4, .ref z1] h2 Q
  refine sm_callV (M2 := mm_B_lastOf) (av := [.int z4]) (rest := []) 11 (by decide +kernel) ml_E_140 (Nat.le_refl _) rfl rfl (by first | exact Nat.le_of_ble_eq_true rfl | simp [sm_rfc, Value.category]) rfl hf ?_
  rintro r6 h5 ⟨z7, rfl, hf⟩
  change sm_W N (d + 1) mm_E_findStep 11 [(0, .ref x0), (1, .ref x1)] [.int z7] h5 Q
  refine sm_istore_n (k := 2) 12 [(2, .int z7), (0, .ref x0), (1, .ref x1)] (by decide +kernel) rfl (by decide) (by first | rfl | simp [sm_rfc]) rfl ?_
  refine sm_aload_n (k := 0) 13 1 (by decide +kernel) rfl rfl rfl ?_
  refine sm_callV (M2 := mm_E_holder) (av := []) (rest := []) 16 (by decide +kernel) ml_E_137 (Nat.le_refl _) rfl rfl (by first | exact Nat.le_of_ble_eq_true rfl | simp [sm_rfc, Value.category]) rfl hf ?_
  rintro r9 h8 ⟨z10, rfl, hf⟩
  change sm_W N (d + 1) mm_E_findStep 16 [(2, .int z7), (0, .ref x0), (1, .ref x1)] [.int z10] h8 Q
  refine sm_iconst (i := 4) (x := 4) 17 (by decide +kernel) rfl rfl ?_
  refine sm_iadd 18 (by decide +kernel) rfl ?_
  refine sm_istore_n (k := 3) 19 [(3, .int (z10 + 4)), (2, .int z7), (0, .ref x0), (1, .ref x1)] (by decide +kernel) rfl (by decide) (by first | rfl | simp [sm_rfc]) rfl ?_
  refine sm_iconst (i := 0) (x := 0) 20 (by decide +kernel) rfl rfl ?_
  refine sm_istore (i := 4) 22 [(4, .int 0), (3, .int (z10 + 4)), (2, .int z7), (0, .ref x0), (1, .ref x1)] (by decide +kernel) (by decide) (by first | rfl | simp [sm_rfc]) rfl ?_
  exact sm_sub [3, 4, 2, 1, 0] rfl hf
def fE_findStep_22 (N d : Nat) (h : sm_H) (Q : Option Value → sm_H → Prop) (x0 : Nat) (x1 : Nat) (x2 : Int32) (x3 : Int32) (x4 : Int32) : Prop := ∃ z1 : Nat, sm_g h x0 2 0 = some (.ref z1) ∧ ∃ z2 : Int32, sm_g h z1 0 1 = some (.int z2) ∧ ((z2 ≤ x4 → sm_W N (d + 1) mm_E_findStep 91 [(0, .ref x0), (1, .ref x1), (4, .int x4)] [] h Q) ∧ (¬ z2 ≤ x4 → ((x2 ≤ x3 → sm_W N (d + 1) mm_E_findStep 91 [(0, .ref x0), (1, .ref x1), (4, .int x4)] [] h Q) ∧ (¬ x2 ≤ x3 → ∃ z3 : Nat, sm_g h x0 2 0 = some (.ref z3) ∧ ∃ z4 : Nat, sm_g h x0 2 0 = some (.ref z4) ∧ sm_V N d mm_B_nameEnd 0 z4 [.int x3] h (fun r6 h5 => ∃ z7 : Int32, r6 = some (.int z7) ∧ ∃ z8 : Int32, sm_g h5 x0 2 8 = some (.int z8) ∧ ∃ z9 : Int32, sm_g h5 x0 2 9 = some (.int z9) ∧ sm_T N d mm_D_sameRange [.ref z3, .int (x3 + 1), .int z7, .ref x1, .int z8, .int z9] h5 (fun r11 h10 => ∃ z12 : Int32, r11 = some (.int z12) ∧ ((z12 = 0 → ∃ z13 : Nat, sm_g h10 x0 2 0 = some (.ref z13) ∧ sm_V N d mm_B_valueEnd 0 z13 [.int x3] h10 (fun r15 h14 => ∃ z16 : Int32, r15 = some (.int z16) ∧ sm_W N (d + 1) mm_E_findStep 22 [(0, .ref x0), (1, .ref x1), (2, .int x2), (3, .int z16), (4, .int (x4 + 1))] [] h14 Q)) ∧ (¬ z12 = 0 → ∃ h17, sm_p h10 x0 2 7 (.int x3) = some h17 ∧ Q (some (.int 0)) h17))))))))
set_option maxRecDepth 20000 in
set_option maxHeartbeats 4000000 in
theorem kE_findStep_22 {N d : Nat} {h : sm_H} {Q : Option Value → sm_H → Prop} {x0 : Nat} {x1 : Nat} {x2 : Int32} {x3 : Int32} {x4 : Int32} (hf : fE_findStep_22 N d h Q x0 x1 x2 x3 x4) : sm_W N (d + 1) mm_E_findStep 22 [(0, .ref x0), (1, .ref x1), (2, .int x2), (3, .int x3), (4, .int x4)] [] h Q := by
  unfold fE_findStep_22 at hf
  refine sm_iload (i := 4) 24 4 (by decide +kernel) rfl rfl ?_
  refine sm_aload_n (k := 0) 25 0 (by decide +kernel) rfl rfl rfl ?_
  obtain ⟨z1, ez1, hf⟩ := hf
  refine sm_get 28 (by decide +kernel) fl_E_14 ez1 rfl ?_
  obtain ⟨z2, ez2, hf⟩ := hf
  refine sm_get 31 (by decide +kernel) fl_E_78 ez2 rfl ?_
  refine sm_icmp_ge (off := 60) 34 91 (by decide +kernel) (by decide) rfl (fun q20 => ?_) (fun q20 => ?_)
  · have hf := hf.1 q20
    exact sm_sub [0, 1, 4] rfl hf
  · have hf := hf.2 q20
    refine sm_iload_n (k := 3) 35 3 (by decide +kernel) rfl rfl rfl ?_
    refine sm_iload_n (k := 2) 36 2 (by decide +kernel) rfl rfl rfl ?_
    refine sm_icmp_ge (off := 55) 39 91 (by decide +kernel) (by decide) rfl (fun q19 => ?_) (fun q19 => ?_)
    · have hf := hf.1 q19
      exact sm_sub [0, 1, 4] rfl hf
    · have hf := hf.2 q19
      refine sm_aload_n (k := 0) 40 0 (by decide +kernel) rfl rfl rfl ?_
      obtain ⟨z3, ez3, hf⟩ := hf
      refine sm_get 43 (by decide +kernel) fl_E_14 ez3 rfl ?_
      refine sm_iload_n (k := 3) 44 3 (by decide +kernel) rfl rfl rfl ?_
      refine sm_iconst (i := 1) (x := 1) 45 (by decide +kernel) rfl rfl ?_
      refine sm_iadd 46 (by decide +kernel) rfl ?_
      refine sm_aload_n (k := 0) 47 0 (by decide +kernel) rfl rfl rfl ?_
      obtain ⟨z4, ez4, hf⟩ := hf
      refine sm_get 50 (by decide +kernel) fl_E_14 ez4 rfl ?_
      refine sm_iload_n (k := 3) 51 3 (by decide +kernel) rfl rfl rfl ?_
      refine sm_callV (M2 := mm_B_nameEnd) (av := [.int x3]) (rest := [.int (x3 + 1), .ref z3]) 54 (by decide +kernel) ml_E_84 (Nat.le_refl _) rfl rfl (by first | exact Nat.le_of_ble_eq_true rfl | simp [sm_rfc, Value.category]) rfl hf ?_
      rintro r6 h5 ⟨z7, rfl, hf⟩
      change sm_W N (d + 1) mm_E_findStep 54 [(0, .ref x0), (1, .ref x1), (2, .int x2), (3, .int x3), (4, .int x4)] [.int z7, .int (x3 + 1), .ref z3] h5 Q
      refine sm_aload_n (k := 1) 55 1 (by decide +kernel) rfl rfl rfl ?_
      refine sm_aload_n (k := 0) 56 0 (by decide +kernel) rfl rfl rfl ?_
      obtain ⟨z8, ez8, hf⟩ := hf
      refine sm_get 59 (by decide +kernel) fl_E_43 ez8 rfl ?_
      refine sm_aload_n (k := 0) 60 0 (by decide +kernel) rfl rfl rfl ?_
      obtain ⟨z9, ez9, hf⟩ := hf
      refine sm_get 63 (by decide +kernel) fl_E_46 ez9 rfl ?_
      refine sm_callN (M2 := mm_D_sameRange) (av := [.ref z3, .int (x3 + 1), .int z7, .ref x1, .int z8, .int z9]) (rest := []) 66 (by decide +kernel) ml_E_143 (Nat.le_refl _) rfl rfl (by first | exact Nat.le_of_ble_eq_true rfl | simp [sm_rfc, Value.category]) rfl hf ?_
      rintro r11 h10 ⟨z12, rfl, hf⟩
      change sm_W N (d + 1) mm_E_findStep 66 [(0, .ref x0), (1, .ref x1), (2, .int x2), (3, .int x3), (4, .int x4)] [.int z12] h10 Q
      refine sm_if_eq (off := 10) 69 76 (by decide +kernel) (by decide) rfl (fun q18 => ?_) (fun q18 => ?_)
      · have hf := hf.1 q18
        refine sm_aload_n (k := 0) 77 0 (by decide +kernel) rfl rfl rfl ?_
        obtain ⟨z13, ez13, hf⟩ := hf
        refine sm_get 80 (by decide +kernel) fl_E_14 ez13 rfl ?_
        refine sm_iload_n (k := 3) 81 3 (by decide +kernel) rfl rfl rfl ?_
        refine sm_callV (M2 := mm_B_valueEnd) (av := [.int x3]) (rest := []) 84 (by decide +kernel) ml_E_147 (Nat.le_refl _) rfl rfl (by first | exact Nat.le_of_ble_eq_true rfl | simp [sm_rfc, Value.category]) rfl hf ?_
        rintro r15 h14 ⟨z16, rfl, hf⟩
        change sm_W N (d + 1) mm_E_findStep 84 [(0, .ref x0), (1, .ref x1), (2, .int x2), (3, .int x3), (4, .int x4)] [.int z16] h14 Q
        refine sm_istore_n (k := 3) 85 [(3, .int z16), (0, .ref x0), (1, .ref x1), (2, .int x2), (4, .int x4)] (by decide +kernel) rfl (by decide) (by first | rfl | simp [sm_rfc]) rfl ?_
        refine sm_iinc (i := 4) (j := 4) (z := 1) (y := x4 + 1) 88 [(4, .int (x4 + 1)), (3, .int z16), (0, .ref x0), (1, .ref x1), (2, .int x2)] (by decide +kernel) rfl (by rfl) (by decide) rfl rfl ?_
        refine sm_goto (off := -66) 22 (by decide +kernel) (by decide) ?_
        exact sm_sub [2, 3, 4, 1, 0] rfl hf
      · have hf := hf.2 q18
        refine sm_aload_n (k := 0) 70 0 (by decide +kernel) rfl rfl rfl ?_
        refine sm_iload_n (k := 3) 71 3 (by decide +kernel) rfl rfl rfl ?_
        obtain ⟨h17, eh17, hf⟩ := hf
        refine sm_put (ty := .int) 74 (by decide +kernel) fp_E_40 (fun _ => rfl) rfl rfl eh17 rfl ?_
        refine sm_iconst (i := 0) (x := 0) 75 (by decide +kernel) rfl rfl ?_
        exact sm_zret rfl (by decide +kernel) (by decide) hf
def fE_findStep_91 (N d : Nat) (h : sm_H) (Q : Option Value → sm_H → Prop) (x0 : Nat) (x1 : Nat) (x4 : Int32) : Prop := ∃ h1, sm_p h x0 2 7 (.int (-1)) = some h1 ∧ ∃ z2 : Int32, sm_g h1 x0 2 6 = some (.int z2) ∧ ((z2 = 4 → ∃ z3 : Nat, sm_g h1 x0 2 3 = some (.ref z3) ∧ sm_V N d mm_B_becomeDigits 0 z3 [.int x4] h1 (fun r5 h4 => r5 = none ∧ ∃ z6 : Nat, sm_g h4 x0 2 3 = some (.ref z6) ∧ ∃ z7 : Nat, sm_g h4 x0 2 3 = some (.ref z7) ∧ ∃ z8 : Int32, sm_g h4 z7 0 1 = some (.int z8) ∧ ∃ z9 : Int32, sm_g h4 x0 2 8 = some (.int z9) ∧ ∃ z10 : Int32, sm_g h4 x0 2 9 = some (.int z10) ∧ sm_T N d mm_D_sameRange [.ref z6, .int 0, .int z8, .ref x1, .int z9, .int z10] h4 (fun r12 h11 => ∃ z13 : Int32, r12 = some (.int z13) ∧ ((z13 = 0 ∨ z13 = 1) ∧ Q (some (.int z13)) h11)))) ∧ (¬ z2 = 4 → Q (some (.int 1)) h1))
set_option maxRecDepth 20000 in
set_option maxHeartbeats 4000000 in
theorem kE_findStep_91 {N d : Nat} {h : sm_H} {Q : Option Value → sm_H → Prop} {x0 : Nat} {x1 : Nat} {x4 : Int32} (hf : fE_findStep_91 N d h Q x0 x1 x4) : sm_W N (d + 1) mm_E_findStep 91 [(0, .ref x0), (1, .ref x1), (4, .int x4)] [] h Q := by
  unfold fE_findStep_91 at hf
  refine sm_aload_n (k := 0) 92 0 (by decide +kernel) rfl rfl rfl ?_
  refine sm_iconst (i := -1) (x := (-1)) 93 (by decide +kernel) rfl rfl ?_
  obtain ⟨h1, eh1, hf⟩ := hf
  refine sm_put (ty := .int) 96 (by decide +kernel) fp_E_40 (fun _ => rfl) rfl rfl eh1 rfl ?_
  refine sm_aload_n (k := 0) 97 0 (by decide +kernel) rfl rfl rfl ?_
  obtain ⟨z2, ez2, hf⟩ := hf
  refine sm_get 100 (by decide +kernel) fl_E_37 ez2 rfl ?_
  refine sm_iconst (i := 4) (x := 4) 101 (by decide +kernel) rfl rfl ?_
  refine sm_icmp_eq (off := 5) 104 106 (by decide +kernel) (by decide) rfl (fun q14 => ?_) (fun q14 => ?_)
  · have hf := hf.1 q14
    refine sm_aload_n (k := 0) 107 0 (by decide +kernel) rfl rfl rfl ?_
    obtain ⟨z3, ez3, hf⟩ := hf
    refine sm_get 110 (by decide +kernel) fl_E_27 ez3 rfl ?_
    refine sm_iload (i := 4) 112 2 (by decide +kernel) rfl rfl ?_
    refine sm_callV (M2 := mm_B_becomeDigits) (av := [.int x4]) (rest := []) 115 (by decide +kernel) ml_E_150 (Nat.le_refl _) rfl rfl (by first | exact Nat.le_of_ble_eq_true rfl | simp [sm_rfc, Value.category]) rfl hf ?_
    rintro r5 h4 ⟨rfl, hf⟩
    change sm_W N (d + 1) mm_E_findStep 115 [(0, .ref x0), (1, .ref x1), (4, .int x4)] [] h4 Q
    refine sm_aload_n (k := 0) 116 0 (by decide +kernel) rfl rfl rfl ?_
    obtain ⟨z6, ez6, hf⟩ := hf
    refine sm_get 119 (by decide +kernel) fl_E_27 ez6 rfl ?_
    refine sm_iconst (i := 0) (x := 0) 120 (by decide +kernel) rfl rfl ?_
    refine sm_aload_n (k := 0) 121 0 (by decide +kernel) rfl rfl rfl ?_
    obtain ⟨z7, ez7, hf⟩ := hf
    refine sm_get 124 (by decide +kernel) fl_E_27 ez7 rfl ?_
    obtain ⟨z8, ez8, hf⟩ := hf
    refine sm_get 127 (by decide +kernel) fl_E_78 ez8 rfl ?_
    refine sm_aload_n (k := 1) 128 1 (by decide +kernel) rfl rfl rfl ?_
    refine sm_aload_n (k := 0) 129 0 (by decide +kernel) rfl rfl rfl ?_
    obtain ⟨z9, ez9, hf⟩ := hf
    refine sm_get 132 (by decide +kernel) fl_E_43 ez9 rfl ?_
    refine sm_aload_n (k := 0) 133 0 (by decide +kernel) rfl rfl rfl ?_
    obtain ⟨z10, ez10, hf⟩ := hf
    refine sm_get 136 (by decide +kernel) fl_E_46 ez10 rfl ?_
    refine sm_callN (M2 := mm_D_sameRange) (av := [.ref z6, .int 0, .int z8, .ref x1, .int z9, .int z10]) (rest := []) 139 (by decide +kernel) ml_E_143 (Nat.le_refl _) rfl rfl (by first | exact Nat.le_of_ble_eq_true rfl | simp [sm_rfc, Value.category]) rfl hf ?_
    rintro r12 h11 ⟨z13, rfl, hf⟩
    change sm_W N (d + 1) mm_E_findStep 139 [(0, .ref x0), (1, .ref x1), (4, .int x4)] [.int z13] h11 Q
    exact sm_zret rfl (by decide +kernel) hf.1 hf.2
  · have hf := hf.2 q14
    refine sm_iconst (i := 1) (x := 1) 105 (by decide +kernel) rfl rfl ?_
    exact sm_zret rfl (by decide +kernel) (by decide) hf
theorem cE_findStep {N d : Nat} {h : sm_H} {Q : Option Value → sm_H → Prop} {x0 : Nat} {x1 : Nat} (hb : ∃ fs, h[x0]? = some (.inr (2, fs))) (hf : fE_findStep_0 N d h Q x0 x1) : sm_V N (d + 1) mm_E_findStep 2 x0 [.ref x1] h Q := ⟨hb, sm_meth (by decide +kernel) (fun _ => Nat.le_of_ble_eq_true rfl) (fun _ => rfl) (kE_findStep_0 hf)⟩
def fE_setValue_0 (N d : Nat) (h : sm_H) (Q : Option Value → sm_H → Prop) (x0 : Nat) (x1 : Nat) (x2 : Int32) : Prop := sm_V N d mm_B_valueStart 0 x1 [.int x2] h (fun r2 h1 => ∃ z3 : Int32, r2 = some (.int z3) ∧ sm_V N d mm_B_valueEnd 0 x1 [.int x2] h1 (fun r5 h4 => ∃ z6 : Int32, r5 = some (.int z6) ∧ ∃ z7 : Int32, sm_g h4 x0 2 7 = some (.int z7) ∧ ((z7 = (-1) → sm_V N d mm_B_at 0 x1 [.int x2] h4 (fun r15 h14 => ∃ z16 : Int32, r15 = some (.int z16) ∧ sm_V N d mm_E_addElement 2 x0 [.int z16, .ref x1, .ref x1, .int z3, .int z6] h14 (fun r18 h17 => r18 = none ∧ Q (some (.int 1)) h17))) ∧ (¬ z7 = (-1) → sm_V N d mm_B_at 0 x1 [.int x2] h4 (fun r9 h8 => ∃ z10 : Int32, r9 = some (.int z10) ∧ sm_V N d mm_E_replaceValue 2 x0 [.int z10, .ref x1, .int z3, .int z6] h8 (fun r12 h11 => ∃ z13 : Int32, r12 = some (.int z13) ∧ Q (some (.int z13)) h11))))))
set_option maxRecDepth 20000 in
set_option maxHeartbeats 4000000 in
theorem kE_setValue_0 {N d : Nat} {h : sm_H} {Q : Option Value → sm_H → Prop} {x0 : Nat} {x1 : Nat} {x2 : Int32} (hf : fE_setValue_0 N d h Q x0 x1 x2) : sm_W N (d + 1) mm_E_setValue 0 [(0, .ref x0), (1, .ref x1), (2, .int x2)] [] h Q := by
  unfold fE_setValue_0 at hf
  refine sm_aload_n (k := 1) 1 1 (by decide +kernel) rfl rfl rfl ?_
  refine sm_iload_n (k := 2) 2 2 (by decide +kernel) rfl rfl rfl ?_
  refine sm_callV (M2 := mm_B_valueStart) (av := [.int x2]) (rest := []) 5 (by decide +kernel) ml_E_134 (Nat.le_refl _) rfl rfl (by first | exact Nat.le_of_ble_eq_true rfl | simp [sm_rfc, Value.category]) rfl hf ?_
  rintro r2 h1 ⟨z3, rfl, hf⟩
  change sm_W N (d + 1) mm_E_setValue 5 [(0, .ref x0), (1, .ref x1), (2, .int x2)] [.int z3] h1 Q
  refine sm_istore_n (k := 3) 6 [(3, .int z3), (0, .ref x0), (1, .ref x1), (2, .int x2)] (by decide +kernel) rfl (by decide) (by first | rfl | simp [sm_rfc]) rfl ?_
  refine sm_aload_n (k := 1) 7 2 (by decide +kernel) rfl rfl rfl ?_
  refine sm_iload_n (k := 2) 8 3 (by decide +kernel) rfl rfl rfl ?_
  refine sm_callV (M2 := mm_B_valueEnd) (av := [.int x2]) (rest := []) 11 (by decide +kernel) ml_E_147 (Nat.le_refl _) rfl rfl (by first | exact Nat.le_of_ble_eq_true rfl | simp [sm_rfc, Value.category]) rfl hf ?_
  rintro r5 h4 ⟨z6, rfl, hf⟩
  change sm_W N (d + 1) mm_E_setValue 11 [(3, .int z3), (0, .ref x0), (1, .ref x1), (2, .int x2)] [.int z6] h4 Q
  refine sm_istore (i := 4) 13 [(4, .int z6), (3, .int z3), (0, .ref x0), (1, .ref x1), (2, .int x2)] (by decide +kernel) (by decide) (by first | rfl | simp [sm_rfc]) rfl ?_
  refine sm_aload_n (k := 0) 14 2 (by decide +kernel) rfl rfl rfl ?_
  obtain ⟨z7, ez7, hf⟩ := hf
  refine sm_get 17 (by decide +kernel) fl_E_40 ez7 rfl ?_
  refine sm_iconst (i := -1) (x := (-1)) 18 (by decide +kernel) rfl rfl ?_
  refine sm_icmp_ne (off := 19) 21 37 (by decide +kernel) (by decide) rfl (fun q19 => ?_) (fun q19 => ?_)
  · have hf := hf.2 q19
    refine sm_aload_n (k := 0) 38 2 (by decide +kernel) rfl rfl rfl ?_
    refine sm_aload_n (k := 1) 39 3 (by decide +kernel) rfl rfl rfl ?_
    refine sm_iload_n (k := 2) 40 4 (by decide +kernel) rfl rfl rfl ?_
    refine sm_callV (M2 := mm_B_at) (av := [.int x2]) (rest := [.ref x0]) 43 (by decide +kernel) ml_E_127 (Nat.le_refl _) rfl rfl (by first | exact Nat.le_of_ble_eq_true rfl | simp [sm_rfc, Value.category]) rfl hf ?_
    rintro r9 h8 ⟨z10, rfl, hf⟩
    change sm_W N (d + 1) mm_E_setValue 43 [(4, .int z6), (3, .int z3), (0, .ref x0), (1, .ref x1), (2, .int x2)] [.int z10, .ref x0] h8 Q
    refine sm_aload_n (k := 1) 44 3 (by decide +kernel) rfl rfl rfl ?_
    refine sm_iload_n (k := 3) 45 1 (by decide +kernel) rfl rfl rfl ?_
    refine sm_iload (i := 4) 47 0 (by decide +kernel) rfl rfl ?_
    refine sm_callV (M2 := mm_E_replaceValue) (av := [.int z10, .ref x1, .int z3, .int z6]) (rest := []) 50 (by decide +kernel) ml_E_153 (Nat.le_refl _) rfl rfl (by first | exact Nat.le_of_ble_eq_true rfl | simp [sm_rfc, Value.category]) rfl hf ?_
    rintro r12 h11 ⟨z13, rfl, hf⟩
    change sm_W N (d + 1) mm_E_setValue 50 [(4, .int z6), (3, .int z3), (0, .ref x0), (1, .ref x1), (2, .int x2)] [.int z13] h11 Q
    exact sm_iret rfl (by decide +kernel) hf
  · have hf := hf.1 q19
    refine sm_aload_n (k := 0) 22 2 (by decide +kernel) rfl rfl rfl ?_
    refine sm_aload_n (k := 1) 23 3 (by decide +kernel) rfl rfl rfl ?_
    refine sm_iload_n (k := 2) 24 4 (by decide +kernel) rfl rfl rfl ?_
    refine sm_callV (M2 := mm_B_at) (av := [.int x2]) (rest := [.ref x0]) 27 (by decide +kernel) ml_E_127 (Nat.le_refl _) rfl rfl (by first | exact Nat.le_of_ble_eq_true rfl | simp [sm_rfc, Value.category]) rfl hf ?_
    rintro r15 h14 ⟨z16, rfl, hf⟩
    change sm_W N (d + 1) mm_E_setValue 27 [(4, .int z6), (3, .int z3), (0, .ref x0), (1, .ref x1), (2, .int x2)] [.int z16, .ref x0] h14 Q
    refine sm_aload_n (k := 1) 28 3 (by decide +kernel) rfl rfl rfl ?_
    refine sm_aload_n (k := 1) 29 3 (by decide +kernel) rfl rfl rfl ?_
    refine sm_iload_n (k := 3) 30 1 (by decide +kernel) rfl rfl rfl ?_
    refine sm_iload (i := 4) 32 0 (by decide +kernel) rfl rfl ?_
    refine sm_callV (M2 := mm_E_addElement) (av := [.int z16, .ref x1, .ref x1, .int z3, .int z6]) (rest := []) 35 (by decide +kernel) ml_E_123 (Nat.le_refl _) rfl rfl (by first | exact Nat.le_of_ble_eq_true rfl | simp [sm_rfc, Value.category]) rfl hf ?_
    rintro r18 h17 ⟨rfl, hf⟩
    change sm_W N (d + 1) mm_E_setValue 35 [(4, .int z6), (3, .int z3), (0, .ref x0), (1, .ref x1), (2, .int x2)] [] h17 Q
    refine sm_iconst (i := 1) (x := 1) 36 (by decide +kernel) rfl rfl ?_
    exact sm_iret rfl (by decide +kernel) hf
theorem cE_setValue {N d : Nat} {h : sm_H} {Q : Option Value → sm_H → Prop} {x0 : Nat} {x1 : Nat} {x2 : Int32} (hb : ∃ fs, h[x0]? = some (.inr (2, fs))) (hf : fE_setValue_0 N d h Q x0 x1 x2) : sm_V N (d + 1) mm_E_setValue 2 x0 [.ref x1, .int x2] h Q := ⟨hb, sm_meth (by decide +kernel) (fun _ => Nat.le_of_ble_eq_true rfl) (fun _ => rfl) (kE_setValue_0 hf)⟩
def fE_unsetValue_0 (N d : Nat) (h : sm_H) (Q : Option Value → sm_H → Prop) (x0 : Nat) : Prop := ∃ z1 : Int32, sm_g h x0 2 6 = some (.int z1) ∧ ((z1 = 4 → ∃ z12 : Nat, sm_g h x0 2 2 = some (.ref z12) ∧ sm_V N d mm_E_replaceValue 2 x0 [.int 10, .ref z12, .int 0, .int 0] h (fun r14 h13 => ∃ z15 : Int32, r14 = some (.int z15) ∧ Q (some (.int z15)) h13)) ∧ (¬ z1 = 4 → ∃ z2 : Int32, sm_g h x0 2 7 = some (.int z2) ∧ ∃ z3 : Nat, sm_g h x0 2 0 = some (.ref z3) ∧ ∃ z4 : Int32, sm_g h x0 2 7 = some (.int z4) ∧ sm_V N d mm_B_valueEnd 0 z3 [.int z4] h (fun r6 h5 => ∃ z7 : Int32, r6 = some (.int z7) ∧ ∃ z8 : Int32, sm_g h5 x0 2 7 = some (.int z8) ∧ sm_V N d mm_E_resize 2 x0 [.int z2, .int (z7 - z8), .int 0] h5 (fun r10 h9 => ∃ z11 : Int32, r10 = some (.int z11) ∧ Q (some (.int 1)) h9))))
set_option maxRecDepth 20000 in
set_option maxHeartbeats 4000000 in
theorem kE_unsetValue_0 {N d : Nat} {h : sm_H} {Q : Option Value → sm_H → Prop} {x0 : Nat} (hf : fE_unsetValue_0 N d h Q x0) : sm_W N (d + 1) mm_E_unsetValue 0 [(0, .ref x0)] [] h Q := by
  unfold fE_unsetValue_0 at hf
  refine sm_aload_n (k := 0) 1 0 (by decide +kernel) rfl rfl rfl ?_
  obtain ⟨z1, ez1, hf⟩ := hf
  refine sm_get 4 (by decide +kernel) fl_E_37 ez1 rfl ?_
  refine sm_iconst (i := 4) (x := 4) 5 (by decide +kernel) rfl rfl ?_
  refine sm_icmp_ne (off := 16) 8 21 (by decide +kernel) (by decide) rfl (fun q16 => ?_) (fun q16 => ?_)
  · have hf := hf.2 q16
    refine sm_aload_n (k := 0) 22 0 (by decide +kernel) rfl rfl rfl ?_
    refine sm_aload_n (k := 0) 23 0 (by decide +kernel) rfl rfl rfl ?_
    obtain ⟨z2, ez2, hf⟩ := hf
    refine sm_get 26 (by decide +kernel) fl_E_40 ez2 rfl ?_
    refine sm_aload_n (k := 0) 27 0 (by decide +kernel) rfl rfl rfl ?_
    obtain ⟨z3, ez3, hf⟩ := hf
    refine sm_get 30 (by decide +kernel) fl_E_14 ez3 rfl ?_
    refine sm_aload_n (k := 0) 31 0 (by decide +kernel) rfl rfl rfl ?_
    obtain ⟨z4, ez4, hf⟩ := hf
    refine sm_get 34 (by decide +kernel) fl_E_40 ez4 rfl ?_
    refine sm_callV (M2 := mm_B_valueEnd) (av := [.int z4]) (rest := [.int z2, .ref x0]) 37 (by decide +kernel) ml_E_147 (Nat.le_refl _) rfl rfl (by first | exact Nat.le_of_ble_eq_true rfl | simp [sm_rfc, Value.category]) rfl hf ?_
    rintro r6 h5 ⟨z7, rfl, hf⟩
    change sm_W N (d + 1) mm_E_unsetValue 37 [(0, .ref x0)] [.int z7, .int z2, .ref x0] h5 Q
    refine sm_aload_n (k := 0) 38 0 (by decide +kernel) rfl rfl rfl ?_
    obtain ⟨z8, ez8, hf⟩ := hf
    refine sm_get 41 (by decide +kernel) fl_E_40 ez8 rfl ?_
    refine sm_isub 42 (by decide +kernel) rfl ?_
    refine sm_iconst (i := 0) (x := 0) 43 (by decide +kernel) rfl rfl ?_
    refine sm_callV (M2 := mm_E_resize) (av := [.int z2, .int (z7 - z8), .int 0]) (rest := []) 46 (by decide +kernel) ml_E_157 (Nat.le_refl _) rfl rfl (by first | exact Nat.le_of_ble_eq_true rfl | simp [sm_rfc, Value.category]) rfl hf ?_
    rintro r10 h9 ⟨z11, rfl, hf⟩
    change sm_W N (d + 1) mm_E_unsetValue 46 [(0, .ref x0)] [.int z11] h9 Q
    refine sm_pop 47 (by decide +kernel) (by first | rfl | simp [sm_rfc]) rfl ?_
    refine sm_iconst (i := 1) (x := 1) 48 (by decide +kernel) rfl rfl ?_
    exact sm_iret rfl (by decide +kernel) hf
  · have hf := hf.1 q16
    refine sm_aload_n (k := 0) 9 0 (by decide +kernel) rfl rfl rfl ?_
    refine sm_bipush (i := 10) (x := 10) 11 (by decide +kernel) (by decide) rfl ?_
    refine sm_aload_n (k := 0) 12 0 (by decide +kernel) rfl rfl rfl ?_
    obtain ⟨z12, ez12, hf⟩ := hf
    refine sm_get 15 (by decide +kernel) fl_E_24 ez12 rfl ?_
    refine sm_iconst (i := 0) (x := 0) 16 (by decide +kernel) rfl rfl ?_
    refine sm_iconst (i := 0) (x := 0) 17 (by decide +kernel) rfl rfl ?_
    refine sm_callV (M2 := mm_E_replaceValue) (av := [.int 10, .ref z12, .int 0, .int 0]) (rest := []) 20 (by decide +kernel) ml_E_153 (Nat.le_refl _) rfl rfl (by first | exact Nat.le_of_ble_eq_true rfl | simp [sm_rfc, Value.category]) rfl hf ?_
    rintro r14 h13 ⟨z15, rfl, hf⟩
    change sm_W N (d + 1) mm_E_unsetValue 20 [(0, .ref x0)] [.int z15] h13 Q
    exact sm_iret rfl (by decide +kernel) hf
theorem cE_unsetValue {N d : Nat} {h : sm_H} {Q : Option Value → sm_H → Prop} {x0 : Nat} (hb : ∃ fs, h[x0]? = some (.inr (2, fs))) (hf : fE_unsetValue_0 N d h Q x0) : sm_V N (d + 1) mm_E_unsetValue 2 x0 [] h Q := ⟨hb, sm_meth (by decide +kernel) (fun _ => Nat.le_of_ble_eq_true rfl) (fun _ => rfl) (kE_unsetValue_0 hf)⟩
def fE_increase_0 (N d : Nat) (h : sm_H) (Q : Option Value → sm_H → Prop) (x0 : Nat) (x1 : Nat) (x2 : Int32) : Prop := ∃ z1 : Nat, sm_g h x0 2 0 = some (.ref z1) ∧ ∃ z2 : Int32, sm_g h x0 2 7 = some (.int z2) ∧ sm_V N d mm_B_at 0 z1 [.int z2] h (fun r4 h3 => ∃ z5 : Int32, r4 = some (.int z5) ∧ sm_T N d mm_D_isNumber [.int z5] h3 (fun r7 h6 => ∃ z8 : Int32, r7 = some (.int z8) ∧ ((z8 = 0 → Q (some (.int (-7))) h6) ∧ (¬ z8 = 0 → ∃ z9 : Nat, sm_g h6 x0 2 0 = some (.ref z9) ∧ ∃ z10 : Int32, sm_g h6 x0 2 7 = some (.int z10) ∧ sm_V N d mm_B_numberOf 0 z9 [.int z10] h6 (fun r12 h11 => ∃ z13 : Int64, r12 = some (.long z13) ∧ sm_V N d mm_B_numberOf 0 x1 [.int x2] h11 (fun r15 h14 => ∃ z16 : Int64, r15 = some (.long z16) ∧ ((0 ≤ (lg_cmp ((z13 ^^^ (z13 + z16)) &&& (z16 ^^^ (z13 + z16))) 0) → ((z5 = 16 → sm_V N d mm_B_at 0 x1 [.int x2] h14 (fun r18 h17 => ∃ z19 : Int32, r18 = some (.int z19) ∧ ((z19 = 16 → (((lg_cmp (z13 + z16) (Int32.toInt64 (Int64.toInt32 (z13 + z16)))) = 0 → sm_W N (d + 1) mm_E_increase 99 [(0, .ref x0), (8, .long (z13 + z16))] [.int 1] h17 Q) ∧ (¬ (lg_cmp (z13 + z16) (Int32.toInt64 (Int64.toInt32 (z13 + z16)))) = 0 → sm_W N (d + 1) mm_E_increase 98 [(0, .ref x0), (8, .long (z13 + z16))] [] h17 Q))) ∧ (¬ z19 = 16 → sm_W N (d + 1) mm_E_increase 98 [(0, .ref x0), (8, .long (z13 + z16))] [] h17 Q)))) ∧ (¬ z5 = 16 → sm_W N (d + 1) mm_E_increase 98 [(0, .ref x0), (8, .long (z13 + z16))] [] h14 Q))) ∧ (¬ 0 ≤ (lg_cmp ((z13 ^^^ (z13 + z16)) &&& (z16 ^^^ (z13 + z16))) 0) → Q (some (.int (-8))) h14))))))))
set_option maxRecDepth 20000 in
set_option maxHeartbeats 4000000 in
theorem kE_increase_0 {N d : Nat} {h : sm_H} {Q : Option Value → sm_H → Prop} {x0 : Nat} {x1 : Nat} {x2 : Int32} (hf : fE_increase_0 N d h Q x0 x1 x2) : sm_W N (d + 1) mm_E_increase 0 [(0, .ref x0), (1, .ref x1), (2, .int x2)] [] h Q := by
  unfold fE_increase_0 at hf
  refine sm_aload_n (k := 0) 1 0 (by decide +kernel) rfl rfl rfl ?_
  obtain ⟨z1, ez1, hf⟩ := hf
  refine sm_get 4 (by decide +kernel) fl_E_14 ez1 rfl ?_
  refine sm_aload_n (k := 0) 5 0 (by decide +kernel) rfl rfl rfl ?_
  obtain ⟨z2, ez2, hf⟩ := hf
  refine sm_get 8 (by decide +kernel) fl_E_40 ez2 rfl ?_
  refine sm_callV (M2 := mm_B_at) (av := [.int z2]) (rest := []) 11 (by decide +kernel) ml_E_127 (Nat.le_refl _) rfl rfl (by first | exact Nat.le_of_ble_eq_true rfl | simp [sm_rfc, Value.category]) rfl hf ?_
  rintro r4 h3 ⟨z5, rfl, hf⟩
  change sm_W N (d + 1) mm_E_increase 11 [(0, .ref x0), (1, .ref x1), (2, .int x2)] [.int z5] h3 Q
  refine sm_istore_n (k := 3) 12 [(3, .int z5), (0, .ref x0), (1, .ref x1), (2, .int x2)] (by decide +kernel) rfl (by decide) (by first | rfl | simp [sm_rfc]) rfl ?_
  refine sm_iload_n (k := 3) 13 0 (by decide +kernel) rfl rfl rfl ?_
  refine sm_callN (M2 := mm_D_isNumber) (av := [.int z5]) (rest := []) 16 (by decide +kernel) ml_E_161 (Nat.le_refl _) rfl rfl (by first | exact Nat.le_of_ble_eq_true rfl | simp [sm_rfc, Value.category]) rfl hf ?_
  rintro r7 h6 ⟨z8, rfl, hf⟩
  change sm_W N (d + 1) mm_E_increase 16 [(3, .int z5), (0, .ref x0), (1, .ref x1), (2, .int x2)] [.int z8] h6 Q
  refine sm_if_ne (off := 6) 19 22 (by decide +kernel) (by decide) rfl (fun q24 => ?_) (fun q24 => ?_)
  · have hf := hf.2 q24
    refine sm_aload_n (k := 0) 23 1 (by decide +kernel) rfl rfl rfl ?_
    obtain ⟨z9, ez9, hf⟩ := hf
    refine sm_get 26 (by decide +kernel) fl_E_14 ez9 rfl ?_
    refine sm_aload_n (k := 0) 27 1 (by decide +kernel) rfl rfl rfl ?_
    obtain ⟨z10, ez10, hf⟩ := hf
    refine sm_get 30 (by decide +kernel) fl_E_40 ez10 rfl ?_
    refine sm_callV (M2 := mm_B_numberOf) (av := [.int z10]) (rest := []) 33 (by decide +kernel) ml_E_164 (Nat.le_refl _) rfl rfl (by first | exact Nat.le_of_ble_eq_true rfl | simp [sm_rfc, Value.category]) rfl hf ?_
    rintro r12 h11 ⟨z13, rfl, hf⟩
    change sm_W N (d + 1) mm_E_increase 33 [(3, .int z5), (0, .ref x0), (1, .ref x1), (2, .int x2)] [.long z13] h11 Q
    refine sm_lstore (i := 4) 35 [(4, .long z13), (3, .int z5), (0, .ref x0), (1, .ref x1), (2, .int x2)] (by decide +kernel) (by decide) (by first | rfl | simp [sm_rfc]) rfl ?_
    refine sm_aload_n (k := 1) 36 3 (by decide +kernel) rfl rfl rfl ?_
    refine sm_iload_n (k := 2) 37 4 (by decide +kernel) rfl rfl rfl ?_
    refine sm_callV (M2 := mm_B_numberOf) (av := [.int x2]) (rest := []) 40 (by decide +kernel) ml_E_164 (Nat.le_refl _) rfl rfl (by first | exact Nat.le_of_ble_eq_true rfl | simp [sm_rfc, Value.category]) rfl hf ?_
    rintro r15 h14 ⟨z16, rfl, hf⟩
    change sm_W N (d + 1) mm_E_increase 40 [(4, .long z13), (3, .int z5), (0, .ref x0), (1, .ref x1), (2, .int x2)] [.long z16] h14 Q
    refine sm_lstore (i := 6) 42 [(6, .long z16), (4, .long z13), (3, .int z5), (0, .ref x0), (1, .ref x1), (2, .int x2)] (by decide +kernel) (by decide) (by first | rfl | simp [sm_rfc]) rfl ?_
    refine sm_lload (i := 4) 44 1 (by decide +kernel) rfl rfl ?_
    refine sm_lload (i := 6) 46 0 (by decide +kernel) rfl rfl ?_
    refine sm_ladd 47 (by decide +kernel) rfl ?_
    refine sm_lstore (i := 8) 49 [(8, .long (z13 + z16)), (6, .long z16), (4, .long z13), (3, .int z5), (0, .ref x0), (1, .ref x1), (2, .int x2)] (by decide +kernel) (by decide) (by first | rfl | simp [sm_rfc]) rfl ?_
    refine sm_lload (i := 4) 51 2 (by decide +kernel) rfl rfl ?_
    refine sm_lload (i := 8) 53 0 (by decide +kernel) rfl rfl ?_
    refine sm_lxor 54 (by decide +kernel) rfl ?_
    refine sm_lload (i := 6) 56 1 (by decide +kernel) rfl rfl ?_
    refine sm_lload (i := 8) 58 0 (by decide +kernel) rfl rfl ?_
    refine sm_lxor 59 (by decide +kernel) rfl ?_
    refine sm_land 60 (by decide +kernel) rfl ?_
    refine sm_lconst (i := 0) (x := 0) 61 (by decide +kernel) rfl rfl ?_
    refine sm_lcmp 62 (by decide +kernel) rfl ?_
    refine sm_if_ge (off := 6) 65 68 (by decide +kernel) (by decide) rfl (fun q23 => ?_) (fun q23 => ?_)
    · have hf := hf.1 q23
      refine sm_iload_n (k := 3) 69 3 (by decide +kernel) rfl rfl rfl ?_
      refine sm_bipush (i := 16) (x := 16) 71 (by decide +kernel) (by decide) rfl ?_
      refine sm_icmp_ne (off := 27) 74 98 (by decide +kernel) (by decide) rfl (fun q22 => ?_) (fun q22 => ?_)
      · have hf := hf.2 q22
        exact sm_sub [4, 0] rfl hf
      · have hf := hf.1 q22
        refine sm_aload_n (k := 1) 75 5 (by decide +kernel) rfl rfl rfl ?_
        refine sm_iload_n (k := 2) 76 6 (by decide +kernel) rfl rfl rfl ?_
        refine sm_callV (M2 := mm_B_at) (av := [.int x2]) (rest := []) 79 (by decide +kernel) ml_E_127 (Nat.le_refl _) rfl rfl (by first | exact Nat.le_of_ble_eq_true rfl | simp [sm_rfc, Value.category]) rfl hf ?_
        rintro r18 h17 ⟨z19, rfl, hf⟩
        change sm_W N (d + 1) mm_E_increase 79 [(8, .long (z13 + z16)), (6, .long z16), (4, .long z13), (3, .int z5), (0, .ref x0), (1, .ref x1), (2, .int x2)] [.int z19] h17 Q
        refine sm_bipush (i := 16) (x := 16) 81 (by decide +kernel) (by decide) rfl ?_
        refine sm_icmp_ne (off := 17) 84 98 (by decide +kernel) (by decide) rfl (fun q21 => ?_) (fun q21 => ?_)
        · have hf := hf.2 q21
          exact sm_sub [4, 0] rfl hf
        · have hf := hf.1 q21
          refine sm_lload (i := 8) 86 0 (by decide +kernel) rfl rfl ?_
          refine sm_lload (i := 8) 88 0 (by decide +kernel) rfl rfl ?_
          refine sm_l2i 89 (by decide +kernel) rfl ?_
          refine sm_i2l 90 (by decide +kernel) rfl ?_
          refine sm_lcmp 91 (by decide +kernel) rfl ?_
          refine sm_if_ne (off := 7) 94 98 (by decide +kernel) (by decide) rfl (fun q20 => ?_) (fun q20 => ?_)
          · have hf := hf.2 q20
            exact sm_sub [4, 0] rfl hf
          · have hf := hf.1 q20
            refine sm_iconst (i := 1) (x := 1) 95 (by decide +kernel) rfl rfl ?_
            refine sm_goto (off := 4) 99 (by decide +kernel) (by decide) ?_
            exact sm_sub [4, 0] rfl hf
    · have hf := hf.2 q23
      refine sm_bipush (i := -8) (x := (-8)) 67 (by decide +kernel) (by decide) rfl ?_
      exact sm_iret rfl (by decide +kernel) hf
  · have hf := hf.1 q24
    refine sm_bipush (i := -7) (x := (-7)) 21 (by decide +kernel) (by decide) rfl ?_
    exact sm_iret rfl (by decide +kernel) hf
def fE_increase_98 (N d : Nat) (h : sm_H) (Q : Option Value → sm_H → Prop) (x0 : Nat) (x8 : Int64) : Prop := sm_W N (d + 1) mm_E_increase 99 [(0, .ref x0), (8, .long x8)] [.int 0] h Q
set_option maxRecDepth 20000 in
set_option maxHeartbeats 4000000 in
theorem kE_increase_98 {N d : Nat} {h : sm_H} {Q : Option Value → sm_H → Prop} {x0 : Nat} {x8 : Int64} (hf : fE_increase_98 N d h Q x0 x8) : sm_W N (d + 1) mm_E_increase 98 [(0, .ref x0), (8, .long x8)] [] h Q := by
  unfold fE_increase_98 at hf
  refine sm_iconst (i := 0) (x := 0) 99 (by decide +kernel) rfl rfl ?_
  exact sm_sub [0, 1] rfl hf
def fE_increase_99 (N d : Nat) (h : sm_H) (Q : Option Value → sm_H → Prop) (x0 : Nat) (x8 : Int64) (y0 : Int32) : Prop := ∃ z1 : Nat, sm_g h x0 2 4 = some (.ref z1) ∧ sm_V N d mm_B_becomeNumber 0 z1 [.long x8] h (fun r3 h2 => r3 = none ∧ ((y0 = 0 → sm_W N (d + 1) mm_E_increase 123 [(0, .ref x0), (10, .int y0)] [.int 18, .ref x0] h2 Q) ∧ (¬ y0 = 0 → sm_W N (d + 1) mm_E_increase 123 [(0, .ref x0), (10, .int y0)] [.int 16, .ref x0] h2 Q)))
set_option maxRecDepth 20000 in
set_option maxHeartbeats 4000000 in
theorem kE_increase_99 {N d : Nat} {h : sm_H} {Q : Option Value → sm_H → Prop} {x0 : Nat} {x8 : Int64} {y0 : Int32} (hf : fE_increase_99 N d h Q x0 x8 y0) : sm_W N (d + 1) mm_E_increase 99 [(0, .ref x0), (8, .long x8)] [.int y0] h Q := by
  unfold fE_increase_99 at hf
  refine sm_istore (i := 10) 101 [(10, .int y0), (0, .ref x0), (8, .long x8)] (by decide +kernel) (by decide) (by first | rfl | simp [sm_rfc]) rfl ?_
  refine sm_aload_n (k := 0) 102 1 (by decide +kernel) rfl rfl rfl ?_
  obtain ⟨z1, ez1, hf⟩ := hf
  refine sm_get 105 (by decide +kernel) fl_E_30 ez1 rfl ?_
  refine sm_lload (i := 8) 107 2 (by decide +kernel) rfl rfl ?_
  refine sm_callV (M2 := mm_B_becomeNumber) (av := [.long x8]) (rest := []) 110 (by decide +kernel) ml_E_168 (Nat.le_refl _) rfl rfl (by first | exact Nat.le_of_ble_eq_true rfl | simp [sm_rfc, Value.category]) rfl hf ?_
  rintro r3 h2 ⟨rfl, hf⟩
  change sm_W N (d + 1) mm_E_increase 110 [(10, .int y0), (0, .ref x0), (8, .long x8)] [] h2 Q
  refine sm_aload_n (k := 0) 111 1 (by decide +kernel) rfl rfl rfl ?_
  refine sm_iload (i := 10) 113 0 (by decide +kernel) rfl rfl ?_
  refine sm_if_eq (off := 8) 116 121 (by decide +kernel) (by decide) rfl (fun q4 => ?_) (fun q4 => ?_)
  · have hf := hf.1 q4
    refine sm_bipush (i := 18) (x := 18) 123 (by decide +kernel) (by decide) rfl ?_
    exact sm_sub [1, 0] rfl hf
  · have hf := hf.2 q4
    refine sm_bipush (i := 16) (x := 16) 118 (by decide +kernel) (by decide) rfl ?_
    refine sm_goto (off := 5) 123 (by decide +kernel) (by decide) ?_
    exact sm_sub [1, 0] rfl hf
def fE_increase_123 (N d : Nat) (h : sm_H) (Q : Option Value → sm_H → Prop) (x0 : Nat) (x10 : Int32) (y0 : Int32) (y1 : Nat) : Prop := ∃ z1 : Nat, sm_g h x0 2 4 = some (.ref z1) ∧ ((x10 = 0 → sm_W N (d + 1) mm_E_increase 139 [] [.int 8, .int 0, .ref z1, .int y0, .ref y1] h Q) ∧ (¬ x10 = 0 → sm_W N (d + 1) mm_E_increase 139 [] [.int 4, .int 0, .ref z1, .int y0, .ref y1] h Q))
set_option maxRecDepth 20000 in
set_option maxHeartbeats 4000000 in
theorem kE_increase_123 {N d : Nat} {h : sm_H} {Q : Option Value → sm_H → Prop} {x0 : Nat} {x10 : Int32} {y0 : Int32} {y1 : Nat} (hf : fE_increase_123 N d h Q x0 x10 y0 y1) : sm_W N (d + 1) mm_E_increase 123 [(0, .ref x0), (10, .int x10)] [.int y0, .ref y1] h Q := by
  unfold fE_increase_123 at hf
  refine sm_aload_n (k := 0) 124 0 (by decide +kernel) rfl rfl rfl ?_
  obtain ⟨z1, ez1, hf⟩ := hf
  refine sm_get 127 (by decide +kernel) fl_E_30 ez1 rfl ?_
  refine sm_iconst (i := 0) (x := 0) 128 (by decide +kernel) rfl rfl ?_
  refine sm_iload (i := 10) 130 1 (by decide +kernel) rfl rfl ?_
  refine sm_if_eq (off := 7) 133 137 (by decide +kernel) (by decide) rfl (fun q2 => ?_) (fun q2 => ?_)
  · have hf := hf.1 q2
    refine sm_bipush (i := 8) (x := 8) 139 (by decide +kernel) (by decide) rfl ?_
    exact sm_sub [] rfl hf
  · have hf := hf.2 q2
    refine sm_iconst (i := 4) (x := 4) 134 (by decide +kernel) rfl rfl ?_
    refine sm_goto (off := 5) 139 (by decide +kernel) (by decide) ?_
    exact sm_sub [] rfl hf
def fE_increase_139 (N d : Nat) (h : sm_H) (Q : Option Value → sm_H → Prop) (y0 : Int32) (y1 : Int32) (y2 : Nat) (y3 : Int32) (y4 : Nat) : Prop := sm_V N d mm_E_replaceValue 2 y4 [.int y3, .ref y2, .int y1, .int y0] h (fun r2 h1 => ∃ z3 : Int32, r2 = some (.int z3) ∧ Q (some (.int z3)) h1)
set_option maxRecDepth 20000 in
set_option maxHeartbeats 4000000 in
theorem kE_increase_139 {N d : Nat} {h : sm_H} {Q : Option Value → sm_H → Prop} {y0 : Int32} {y1 : Int32} {y2 : Nat} {y3 : Int32} {y4 : Nat} (hf : fE_increase_139 N d h Q y0 y1 y2 y3 y4) : sm_W N (d + 1) mm_E_increase 139 [] [.int y0, .int y1, .ref y2, .int y3, .ref y4] h Q := by
  unfold fE_increase_139 at hf
  refine sm_callV (M2 := mm_E_replaceValue) (av := [.int y3, .ref y2, .int y1, .int y0]) (rest := []) 142 (by decide +kernel) ml_E_153 (Nat.le_refl _) rfl rfl (by first | exact Nat.le_of_ble_eq_true rfl | simp [sm_rfc, Value.category]) rfl hf ?_
  rintro r2 h1 ⟨z3, rfl, hf⟩
  change sm_W N (d + 1) mm_E_increase 142 [] [.int z3] h1 Q
  exact sm_iret rfl (by decide +kernel) hf
theorem cE_increase {N d : Nat} {h : sm_H} {Q : Option Value → sm_H → Prop} {x0 : Nat} {x1 : Nat} {x2 : Int32} (hb : ∃ fs, h[x0]? = some (.inr (2, fs))) (hf : fE_increase_0 N d h Q x0 x1 x2) : sm_V N (d + 1) mm_E_increase 2 x0 [.ref x1, .int x2] h Q := ⟨hb, sm_meth (by decide +kernel) (fun _ => Nat.le_of_ble_eq_true rfl) (fun _ => rfl) (kE_increase_0 hf)⟩
def fE_addItem_0 (N d : Nat) (h : sm_H) (Q : Option Value → sm_H → Prop) (x0 : Nat) (x1 : Nat) (x2 : Int32) : Prop := ∃ z1 : Int32, sm_g h x0 2 7 = some (.int z1) ∧ ((z1 = (-1) → ∃ z2 : Nat, sm_g h x0 2 2 = some (.ref z2) ∧ sm_V N d mm_E_addElement 2 x0 [.int 4, .ref x1, .ref z2, .int 0, .int 5] h (fun r4 h3 => r4 = none ∧ sm_W N (d + 1) mm_E_addItem 20 [(0, .ref x0), (1, .ref x1), (2, .int x2)] [] h3 Q)) ∧ (¬ z1 = (-1) → sm_W N (d + 1) mm_E_addItem 20 [(0, .ref x0), (1, .ref x1), (2, .int x2)] [] h Q))
set_option maxRecDepth 20000 in
set_option maxHeartbeats 4000000 in
theorem kE_addItem_0 {N d : Nat} {h : sm_H} {Q : Option Value → sm_H → Prop} {x0 : Nat} {x1 : Nat} {x2 : Int32} (hf : fE_addItem_0 N d h Q x0 x1 x2) : sm_W N (d + 1) mm_E_addItem 0 [(0, .ref x0), (1, .ref x1), (2, .int x2)] [] h Q := by
  unfold fE_addItem_0 at hf
  refine sm_aload_n (k := 0) 1 0 (by decide +kernel) rfl rfl rfl ?_
  obtain ⟨z1, ez1, hf⟩ := hf
  refine sm_get 4 (by decide +kernel) fl_E_40 ez1 rfl ?_
  refine sm_iconst (i := -1) (x := (-1)) 5 (by decide +kernel) rfl rfl ?_
  refine sm_icmp_ne (off := 15) 8 20 (by decide +kernel) (by decide) rfl (fun q5 => ?_) (fun q5 => ?_)
  · have hf := hf.2 q5
    exact sm_sub [0, 1, 2] rfl hf
  · have hf := hf.1 q5
    refine sm_aload_n (k := 0) 9 0 (by decide +kernel) rfl rfl rfl ?_
    refine sm_iconst (i := 4) (x := 4) 10 (by decide +kernel) rfl rfl ?_
    refine sm_aload_n (k := 1) 11 1 (by decide +kernel) rfl rfl rfl ?_
    refine sm_aload_n (k := 0) 12 0 (by decide +kernel) rfl rfl rfl ?_
    obtain ⟨z2, ez2, hf⟩ := hf
    refine sm_get 15 (by decide +kernel) fl_E_24 ez2 rfl ?_
    refine sm_iconst (i := 0) (x := 0) 16 (by decide +kernel) rfl rfl ?_
    refine sm_iconst (i := 5) (x := 5) 17 (by decide +kernel) rfl rfl ?_
    refine sm_callV (M2 := mm_E_addElement) (av := [.int 4, .ref x1, .ref z2, .int 0, .int 5]) (rest := []) 20 (by decide +kernel) ml_E_123 (Nat.le_refl _) rfl rfl (by first | exact Nat.le_of_ble_eq_true rfl | simp [sm_rfc, Value.category]) rfl hf ?_
    rintro r4 h3 ⟨rfl, hf⟩
    change sm_W N (d + 1) mm_E_addItem 20 [(0, .ref x0), (1, .ref x1), (2, .int x2)] [] h3 Q
    exact sm_sub [0, 1, 2] rfl hf
def fE_addItem_20 (N d : Nat) (h : sm_H) (Q : Option Value → sm_H → Prop) (x0 : Nat) (x1 : Nat) (x2 : Int32) : Prop := ∃ z1 : Nat, sm_g h x0 2 0 = some (.ref z1) ∧ ∃ z2 : Int32, sm_g h x0 2 7 = some (.int z2) ∧ sm_V N d mm_B_at 0 z1 [.int z2] h (fun r4 h3 => ∃ z5 : Int32, r4 = some (.int z5) ∧ ((z5 = 4 → ∃ z6 : Nat, sm_g h3 x0 2 0 = some (.ref z6) ∧ ∃ z7 : Int32, sm_g h3 x0 2 7 = some (.int z7) ∧ sm_V N d mm_B_valueStart 0 z6 [.int z7] h3 (fun r9 h8 => ∃ z10 : Int32, r9 = some (.int z10) ∧ sm_V N d mm_E_enter 2 x0 [.int z10, .int 4] h8 (fun r12 h11 => r12 = none ∧ ∃ z13 : Nat, sm_g h11 x0 2 3 = some (.ref z13) ∧ ∃ z14 : Nat, sm_g h11 x0 2 0 = some (.ref z14) ∧ sm_V N d mm_E_holder 2 x0 [] h11 (fun r16 h15 => ∃ z17 : Int32, r16 = some (.int z17) ∧ sm_V N d mm_B_countElements 0 z14 [.int z17] h15 (fun r19 h18 => ∃ z20 : Int32, r19 = some (.int z20) ∧ sm_V N d mm_B_becomeDigits 0 z13 [.int z20] h18 (fun r22 h21 => r22 = none ∧ ∃ h23, sm_p h21 x0 2 8 (.int 0) = some h23 ∧ ∃ z24 : Nat, sm_g h23 x0 2 3 = some (.ref z24) ∧ ∃ z25 : Int32, sm_g h23 z24 0 1 = some (.int z25) ∧ ∃ h26, sm_p h23 x0 2 9 (.int z25) = some h26 ∧ sm_V N d mm_B_at 0 x1 [.int x2] h26 (fun r28 h27 => ∃ z29 : Int32, r28 = some (.int z29) ∧ ∃ z30 : Nat, sm_g h27 x0 2 3 = some (.ref z30) ∧ sm_V N d mm_B_valueStart 0 x1 [.int x2] h27 (fun r32 h31 => ∃ z33 : Int32, r32 = some (.int z33) ∧ sm_V N d mm_B_valueEnd 0 x1 [.int x2] h31 (fun r35 h34 => ∃ z36 : Int32, r35 = some (.int z36) ∧ sm_V N d mm_E_addElement 2 x0 [.int z29, .ref z30, .ref x1, .int z33, .int z36] h34 (fun r38 h37 => r38 = none ∧ Q (some (.int 1)) h37)))))))))) ∧ (¬ z5 = 4 → Q (some (.int (-7))) h3)))
set_option maxRecDepth 20000 in
set_option maxHeartbeats 4000000 in
theorem kE_addItem_20 {N d : Nat} {h : sm_H} {Q : Option Value → sm_H → Prop} {x0 : Nat} {x1 : Nat} {x2 : Int32} (hf : fE_addItem_20 N d h Q x0 x1 x2) : sm_W N (d + 1) mm_E_addItem 20 [(0, .ref x0), (1, .ref x1), (2, .int x2)] [] h Q := by
  unfold fE_addItem_20 at hf
  refine sm_aload_n (k := 0) 21 0 (by decide +kernel) rfl rfl rfl ?_
  obtain ⟨z1, ez1, hf⟩ := hf
  refine sm_get 24 (by decide +kernel) fl_E_14 ez1 rfl ?_
  refine sm_aload_n (k := 0) 25 0 (by decide +kernel) rfl rfl rfl ?_
  obtain ⟨z2, ez2, hf⟩ := hf
  refine sm_get 28 (by decide +kernel) fl_E_40 ez2 rfl ?_
  refine sm_callV (M2 := mm_B_at) (av := [.int z2]) (rest := []) 31 (by decide +kernel) ml_E_127 (Nat.le_refl _) rfl rfl (by first | exact Nat.le_of_ble_eq_true rfl | simp [sm_rfc, Value.category]) rfl hf ?_
  rintro r4 h3 ⟨z5, rfl, hf⟩
  change sm_W N (d + 1) mm_E_addItem 31 [(0, .ref x0), (1, .ref x1), (2, .int x2)] [.int z5] h3 Q
  refine sm_iconst (i := 4) (x := 4) 32 (by decide +kernel) rfl rfl ?_
  refine sm_icmp_eq (off := 6) 35 38 (by decide +kernel) (by decide) rfl (fun q39 => ?_) (fun q39 => ?_)
  · have hf := hf.1 q39
    refine sm_aload_n (k := 0) 39 0 (by decide +kernel) rfl rfl rfl ?_
    refine sm_aload_n (k := 0) 40 0 (by decide +kernel) rfl rfl rfl ?_
    obtain ⟨z6, ez6, hf⟩ := hf
    refine sm_get 43 (by decide +kernel) fl_E_14 ez6 rfl ?_
    refine sm_aload_n (k := 0) 44 0 (by decide +kernel) rfl rfl rfl ?_
    obtain ⟨z7, ez7, hf⟩ := hf
    refine sm_get 47 (by decide +kernel) fl_E_40 ez7 rfl ?_
    refine sm_callV (M2 := mm_B_valueStart) (av := [.int z7]) (rest := [.ref x0]) 50 (by decide +kernel) ml_E_134 (Nat.le_refl _) rfl rfl (by first | exact Nat.le_of_ble_eq_true rfl | simp [sm_rfc, Value.category]) rfl hf ?_
    rintro r9 h8 ⟨z10, rfl, hf⟩
    change sm_W N (d + 1) mm_E_addItem 50 [(0, .ref x0), (1, .ref x1), (2, .int x2)] [.int z10, .ref x0] h8 Q
    refine sm_iconst (i := 4) (x := 4) 51 (by decide +kernel) rfl rfl ?_
    refine sm_callV (M2 := mm_E_enter) (av := [.int z10, .int 4]) (rest := []) 54 (by decide +kernel) ml_E_112 (Nat.le_refl _) rfl rfl (by first | exact Nat.le_of_ble_eq_true rfl | simp [sm_rfc, Value.category]) rfl hf ?_
    rintro r12 h11 ⟨rfl, hf⟩
    change sm_W N (d + 1) mm_E_addItem 54 [(0, .ref x0), (1, .ref x1), (2, .int x2)] [] h11 Q
    refine sm_aload_n (k := 0) 55 0 (by decide +kernel) rfl rfl rfl ?_
    obtain ⟨z13, ez13, hf⟩ := hf
    refine sm_get 58 (by decide +kernel) fl_E_27 ez13 rfl ?_
    refine sm_aload_n (k := 0) 59 0 (by decide +kernel) rfl rfl rfl ?_
    obtain ⟨z14, ez14, hf⟩ := hf
    refine sm_get 62 (by decide +kernel) fl_E_14 ez14 rfl ?_
    refine sm_aload_n (k := 0) 63 0 (by decide +kernel) rfl rfl rfl ?_
    refine sm_callV (M2 := mm_E_holder) (av := []) (rest := [.ref z14, .ref z13]) 66 (by decide +kernel) ml_E_137 (Nat.le_refl _) rfl rfl (by first | exact Nat.le_of_ble_eq_true rfl | simp [sm_rfc, Value.category]) rfl hf ?_
    rintro r16 h15 ⟨z17, rfl, hf⟩
    change sm_W N (d + 1) mm_E_addItem 66 [(0, .ref x0), (1, .ref x1), (2, .int x2)] [.int z17, .ref z14, .ref z13] h15 Q
    refine sm_callV (M2 := mm_B_countElements) (av := [.int z17]) (rest := [.ref z13]) 69 (by decide +kernel) ml_E_172 (Nat.le_refl _) rfl rfl (by first | exact Nat.le_of_ble_eq_true rfl | simp [sm_rfc, Value.category]) rfl hf ?_
    rintro r19 h18 ⟨z20, rfl, hf⟩
    change sm_W N (d + 1) mm_E_addItem 69 [(0, .ref x0), (1, .ref x1), (2, .int x2)] [.int z20, .ref z13] h18 Q
    refine sm_callV (M2 := mm_B_becomeDigits) (av := [.int z20]) (rest := []) 72 (by decide +kernel) ml_E_150 (Nat.le_refl _) rfl rfl (by first | exact Nat.le_of_ble_eq_true rfl | simp [sm_rfc, Value.category]) rfl hf ?_
    rintro r22 h21 ⟨rfl, hf⟩
    change sm_W N (d + 1) mm_E_addItem 72 [(0, .ref x0), (1, .ref x1), (2, .int x2)] [] h21 Q
    refine sm_aload_n (k := 0) 73 0 (by decide +kernel) rfl rfl rfl ?_
    refine sm_iconst (i := 0) (x := 0) 74 (by decide +kernel) rfl rfl ?_
    obtain ⟨h23, eh23, hf⟩ := hf
    refine sm_put (ty := .int) 77 (by decide +kernel) fp_E_43 (fun _ => rfl) rfl rfl eh23 rfl ?_
    refine sm_aload_n (k := 0) 78 0 (by decide +kernel) rfl rfl rfl ?_
    refine sm_aload_n (k := 0) 79 0 (by decide +kernel) rfl rfl rfl ?_
    obtain ⟨z24, ez24, hf⟩ := hf
    refine sm_get 82 (by decide +kernel) fl_E_27 ez24 rfl ?_
    obtain ⟨z25, ez25, hf⟩ := hf
    refine sm_get 85 (by decide +kernel) fl_E_78 ez25 rfl ?_
    obtain ⟨h26, eh26, hf⟩ := hf
    refine sm_put (ty := .int) 88 (by decide +kernel) fp_E_46 (fun _ => rfl) rfl rfl eh26 rfl ?_
    refine sm_aload_n (k := 0) 89 0 (by decide +kernel) rfl rfl rfl ?_
    refine sm_aload_n (k := 1) 90 1 (by decide +kernel) rfl rfl rfl ?_
    refine sm_iload_n (k := 2) 91 2 (by decide +kernel) rfl rfl rfl ?_
    refine sm_callV (M2 := mm_B_at) (av := [.int x2]) (rest := [.ref x0]) 94 (by decide +kernel) ml_E_127 (Nat.le_refl _) rfl rfl (by first | exact Nat.le_of_ble_eq_true rfl | simp [sm_rfc, Value.category]) rfl hf ?_
    rintro r28 h27 ⟨z29, rfl, hf⟩
    change sm_W N (d + 1) mm_E_addItem 94 [(0, .ref x0), (1, .ref x1), (2, .int x2)] [.int z29, .ref x0] h27 Q
    refine sm_aload_n (k := 0) 95 0 (by decide +kernel) rfl rfl rfl ?_
    obtain ⟨z30, ez30, hf⟩ := hf
    refine sm_get 98 (by decide +kernel) fl_E_27 ez30 rfl ?_
    refine sm_aload_n (k := 1) 99 1 (by decide +kernel) rfl rfl rfl ?_
    refine sm_aload_n (k := 1) 100 1 (by decide +kernel) rfl rfl rfl ?_
    refine sm_iload_n (k := 2) 101 2 (by decide +kernel) rfl rfl rfl ?_
    refine sm_callV (M2 := mm_B_valueStart) (av := [.int x2]) (rest := [.ref x1, .ref z30, .int z29, .ref x0]) 104 (by decide +kernel) ml_E_134 (Nat.le_refl _) rfl rfl (by first | exact Nat.le_of_ble_eq_true rfl | simp [sm_rfc, Value.category]) rfl hf ?_
    rintro r32 h31 ⟨z33, rfl, hf⟩
    change sm_W N (d + 1) mm_E_addItem 104 [(0, .ref x0), (1, .ref x1), (2, .int x2)] [.int z33, .ref x1, .ref z30, .int z29, .ref x0] h31 Q
    refine sm_aload_n (k := 1) 105 1 (by decide +kernel) rfl rfl rfl ?_
    refine sm_iload_n (k := 2) 106 2 (by decide +kernel) rfl rfl rfl ?_
    refine sm_callV (M2 := mm_B_valueEnd) (av := [.int x2]) (rest := [.int z33, .ref x1, .ref z30, .int z29, .ref x0]) 109 (by decide +kernel) ml_E_147 (Nat.le_refl _) rfl rfl (by first | exact Nat.le_of_ble_eq_true rfl | simp [sm_rfc, Value.category]) rfl hf ?_
    rintro r35 h34 ⟨z36, rfl, hf⟩
    change sm_W N (d + 1) mm_E_addItem 109 [(0, .ref x0), (1, .ref x1), (2, .int x2)] [.int z36, .int z33, .ref x1, .ref z30, .int z29, .ref x0] h34 Q
    refine sm_callV (M2 := mm_E_addElement) (av := [.int z29, .ref z30, .ref x1, .int z33, .int z36]) (rest := []) 112 (by decide +kernel) ml_E_123 (Nat.le_refl _) rfl rfl (by first | exact Nat.le_of_ble_eq_true rfl | simp [sm_rfc, Value.category]) rfl hf ?_
    rintro r38 h37 ⟨rfl, hf⟩
    change sm_W N (d + 1) mm_E_addItem 112 [(0, .ref x0), (1, .ref x1), (2, .int x2)] [] h37 Q
    refine sm_iconst (i := 1) (x := 1) 113 (by decide +kernel) rfl rfl ?_
    exact sm_iret rfl (by decide +kernel) hf
  · have hf := hf.2 q39
    refine sm_bipush (i := -7) (x := (-7)) 37 (by decide +kernel) (by decide) rfl ?_
    exact sm_iret rfl (by decide +kernel) hf
theorem cE_addItem {N d : Nat} {h : sm_H} {Q : Option Value → sm_H → Prop} {x0 : Nat} {x1 : Nat} {x2 : Int32} (hb : ∃ fs, h[x0]? = some (.inr (2, fs))) (hf : fE_addItem_0 N d h Q x0 x1 x2) : sm_V N (d + 1) mm_E_addItem 2 x0 [.ref x1, .int x2] h Q := ⟨hb, sm_meth (by decide +kernel) (fun _ => Nat.le_of_ble_eq_true rfl) (fun _ => rfl) (kE_addItem_0 hf)⟩
def fE_hasItem_0 (N d : Nat) (h : sm_H) (Q : Option Value → sm_H → Prop) (x0 : Nat) (x1 : Nat) (x2 : Int32) : Prop := ∃ z1 : Int32, sm_g h x0 2 7 = some (.int z1) ∧ ((z1 = (-1) → Q (some (.int 0)) h) ∧ (¬ z1 = (-1) → ∃ z2 : Nat, sm_g h x0 2 0 = some (.ref z2) ∧ ∃ z3 : Int32, sm_g h x0 2 7 = some (.int z3) ∧ sm_V N d mm_B_at 0 z2 [.int z3] h (fun r5 h4 => ∃ z6 : Int32, r5 = some (.int z6) ∧ ((z6 = 4 → ∃ z7 : Nat, sm_g h4 x0 2 0 = some (.ref z7) ∧ ∃ z8 : Int32, sm_g h4 x0 2 7 = some (.int z8) ∧ sm_V N d mm_B_valueStart 0 z7 [.int z8] h4 (fun r10 h9 => ∃ z11 : Int32, r10 = some (.int z11) ∧ ∃ z12 : Nat, sm_g h9 x0 2 0 = some (.ref z12) ∧ sm_V N d mm_B_lastOf 0 z12 [.int z11] h9 (fun r14 h13 => ∃ z15 : Int32, r14 = some (.int z15) ∧ sm_W N (d + 1) mm_E_hasItem 55 [(0, .ref x0), (1, .ref x1), (2, .int x2), (4, .int z15), (5, .int (z11 + 4)), (6, .int 0)] [] h13 Q))) ∧ (¬ z6 = 4 → Q (some (.int 0)) h4)))))
set_option maxRecDepth 20000 in
set_option maxHeartbeats 4000000 in
theorem kE_hasItem_0 {N d : Nat} {h : sm_H} {Q : Option Value → sm_H → Prop} {x0 : Nat} {x1 : Nat} {x2 : Int32} (hf : fE_hasItem_0 N d h Q x0 x1 x2) : sm_W N (d + 1) mm_E_hasItem 0 [(0, .ref x0), (1, .ref x1), (2, .int x2)] [] h Q := by
  unfold fE_hasItem_0 at hf
  refine sm_aload_n (k := 0) 1 0 (by decide +kernel) rfl rfl rfl ?_
  obtain ⟨z1, ez1, hf⟩ := hf
  refine sm_get 4 (by decide +kernel) fl_E_40 ez1 rfl ?_
  refine sm_iconst (i := -1) (x := (-1)) 5 (by decide +kernel) rfl rfl ?_
  refine sm_icmp_eq (off := 18) 8 23 (by decide +kernel) (by decide) rfl (fun q17 => ?_) (fun q17 => ?_)
  · have hf := hf.1 q17
    refine sm_iconst (i := 0) (x := 0) 24 (by decide +kernel) rfl rfl ?_
    exact sm_zret rfl (by decide +kernel) (by decide) hf
  · have hf := hf.2 q17
    refine sm_aload_n (k := 0) 9 0 (by decide +kernel) rfl rfl rfl ?_
    obtain ⟨z2, ez2, hf⟩ := hf
    refine sm_get 12 (by decide +kernel) fl_E_14 ez2 rfl ?_
    refine sm_aload_n (k := 0) 13 0 (by decide +kernel) rfl rfl rfl ?_
    obtain ⟨z3, ez3, hf⟩ := hf
    refine sm_get 16 (by decide +kernel) fl_E_40 ez3 rfl ?_
    refine sm_callV (M2 := mm_B_at) (av := [.int z3]) (rest := []) 19 (by decide +kernel) ml_E_127 (Nat.le_refl _) rfl rfl (by first | exact Nat.le_of_ble_eq_true rfl | simp [sm_rfc, Value.category]) rfl hf ?_
    rintro r5 h4 ⟨z6, rfl, hf⟩
    change sm_W N (d + 1) mm_E_hasItem 19 [(0, .ref x0), (1, .ref x1), (2, .int x2)] [.int z6] h4 Q
    refine sm_iconst (i := 4) (x := 4) 20 (by decide +kernel) rfl rfl ?_
    refine sm_icmp_eq (off := 5) 23 25 (by decide +kernel) (by decide) rfl (fun q16 => ?_) (fun q16 => ?_)
    · have hf := hf.1 q16
      refine sm_aload_n (k := 0) 26 0 (by decide +kernel) rfl rfl rfl ?_
      obtain ⟨z7, ez7, hf⟩ := hf
      refine sm_get 29 (by decide +kernel) fl_E_14 ez7 rfl ?_
      refine sm_aload_n (k := 0) 30 0 (by decide +kernel) rfl rfl rfl ?_
      obtain ⟨z8, ez8, hf⟩ := hf
      refine sm_get 33 (by decide +kernel) fl_E_40 ez8 rfl ?_
      refine sm_callV (M2 := mm_B_valueStart) (av := [.int z8]) (rest := []) 36 (by decide +kernel) ml_E_134 (Nat.le_refl _) rfl rfl (by first | exact Nat.le_of_ble_eq_true rfl | simp [sm_rfc, Value.category]) rfl hf ?_
      rintro r10 h9 ⟨z11, rfl, hf⟩
      change sm_W N (d + 1) mm_E_hasItem 36 [(0, .ref x0), (1, .ref x1), (2, .int x2)] [.int z11] h9 Q
      refine sm_istore_n (k := 3) 37 [(3, .int z11), (0, .ref x0), (1, .ref x1), (2, .int x2)] (by decide +kernel) rfl (by decide) (by first | rfl | simp [sm_rfc]) rfl ?_
      refine sm_aload_n (k := 0) 38 1 (by decide +kernel) rfl rfl rfl ?_
      obtain ⟨z12, ez12, hf⟩ := hf
      refine sm_get 41 (by decide +kernel) fl_E_14 ez12 rfl ?_
      refine sm_iload_n (k := 3) 42 0 (by decide +kernel) rfl rfl rfl ?_
      refine sm_callV (M2 := mm_B_lastOf) (av := [.int z11]) (rest := []) 45 (by decide +kernel) ml_E_140 (Nat.le_refl _) rfl rfl (by first | exact Nat.le_of_ble_eq_true rfl | simp [sm_rfc, Value.category]) rfl hf ?_
      rintro r14 h13 ⟨z15, rfl, hf⟩
      change sm_W N (d + 1) mm_E_hasItem 45 [(3, .int z11), (0, .ref x0), (1, .ref x1), (2, .int x2)] [.int z15] h13 Q
      refine sm_istore (i := 4) 47 [(4, .int z15), (3, .int z11), (0, .ref x0), (1, .ref x1), (2, .int x2)] (by decide +kernel) (by decide) (by first | rfl | simp [sm_rfc]) rfl ?_
      refine sm_iload_n (k := 3) 48 1 (by decide +kernel) rfl rfl rfl ?_
      refine sm_iconst (i := 4) (x := 4) 49 (by decide +kernel) rfl rfl ?_
      refine sm_iadd 50 (by decide +kernel) rfl ?_
      refine sm_istore (i := 5) 52 [(5, .int (z11 + 4)), (4, .int z15), (3, .int z11), (0, .ref x0), (1, .ref x1), (2, .int x2)] (by decide +kernel) (by decide) (by first | rfl | simp [sm_rfc]) rfl ?_
      refine sm_iconst (i := 0) (x := 0) 53 (by decide +kernel) rfl rfl ?_
      refine sm_istore (i := 6) 55 [(6, .int 0), (5, .int (z11 + 4)), (4, .int z15), (3, .int z11), (0, .ref x0), (1, .ref x1), (2, .int x2)] (by decide +kernel) (by decide) (by first | rfl | simp [sm_rfc]) rfl ?_
      exact sm_sub [4, 5, 6, 2, 1, 0] rfl hf
    · have hf := hf.2 q16
      refine sm_iconst (i := 0) (x := 0) 24 (by decide +kernel) rfl rfl ?_
      exact sm_zret rfl (by decide +kernel) (by decide) hf
def fE_hasItem_55 (N d : Nat) (h : sm_H) (Q : Option Value → sm_H → Prop) (x0 : Nat) (x1 : Nat) (x2 : Int32) (x4 : Int32) (x5 : Int32) (x6 : Int32) : Prop := ∃ z1 : Nat, sm_g h x0 2 0 = some (.ref z1) ∧ ∃ z2 : Int32, sm_g h z1 0 1 = some (.int z2) ∧ ((z2 ≤ x6 → Q (some (.int 0)) h) ∧ (¬ z2 ≤ x6 → ((x4 ≤ x5 → Q (some (.int 0)) h) ∧ (¬ x4 ≤ x5 → ∃ z3 : Nat, sm_g h x0 2 0 = some (.ref z3) ∧ sm_T N d mm_D_sameValues [.ref z3, .int x5, .ref x1, .int x2, .int 0] h (fun r5 h4 => ∃ z6 : Int32, r5 = some (.int z6) ∧ ((z6 = 0 → ∃ z7 : Nat, sm_g h4 x0 2 0 = some (.ref z7) ∧ sm_V N d mm_B_valueEnd 0 z7 [.int x5] h4 (fun r9 h8 => ∃ z10 : Int32, r9 = some (.int z10) ∧ sm_W N (d + 1) mm_E_hasItem 55 [(0, .ref x0), (1, .ref x1), (2, .int x2), (4, .int x4), (5, .int z10), (6, .int (x6 + 1))] [] h8 Q)) ∧ (¬ z6 = 0 → Q (some (.int 1)) h4)))))))
set_option maxRecDepth 20000 in
set_option maxHeartbeats 4000000 in
theorem kE_hasItem_55 {N d : Nat} {h : sm_H} {Q : Option Value → sm_H → Prop} {x0 : Nat} {x1 : Nat} {x2 : Int32} {x4 : Int32} {x5 : Int32} {x6 : Int32} (hf : fE_hasItem_55 N d h Q x0 x1 x2 x4 x5 x6) : sm_W N (d + 1) mm_E_hasItem 55 [(0, .ref x0), (1, .ref x1), (2, .int x2), (4, .int x4), (5, .int x5), (6, .int x6)] [] h Q := by
  unfold fE_hasItem_55 at hf
  refine sm_iload (i := 6) 57 5 (by decide +kernel) rfl rfl ?_
  refine sm_aload_n (k := 0) 58 0 (by decide +kernel) rfl rfl rfl ?_
  obtain ⟨z1, ez1, hf⟩ := hf
  refine sm_get 61 (by decide +kernel) fl_E_14 ez1 rfl ?_
  obtain ⟨z2, ez2, hf⟩ := hf
  refine sm_get 64 (by decide +kernel) fl_E_78 ez2 rfl ?_
  refine sm_icmp_ge (off := 44) 67 108 (by decide +kernel) (by decide) rfl (fun q13 => ?_) (fun q13 => ?_)
  · have hf := hf.1 q13
    refine sm_iconst (i := 0) (x := 0) 109 (by decide +kernel) rfl rfl ?_
    exact sm_zret rfl (by decide +kernel) (by decide) hf
  · have hf := hf.2 q13
    refine sm_iload (i := 5) 69 4 (by decide +kernel) rfl rfl ?_
    refine sm_iload (i := 4) 71 3 (by decide +kernel) rfl rfl ?_
    refine sm_icmp_ge (off := 37) 74 108 (by decide +kernel) (by decide) rfl (fun q12 => ?_) (fun q12 => ?_)
    · have hf := hf.1 q12
      refine sm_iconst (i := 0) (x := 0) 109 (by decide +kernel) rfl rfl ?_
      exact sm_zret rfl (by decide +kernel) (by decide) hf
    · have hf := hf.2 q12
      refine sm_aload_n (k := 0) 75 0 (by decide +kernel) rfl rfl rfl ?_
      obtain ⟨z3, ez3, hf⟩ := hf
      refine sm_get 78 (by decide +kernel) fl_E_14 ez3 rfl ?_
      refine sm_iload (i := 5) 80 4 (by decide +kernel) rfl rfl ?_
      refine sm_aload_n (k := 1) 81 1 (by decide +kernel) rfl rfl rfl ?_
      refine sm_iload_n (k := 2) 82 2 (by decide +kernel) rfl rfl rfl ?_
      refine sm_iconst (i := 0) (x := 0) 83 (by decide +kernel) rfl rfl ?_
      refine sm_callN (M2 := mm_D_sameValues) (av := [.ref z3, .int x5, .ref x1, .int x2, .int 0]) (rest := []) 86 (by decide +kernel) ml_E_175 (Nat.le_refl _) rfl rfl (by first | exact Nat.le_of_ble_eq_true rfl | simp [sm_rfc, Value.category]) rfl hf ?_
      rintro r5 h4 ⟨z6, rfl, hf⟩
      change sm_W N (d + 1) mm_E_hasItem 86 [(0, .ref x0), (1, .ref x1), (2, .int x2), (4, .int x4), (5, .int x5), (6, .int x6)] [.int z6] h4 Q
      refine sm_if_eq (off := 5) 89 91 (by decide +kernel) (by decide) rfl (fun q11 => ?_) (fun q11 => ?_)
      · have hf := hf.1 q11
        refine sm_aload_n (k := 0) 92 0 (by decide +kernel) rfl rfl rfl ?_
        obtain ⟨z7, ez7, hf⟩ := hf
        refine sm_get 95 (by decide +kernel) fl_E_14 ez7 rfl ?_
        refine sm_iload (i := 5) 97 4 (by decide +kernel) rfl rfl ?_
        refine sm_callV (M2 := mm_B_valueEnd) (av := [.int x5]) (rest := []) 100 (by decide +kernel) ml_E_147 (Nat.le_refl _) rfl rfl (by first | exact Nat.le_of_ble_eq_true rfl | simp [sm_rfc, Value.category]) rfl hf ?_
        rintro r9 h8 ⟨z10, rfl, hf⟩
        change sm_W N (d + 1) mm_E_hasItem 100 [(0, .ref x0), (1, .ref x1), (2, .int x2), (4, .int x4), (5, .int x5), (6, .int x6)] [.int z10] h8 Q
        refine sm_istore (i := 5) 102 [(5, .int z10), (0, .ref x0), (1, .ref x1), (2, .int x2), (4, .int x4), (6, .int x6)] (by decide +kernel) (by decide) (by first | rfl | simp [sm_rfc]) rfl ?_
        refine sm_iinc (i := 6) (j := 5) (z := 1) (y := x6 + 1) 105 [(6, .int (x6 + 1)), (5, .int z10), (0, .ref x0), (1, .ref x1), (2, .int x2), (4, .int x4)] (by decide +kernel) rfl (by rfl) (by decide) rfl rfl ?_
        refine sm_goto (off := -50) 55 (by decide +kernel) (by decide) ?_
        exact sm_sub [2, 3, 4, 5, 1, 0] rfl hf
      · have hf := hf.2 q11
        refine sm_iconst (i := 1) (x := 1) 90 (by decide +kernel) rfl rfl ?_
        exact sm_zret rfl (by decide +kernel) (by decide) hf
theorem cE_hasItem {N d : Nat} {h : sm_H} {Q : Option Value → sm_H → Prop} {x0 : Nat} {x1 : Nat} {x2 : Int32} (hb : ∃ fs, h[x0]? = some (.inr (2, fs))) (hf : fE_hasItem_0 N d h Q x0 x1 x2) : sm_V N (d + 1) mm_E_hasItem 2 x0 [.ref x1, .int x2] h Q := ⟨hb, sm_meth (by decide +kernel) (fun _ => Nat.le_of_ble_eq_true rfl) (fun _ => rfl) (kE_hasItem_0 hf)⟩
def fE_pullItems_0 (N d : Nat) (h : sm_H) (Q : Option Value → sm_H → Prop) (x0 : Nat) (x1 : Nat) (x2 : Int32) : Prop := ∃ z1 : Nat, sm_g h x0 2 0 = some (.ref z1) ∧ ∃ z2 : Int32, sm_g h x0 2 7 = some (.int z2) ∧ sm_V N d mm_B_at 0 z1 [.int z2] h (fun r4 h3 => ∃ z5 : Int32, r4 = some (.int z5) ∧ ((z5 = 4 → ∃ z6 : Nat, sm_g h3 x0 2 0 = some (.ref z6) ∧ ∃ z7 : Int32, sm_g h3 x0 2 7 = some (.int z7) ∧ sm_V N d mm_B_valueStart 0 z6 [.int z7] h3 (fun r9 h8 => ∃ z10 : Int32, r9 = some (.int z10) ∧ sm_V N d mm_E_enter 2 x0 [.int z10, .int 4] h8 (fun r12 h11 => r12 = none ∧ ∃ z13 : Nat, sm_g h11 x0 2 0 = some (.ref z13) ∧ sm_V N d mm_E_holder 2 x0 [] h11 (fun r15 h14 => ∃ z16 : Int32, r15 = some (.int z16) ∧ sm_V N d mm_B_lastOf 0 z13 [.int z16] h14 (fun r18 h17 => ∃ z19 : Int32, r18 = some (.int z19) ∧ sm_V N d mm_E_holder 2 x0 [] h17 (fun r21 h20 => ∃ z22 : Int32, r21 = some (.int z22) ∧ sm_W N (d + 1) mm_E_pullItems 64 [(0, .ref x0), (1, .ref x1), (2, .int x2), (3, .int z19), (4, .int (z22 + 4)), (5, .int (z22 + 4)), (6, .int 0), (7, .int 0)] [] h20 Q)))))) ∧ (¬ z5 = 4 → Q (some (.int (-7))) h3)))
set_option maxRecDepth 20000 in
set_option maxHeartbeats 4000000 in
theorem kE_pullItems_0 {N d : Nat} {h : sm_H} {Q : Option Value → sm_H → Prop} {x0 : Nat} {x1 : Nat} {x2 : Int32} (hf : fE_pullItems_0 N d h Q x0 x1 x2) : sm_W N (d + 1) mm_E_pullItems 0 [(0, .ref x0), (1, .ref x1), (2, .int x2)] [] h Q := by
  unfold fE_pullItems_0 at hf
  refine sm_aload_n (k := 0) 1 0 (by decide +kernel) rfl rfl rfl ?_
  obtain ⟨z1, ez1, hf⟩ := hf
  refine sm_get 4 (by decide +kernel) fl_E_14 ez1 rfl ?_
  refine sm_aload_n (k := 0) 5 0 (by decide +kernel) rfl rfl rfl ?_
  obtain ⟨z2, ez2, hf⟩ := hf
  refine sm_get 8 (by decide +kernel) fl_E_40 ez2 rfl ?_
  refine sm_callV (M2 := mm_B_at) (av := [.int z2]) (rest := []) 11 (by decide +kernel) ml_E_127 (Nat.le_refl _) rfl rfl (by first | exact Nat.le_of_ble_eq_true rfl | simp [sm_rfc, Value.category]) rfl hf ?_
  rintro r4 h3 ⟨z5, rfl, hf⟩
  change sm_W N (d + 1) mm_E_pullItems 11 [(0, .ref x0), (1, .ref x1), (2, .int x2)] [.int z5] h3 Q
  refine sm_iconst (i := 4) (x := 4) 12 (by decide +kernel) rfl rfl ?_
  refine sm_icmp_eq (off := 6) 15 18 (by decide +kernel) (by decide) rfl (fun q23 => ?_) (fun q23 => ?_)
  · have hf := hf.1 q23
    refine sm_aload_n (k := 0) 19 0 (by decide +kernel) rfl rfl rfl ?_
    refine sm_aload_n (k := 0) 20 0 (by decide +kernel) rfl rfl rfl ?_
    obtain ⟨z6, ez6, hf⟩ := hf
    refine sm_get 23 (by decide +kernel) fl_E_14 ez6 rfl ?_
    refine sm_aload_n (k := 0) 24 0 (by decide +kernel) rfl rfl rfl ?_
    obtain ⟨z7, ez7, hf⟩ := hf
    refine sm_get 27 (by decide +kernel) fl_E_40 ez7 rfl ?_
    refine sm_callV (M2 := mm_B_valueStart) (av := [.int z7]) (rest := [.ref x0]) 30 (by decide +kernel) ml_E_134 (Nat.le_refl _) rfl rfl (by first | exact Nat.le_of_ble_eq_true rfl | simp [sm_rfc, Value.category]) rfl hf ?_
    rintro r9 h8 ⟨z10, rfl, hf⟩
    change sm_W N (d + 1) mm_E_pullItems 30 [(0, .ref x0), (1, .ref x1), (2, .int x2)] [.int z10, .ref x0] h8 Q
    refine sm_iconst (i := 4) (x := 4) 31 (by decide +kernel) rfl rfl ?_
    refine sm_callV (M2 := mm_E_enter) (av := [.int z10, .int 4]) (rest := []) 34 (by decide +kernel) ml_E_112 (Nat.le_refl _) rfl rfl (by first | exact Nat.le_of_ble_eq_true rfl | simp [sm_rfc, Value.category]) rfl hf ?_
    rintro r12 h11 ⟨rfl, hf⟩
    change sm_W N (d + 1) mm_E_pullItems 34 [(0, .ref x0), (1, .ref x1), (2, .int x2)] [] h11 Q
    refine sm_aload_n (k := 0) 35 0 (by decide +kernel) rfl rfl rfl ?_
    obtain ⟨z13, ez13, hf⟩ := hf
    refine sm_get 38 (by decide +kernel) fl_E_14 ez13 rfl ?_
    refine sm_aload_n (k := 0) 39 0 (by decide +kernel) rfl rfl rfl ?_
    refine sm_callV (M2 := mm_E_holder) (av := []) (rest := [.ref z13]) 42 (by decide +kernel) ml_E_137 (Nat.le_refl _) rfl rfl (by first | exact Nat.le_of_ble_eq_true rfl | simp [sm_rfc, Value.category]) rfl hf ?_
    rintro r15 h14 ⟨z16, rfl, hf⟩
    change sm_W N (d + 1) mm_E_pullItems 42 [(0, .ref x0), (1, .ref x1), (2, .int x2)] [.int z16, .ref z13] h14 Q
    refine sm_callV (M2 := mm_B_lastOf) (av := [.int z16]) (rest := []) 45 (by decide +kernel) ml_E_140 (Nat.le_refl _) rfl rfl (by first | exact Nat.le_of_ble_eq_true rfl | simp [sm_rfc, Value.category]) rfl hf ?_
    rintro r18 h17 ⟨z19, rfl, hf⟩
    change sm_W N (d + 1) mm_E_pullItems 45 [(0, .ref x0), (1, .ref x1), (2, .int x2)] [.int z19] h17 Q
    refine sm_istore_n (k := 3) 46 [(3, .int z19), (0, .ref x0), (1, .ref x1), (2, .int x2)] (by decide +kernel) rfl (by decide) (by first | rfl | simp [sm_rfc]) rfl ?_
    refine sm_aload_n (k := 0) 47 1 (by decide +kernel) rfl rfl rfl ?_
    refine sm_callV (M2 := mm_E_holder) (av := []) (rest := []) 50 (by decide +kernel) ml_E_137 (Nat.le_refl _) rfl rfl (by first | exact Nat.le_of_ble_eq_true rfl | simp [sm_rfc, Value.category]) rfl hf ?_
    rintro r21 h20 ⟨z22, rfl, hf⟩
    change sm_W N (d + 1) mm_E_pullItems 50 [(3, .int z19), (0, .ref x0), (1, .ref x1), (2, .int x2)] [.int z22] h20 Q
    refine sm_iconst (i := 4) (x := 4) 51 (by decide +kernel) rfl rfl ?_
    refine sm_iadd 52 (by decide +kernel) rfl ?_
    refine sm_istore (i := 4) 54 [(4, .int (z22 + 4)), (3, .int z19), (0, .ref x0), (1, .ref x1), (2, .int x2)] (by decide +kernel) (by decide) (by first | rfl | simp [sm_rfc]) rfl ?_
    refine sm_iload (i := 4) 56 0 (by decide +kernel) rfl rfl ?_
    refine sm_istore (i := 5) 58 [(5, .int (z22 + 4)), (4, .int (z22 + 4)), (3, .int z19), (0, .ref x0), (1, .ref x1), (2, .int x2)] (by decide +kernel) (by decide) (by first | rfl | simp [sm_rfc]) rfl ?_
    refine sm_iconst (i := 0) (x := 0) 59 (by decide +kernel) rfl rfl ?_
    refine sm_istore (i := 6) 61 [(6, .int 0), (5, .int (z22 + 4)), (4, .int (z22 + 4)), (3, .int z19), (0, .ref x0), (1, .ref x1), (2, .int x2)] (by decide +kernel) (by decide) (by first | rfl | simp [sm_rfc]) rfl ?_
    refine sm_iconst (i := 0) (x := 0) 62 (by decide +kernel) rfl rfl ?_
    refine sm_istore (i := 7) 64 [(7, .int 0), (6, .int 0), (5, .int (z22 + 4)), (4, .int (z22 + 4)), (3, .int z19), (0, .ref x0), (1, .ref x1), (2, .int x2)] (by decide +kernel) (by decide) (by first | rfl | simp [sm_rfc]) rfl ?_
    exact sm_sub [5, 6, 7, 4, 3, 2, 1, 0] rfl hf
  · have hf := hf.2 q23
    refine sm_bipush (i := -7) (x := (-7)) 17 (by decide +kernel) (by decide) rfl ?_
    exact sm_iret rfl (by decide +kernel) hf
def fE_pullItems_64 (N d : Nat) (h : sm_H) (Q : Option Value → sm_H → Prop) (x0 : Nat) (x1 : Nat) (x2 : Int32) (x3 : Int32) (x4 : Int32) (x5 : Int32) (x6 : Int32) (x7 : Int32) : Prop := ∃ z1 : Nat, sm_g h x0 2 0 = some (.ref z1) ∧ ∃ z2 : Int32, sm_g h z1 0 1 = some (.int z2) ∧ ((z2 ≤ x7 → sm_W N (d + 1) mm_E_pullItems 135 [(0, .ref x0), (3, .int x3), (5, .int x5)] [] h Q) ∧ (¬ z2 ≤ x7 → ((x3 ≤ x4 → sm_W N (d + 1) mm_E_pullItems 135 [(0, .ref x0), (3, .int x3), (5, .int x5)] [] h Q) ∧ (¬ x3 ≤ x4 → ∃ z3 : Nat, sm_g h x0 2 0 = some (.ref z3) ∧ sm_V N d mm_B_valueEnd 0 z3 [.int x4] h (fun r5 h4 => ∃ z6 : Int32, r5 = some (.int z6) ∧ ∃ z7 : Nat, sm_g h4 x0 2 0 = some (.ref z7) ∧ sm_T N d mm_D_sameValues [.ref z7, .int x4, .ref x1, .int x2, .int 0] h4 (fun r9 h8 => ∃ z10 : Int32, r9 = some (.int z10) ∧ ((z10 = 0 → sm_V N d mm_E_moveItem 2 x0 [.int x4, .int z6, .int x5, .int x6] h8 (fun r12 h11 => ∃ z13 : Int32, r12 = some (.int z13) ∧ sm_W N (d + 1) mm_E_pullItems 125 [(0, .ref x0), (1, .ref x1), (2, .int x2), (3, .int x3), (5, .int z13), (6, .int (x6 + 1)), (7, .int x7), (8, .int z6)] [] h11 Q)) ∧ (¬ z10 = 0 → sm_W N (d + 1) mm_E_pullItems 125 [(0, .ref x0), (1, .ref x1), (2, .int x2), (3, .int x3), (5, .int x5), (6, .int x6), (7, .int x7), (8, .int z6)] [] h8 Q))))))))
set_option maxRecDepth 20000 in
set_option maxHeartbeats 4000000 in
theorem kE_pullItems_64 {N d : Nat} {h : sm_H} {Q : Option Value → sm_H → Prop} {x0 : Nat} {x1 : Nat} {x2 : Int32} {x3 : Int32} {x4 : Int32} {x5 : Int32} {x6 : Int32} {x7 : Int32} (hf : fE_pullItems_64 N d h Q x0 x1 x2 x3 x4 x5 x6 x7) : sm_W N (d + 1) mm_E_pullItems 64 [(0, .ref x0), (1, .ref x1), (2, .int x2), (3, .int x3), (4, .int x4), (5, .int x5), (6, .int x6), (7, .int x7)] [] h Q := by
  unfold fE_pullItems_64 at hf
  refine sm_iload (i := 7) 66 7 (by decide +kernel) rfl rfl ?_
  refine sm_aload_n (k := 0) 67 0 (by decide +kernel) rfl rfl rfl ?_
  obtain ⟨z1, ez1, hf⟩ := hf
  refine sm_get 70 (by decide +kernel) fl_E_14 ez1 rfl ?_
  obtain ⟨z2, ez2, hf⟩ := hf
  refine sm_get 73 (by decide +kernel) fl_E_78 ez2 rfl ?_
  refine sm_icmp_ge (off := 62) 76 135 (by decide +kernel) (by decide) rfl (fun q16 => ?_) (fun q16 => ?_)
  · have hf := hf.1 q16
    exact sm_sub [0, 3, 5] rfl hf
  · have hf := hf.2 q16
    refine sm_iload (i := 4) 78 4 (by decide +kernel) rfl rfl ?_
    refine sm_iload_n (k := 3) 79 3 (by decide +kernel) rfl rfl rfl ?_
    refine sm_icmp_ge (off := 56) 82 135 (by decide +kernel) (by decide) rfl (fun q15 => ?_) (fun q15 => ?_)
    · have hf := hf.1 q15
      exact sm_sub [0, 3, 5] rfl hf
    · have hf := hf.2 q15
      refine sm_aload_n (k := 0) 83 0 (by decide +kernel) rfl rfl rfl ?_
      obtain ⟨z3, ez3, hf⟩ := hf
      refine sm_get 86 (by decide +kernel) fl_E_14 ez3 rfl ?_
      refine sm_iload (i := 4) 88 4 (by decide +kernel) rfl rfl ?_
      refine sm_callV (M2 := mm_B_valueEnd) (av := [.int x4]) (rest := []) 91 (by decide +kernel) ml_E_147 (Nat.le_refl _) rfl rfl (by first | exact Nat.le_of_ble_eq_true rfl | simp [sm_rfc, Value.category]) rfl hf ?_
      rintro r5 h4 ⟨z6, rfl, hf⟩
      change sm_W N (d + 1) mm_E_pullItems 91 [(0, .ref x0), (1, .ref x1), (2, .int x2), (3, .int x3), (4, .int x4), (5, .int x5), (6, .int x6), (7, .int x7)] [.int z6] h4 Q
      refine sm_istore (i := 8) 93 [(8, .int z6), (0, .ref x0), (1, .ref x1), (2, .int x2), (3, .int x3), (4, .int x4), (5, .int x5), (6, .int x6), (7, .int x7)] (by decide +kernel) (by decide) (by first | rfl | simp [sm_rfc]) rfl ?_
      refine sm_aload_n (k := 0) 94 1 (by decide +kernel) rfl rfl rfl ?_
      obtain ⟨z7, ez7, hf⟩ := hf
      refine sm_get 97 (by decide +kernel) fl_E_14 ez7 rfl ?_
      refine sm_iload (i := 4) 99 5 (by decide +kernel) rfl rfl ?_
      refine sm_aload_n (k := 1) 100 2 (by decide +kernel) rfl rfl rfl ?_
      refine sm_iload_n (k := 2) 101 3 (by decide +kernel) rfl rfl rfl ?_
      refine sm_iconst (i := 0) (x := 0) 102 (by decide +kernel) rfl rfl ?_
      refine sm_callN (M2 := mm_D_sameValues) (av := [.ref z7, .int x4, .ref x1, .int x2, .int 0]) (rest := []) 105 (by decide +kernel) ml_E_175 (Nat.le_refl _) rfl rfl (by first | exact Nat.le_of_ble_eq_true rfl | simp [sm_rfc, Value.category]) rfl hf ?_
      rintro r9 h8 ⟨z10, rfl, hf⟩
      change sm_W N (d + 1) mm_E_pullItems 105 [(8, .int z6), (0, .ref x0), (1, .ref x1), (2, .int x2), (3, .int x3), (4, .int x4), (5, .int x5), (6, .int x6), (7, .int x7)] [.int z10] h8 Q
      refine sm_if_ne (off := 20) 108 125 (by decide +kernel) (by decide) rfl (fun q14 => ?_) (fun q14 => ?_)
      · have hf := hf.2 q14
        exact sm_sub [1, 2, 3, 4, 6, 7, 8, 0] rfl hf
      · have hf := hf.1 q14
        refine sm_aload_n (k := 0) 109 1 (by decide +kernel) rfl rfl rfl ?_
        refine sm_iload (i := 4) 111 5 (by decide +kernel) rfl rfl ?_
        refine sm_iload (i := 8) 113 0 (by decide +kernel) rfl rfl ?_
        refine sm_iload (i := 5) 115 6 (by decide +kernel) rfl rfl ?_
        refine sm_iload (i := 6) 117 7 (by decide +kernel) rfl rfl ?_
        refine sm_callV (M2 := mm_E_moveItem) (av := [.int x4, .int z6, .int x5, .int x6]) (rest := []) 120 (by decide +kernel) ml_E_179 (Nat.le_refl _) rfl rfl (by first | exact Nat.le_of_ble_eq_true rfl | simp [sm_rfc, Value.category]) rfl hf ?_
        rintro r12 h11 ⟨z13, rfl, hf⟩
        change sm_W N (d + 1) mm_E_pullItems 120 [(8, .int z6), (0, .ref x0), (1, .ref x1), (2, .int x2), (3, .int x3), (4, .int x4), (5, .int x5), (6, .int x6), (7, .int x7)] [.int z13] h11 Q
        refine sm_istore (i := 5) 122 [(5, .int z13), (8, .int z6), (0, .ref x0), (1, .ref x1), (2, .int x2), (3, .int x3), (4, .int x4), (6, .int x6), (7, .int x7)] (by decide +kernel) (by decide) (by first | rfl | simp [sm_rfc]) rfl ?_
        refine sm_iinc (i := 6) (j := 7) (z := 1) (y := x6 + 1) 125 [(6, .int (x6 + 1)), (5, .int z13), (8, .int z6), (0, .ref x0), (1, .ref x1), (2, .int x2), (3, .int x3), (4, .int x4), (7, .int x7)] (by decide +kernel) rfl (by rfl) (by decide) rfl rfl ?_
        exact sm_sub [3, 4, 5, 6, 1, 0, 8, 2] rfl hf
def fE_pullItems_125 (N d : Nat) (h : sm_H) (Q : Option Value → sm_H → Prop) (x0 : Nat) (x1 : Nat) (x2 : Int32) (x3 : Int32) (x5 : Int32) (x6 : Int32) (x7 : Int32) (x8 : Int32) : Prop := sm_W N (d + 1) mm_E_pullItems 64 [(0, .ref x0), (1, .ref x1), (2, .int x2), (3, .int x3), (4, .int x8), (5, .int x5), (6, .int x6), (7, .int (x7 + 1))] [] h Q
set_option maxRecDepth 20000 in
set_option maxHeartbeats 4000000 in
theorem kE_pullItems_125 {N d : Nat} {h : sm_H} {Q : Option Value → sm_H → Prop} {x0 : Nat} {x1 : Nat} {x2 : Int32} {x3 : Int32} {x5 : Int32} {x6 : Int32} {x7 : Int32} {x8 : Int32} (hf : fE_pullItems_125 N d h Q x0 x1 x2 x3 x5 x6 x7 x8) : sm_W N (d + 1) mm_E_pullItems 125 [(0, .ref x0), (1, .ref x1), (2, .int x2), (3, .int x3), (5, .int x5), (6, .int x6), (7, .int x7), (8, .int x8)] [] h Q := by
  unfold fE_pullItems_125 at hf
  refine sm_iload (i := 8) 127 7 (by decide +kernel) rfl rfl ?_
  refine sm_istore (i := 4) 129 [(4, .int x8), (0, .ref x0), (1, .ref x1), (2, .int x2), (3, .int x3), (5, .int x5), (6, .int x6), (7, .int x7), (8, .int x8)] (by decide +kernel) (by decide) (by first | rfl | simp [sm_rfc]) rfl ?_
  refine sm_iinc (i := 7) (j := 7) (z := 1) (y := x7 + 1) 132 [(7, .int (x7 + 1)), (4, .int x8), (0, .ref x0), (1, .ref x1), (2, .int x2), (3, .int x3), (5, .int x5), (6, .int x6), (8, .int x8)] (by decide +kernel) rfl (by rfl) (by decide) rfl rfl ?_
  refine sm_goto (off := -68) 64 (by decide +kernel) (by decide) ?_
  exact sm_sub [2, 3, 4, 5, 1, 6, 7, 0] rfl hf
def fE_pullItems_135 (N d : Nat) (h : sm_H) (Q : Option Value → sm_H → Prop) (x0 : Nat) (x3 : Int32) (x5 : Int32) : Prop := sm_V N d mm_E_resize 2 x0 [.int x5, .int (x3 - x5), .int 0] h (fun r2 h1 => ∃ z3 : Int32, r2 = some (.int z3) ∧ ((x3 ≤ x5 → Q (some (.int 0)) h1) ∧ (¬ x3 ≤ x5 → Q (some (.int 1)) h1)))
set_option maxRecDepth 20000 in
set_option maxHeartbeats 4000000 in
theorem kE_pullItems_135 {N d : Nat} {h : sm_H} {Q : Option Value → sm_H → Prop} {x0 : Nat} {x3 : Int32} {x5 : Int32} (hf : fE_pullItems_135 N d h Q x0 x3 x5) : sm_W N (d + 1) mm_E_pullItems 135 [(0, .ref x0), (3, .int x3), (5, .int x5)] [] h Q := by
  unfold fE_pullItems_135 at hf
  refine sm_aload_n (k := 0) 136 0 (by decide +kernel) rfl rfl rfl ?_
  refine sm_iload (i := 5) 138 2 (by decide +kernel) rfl rfl ?_
  refine sm_iload_n (k := 3) 139 1 (by decide +kernel) rfl rfl rfl ?_
  refine sm_iload (i := 5) 141 2 (by decide +kernel) rfl rfl ?_
  refine sm_isub 142 (by decide +kernel) rfl ?_
  refine sm_iconst (i := 0) (x := 0) 143 (by decide +kernel) rfl rfl ?_
  refine sm_callV (M2 := mm_E_resize) (av := [.int x5, .int (x3 - x5), .int 0]) (rest := []) 146 (by decide +kernel) ml_E_157 (Nat.le_refl _) rfl rfl (by first | exact Nat.le_of_ble_eq_true rfl | simp [sm_rfc, Value.category]) rfl hf ?_
  rintro r2 h1 ⟨z3, rfl, hf⟩
  change sm_W N (d + 1) mm_E_pullItems 146 [(0, .ref x0), (3, .int x3), (5, .int x5)] [.int z3] h1 Q
  refine sm_pop 147 (by decide +kernel) (by first | rfl | simp [sm_rfc]) rfl ?_
  refine sm_iload (i := 5) 149 2 (by decide +kernel) rfl rfl ?_
  refine sm_iload_n (k := 3) 150 1 (by decide +kernel) rfl rfl rfl ?_
  refine sm_icmp_ge (off := 7) 153 157 (by decide +kernel) (by decide) rfl (fun q4 => ?_) (fun q4 => ?_)
  · have hf := hf.1 q4
    refine sm_iconst (i := 0) (x := 0) 158 (by decide +kernel) rfl rfl ?_
    exact sm_iret rfl (by decide +kernel) hf
  · have hf := hf.2 q4
    refine sm_iconst (i := 1) (x := 1) 154 (by decide +kernel) rfl rfl ?_
    refine sm_goto (off := 4) 158 (by decide +kernel) (by decide) ?_
    exact sm_iret rfl (by decide +kernel) hf
theorem cE_pullItems {N d : Nat} {h : sm_H} {Q : Option Value → sm_H → Prop} {x0 : Nat} {x1 : Nat} {x2 : Int32} (hb : ∃ fs, h[x0]? = some (.inr (2, fs))) (hf : fE_pullItems_0 N d h Q x0 x1 x2) : sm_V N (d + 1) mm_E_pullItems 2 x0 [.ref x1, .int x2] h Q := ⟨hb, sm_meth (by decide +kernel) (fun _ => Nat.le_of_ble_eq_true rfl) (fun _ => rfl) (kE_pullItems_0 hf)⟩
def fE_moveItem_0 (N d : Nat) (h : sm_H) (Q : Option Value → sm_H → Prop) (x0 : Nat) (x1 : Int32) (x2 : Int32) (x3 : Int32) (x4 : Int32) : Prop := ∃ z1 : Nat, sm_g h x0 2 0 = some (.ref z1) ∧ sm_V N d mm_B_valueStart 0 z1 [.int x1] h (fun r3 h2 => ∃ z4 : Int32, r3 = some (.int z4) ∧ ∃ z5 : Nat, sm_g h2 x0 2 0 = some (.ref z5) ∧ sm_V N d mm_B_at 0 z5 [.int x1] h2 (fun r7 h6 => ∃ z8 : Int32, r7 = some (.int z8) ∧ ∃ z9 : Nat, sm_g h6 x0 2 3 = some (.ref z9) ∧ sm_V N d mm_B_becomeDigits 0 z9 [.int x4] h6 (fun r11 h10 => r11 = none ∧ ∃ z12 : Nat, sm_g h10 x0 2 3 = some (.ref z12) ∧ ∃ z13 : Int32, sm_g h10 z12 0 1 = some (.int z13) ∧ ∃ z14 : Nat, sm_g h10 x0 2 0 = some (.ref z14) ∧ sm_V N d mm_B_put 0 z14 [.int x3, .int z8] h10 (fun r16 h15 => r16 = none ∧ ∃ z17 : Nat, sm_g h15 x0 2 0 = some (.ref z17) ∧ ∃ z18 : Nat, sm_g h15 x0 2 3 = some (.ref z18) ∧ ∃ z19 : Nat, sm_g h15 x0 2 3 = some (.ref z19) ∧ ∃ z20 : Int32, sm_g h15 z19 0 1 = some (.int z20) ∧ sm_V N d mm_B_write 0 z17 [.int (x3 + 1), .ref z18, .int 0, .int z20] h15 (fun r22 h21 => r22 = none ∧ ∃ z23 : Nat, sm_g h21 x0 2 0 = some (.ref z23) ∧ sm_V N d mm_B_put 0 z23 [.int (((x3 + 2) + z13) - 1), .int 0] h21 (fun r25 h24 => r25 = none ∧ ∃ z26 : Nat, sm_g h24 x0 2 0 = some (.ref z26) ∧ ∃ z27 : Nat, sm_g h24 x0 2 0 = some (.ref z27) ∧ sm_V N d mm_B_write 0 z26 [.int ((x3 + 2) + z13), .ref z27, .int z4, .int x2] h24 (fun r29 h28 => r29 = none ∧ Q (some (.int ((((x3 + 2) + z13) + x2) - z4))) h28)))))))
set_option maxRecDepth 20000 in
set_option maxHeartbeats 4000000 in
theorem kE_moveItem_0 {N d : Nat} {h : sm_H} {Q : Option Value → sm_H → Prop} {x0 : Nat} {x1 : Int32} {x2 : Int32} {x3 : Int32} {x4 : Int32} (hf : fE_moveItem_0 N d h Q x0 x1 x2 x3 x4) : sm_W N (d + 1) mm_E_moveItem 0 [(0, .ref x0), (1, .int x1), (2, .int x2), (3, .int x3), (4, .int x4)] [] h Q := by
  unfold fE_moveItem_0 at hf
  refine sm_aload_n (k := 0) 1 0 (by decide +kernel) rfl rfl rfl ?_
  obtain ⟨z1, ez1, hf⟩ := hf
  refine sm_get 4 (by decide +kernel) fl_E_14 ez1 rfl ?_
  refine sm_iload_n (k := 1) 5 1 (by decide +kernel) rfl rfl rfl ?_
  refine sm_callV (M2 := mm_B_valueStart) (av := [.int x1]) (rest := []) 8 (by decide +kernel) ml_E_134 (Nat.le_refl _) rfl rfl (by first | exact Nat.le_of_ble_eq_true rfl | simp [sm_rfc, Value.category]) rfl hf ?_
  rintro r3 h2 ⟨z4, rfl, hf⟩
  change sm_W N (d + 1) mm_E_moveItem 8 [(0, .ref x0), (1, .int x1), (2, .int x2), (3, .int x3), (4, .int x4)] [.int z4] h2 Q
  refine sm_istore (i := 5) 10 [(5, .int z4), (0, .ref x0), (1, .int x1), (2, .int x2), (3, .int x3), (4, .int x4)] (by decide +kernel) (by decide) (by first | rfl | simp [sm_rfc]) rfl ?_
  refine sm_aload_n (k := 0) 11 1 (by decide +kernel) rfl rfl rfl ?_
  obtain ⟨z5, ez5, hf⟩ := hf
  refine sm_get 14 (by decide +kernel) fl_E_14 ez5 rfl ?_
  refine sm_iload_n (k := 1) 15 2 (by decide +kernel) rfl rfl rfl ?_
  refine sm_callV (M2 := mm_B_at) (av := [.int x1]) (rest := []) 18 (by decide +kernel) ml_E_127 (Nat.le_refl _) rfl rfl (by first | exact Nat.le_of_ble_eq_true rfl | simp [sm_rfc, Value.category]) rfl hf ?_
  rintro r7 h6 ⟨z8, rfl, hf⟩
  change sm_W N (d + 1) mm_E_moveItem 18 [(5, .int z4), (0, .ref x0), (1, .int x1), (2, .int x2), (3, .int x3), (4, .int x4)] [.int z8] h6 Q
  refine sm_istore (i := 6) 20 [(6, .int z8), (5, .int z4), (0, .ref x0), (1, .int x1), (2, .int x2), (3, .int x3), (4, .int x4)] (by decide +kernel) (by decide) (by first | rfl | simp [sm_rfc]) rfl ?_
  refine sm_aload_n (k := 0) 21 2 (by decide +kernel) rfl rfl rfl ?_
  obtain ⟨z9, ez9, hf⟩ := hf
  refine sm_get 24 (by decide +kernel) fl_E_27 ez9 rfl ?_
  refine sm_iload (i := 4) 26 6 (by decide +kernel) rfl rfl ?_
  refine sm_callV (M2 := mm_B_becomeDigits) (av := [.int x4]) (rest := []) 29 (by decide +kernel) ml_E_150 (Nat.le_refl _) rfl rfl (by first | exact Nat.le_of_ble_eq_true rfl | simp [sm_rfc, Value.category]) rfl hf ?_
  rintro r11 h10 ⟨rfl, hf⟩
  change sm_W N (d + 1) mm_E_moveItem 29 [(6, .int z8), (5, .int z4), (0, .ref x0), (1, .int x1), (2, .int x2), (3, .int x3), (4, .int x4)] [] h10 Q
  refine sm_iload_n (k := 3) 30 5 (by decide +kernel) rfl rfl rfl ?_
  refine sm_iconst (i := 2) (x := 2) 31 (by decide +kernel) rfl rfl ?_
  refine sm_iadd 32 (by decide +kernel) rfl ?_
  refine sm_aload_n (k := 0) 33 2 (by decide +kernel) rfl rfl rfl ?_
  obtain ⟨z12, ez12, hf⟩ := hf
  refine sm_get 36 (by decide +kernel) fl_E_27 ez12 rfl ?_
  obtain ⟨z13, ez13, hf⟩ := hf
  refine sm_get 39 (by decide +kernel) fl_E_78 ez13 rfl ?_
  refine sm_iadd 40 (by decide +kernel) rfl ?_
  refine sm_istore (i := 7) 42 [(7, .int ((x3 + 2) + z13)), (6, .int z8), (5, .int z4), (0, .ref x0), (1, .int x1), (2, .int x2), (3, .int x3), (4, .int x4)] (by decide +kernel) (by decide) (by first | rfl | simp [sm_rfc]) rfl ?_
  refine sm_aload_n (k := 0) 43 3 (by decide +kernel) rfl rfl rfl ?_
  obtain ⟨z14, ez14, hf⟩ := hf
  refine sm_get 46 (by decide +kernel) fl_E_14 ez14 rfl ?_
  refine sm_iload_n (k := 3) 47 6 (by decide +kernel) rfl rfl rfl ?_
  refine sm_iload (i := 6) 49 1 (by decide +kernel) rfl rfl ?_
  refine sm_callV (M2 := mm_B_put) (av := [.int x3, .int z8]) (rest := []) 52 (by decide +kernel) ml_E_183 (Nat.le_refl _) rfl rfl (by first | exact Nat.le_of_ble_eq_true rfl | simp [sm_rfc, Value.category]) rfl hf ?_
  rintro r16 h15 ⟨rfl, hf⟩
  change sm_W N (d + 1) mm_E_moveItem 52 [(7, .int ((x3 + 2) + z13)), (6, .int z8), (5, .int z4), (0, .ref x0), (1, .int x1), (2, .int x2), (3, .int x3), (4, .int x4)] [] h15 Q
  refine sm_aload_n (k := 0) 53 3 (by decide +kernel) rfl rfl rfl ?_
  obtain ⟨z17, ez17, hf⟩ := hf
  refine sm_get 56 (by decide +kernel) fl_E_14 ez17 rfl ?_
  refine sm_iload_n (k := 3) 57 6 (by decide +kernel) rfl rfl rfl ?_
  refine sm_iconst (i := 1) (x := 1) 58 (by decide +kernel) rfl rfl ?_
  refine sm_iadd 59 (by decide +kernel) rfl ?_
  refine sm_aload_n (k := 0) 60 3 (by decide +kernel) rfl rfl rfl ?_
  obtain ⟨z18, ez18, hf⟩ := hf
  refine sm_get 63 (by decide +kernel) fl_E_27 ez18 rfl ?_
  refine sm_iconst (i := 0) (x := 0) 64 (by decide +kernel) rfl rfl ?_
  refine sm_aload_n (k := 0) 65 3 (by decide +kernel) rfl rfl rfl ?_
  obtain ⟨z19, ez19, hf⟩ := hf
  refine sm_get 68 (by decide +kernel) fl_E_27 ez19 rfl ?_
  obtain ⟨z20, ez20, hf⟩ := hf
  refine sm_get 71 (by decide +kernel) fl_E_78 ez20 rfl ?_
  refine sm_callV (M2 := mm_B_write) (av := [.int (x3 + 1), .ref z18, .int 0, .int z20]) (rest := []) 74 (by decide +kernel) ml_E_186 (Nat.le_refl _) rfl rfl (by first | exact Nat.le_of_ble_eq_true rfl | simp [sm_rfc, Value.category]) rfl hf ?_
  rintro r22 h21 ⟨rfl, hf⟩
  change sm_W N (d + 1) mm_E_moveItem 74 [(7, .int ((x3 + 2) + z13)), (6, .int z8), (5, .int z4), (0, .ref x0), (1, .int x1), (2, .int x2), (3, .int x3), (4, .int x4)] [] h21 Q
  refine sm_aload_n (k := 0) 75 3 (by decide +kernel) rfl rfl rfl ?_
  obtain ⟨z23, ez23, hf⟩ := hf
  refine sm_get 78 (by decide +kernel) fl_E_14 ez23 rfl ?_
  refine sm_iload (i := 7) 80 0 (by decide +kernel) rfl rfl ?_
  refine sm_iconst (i := 1) (x := 1) 81 (by decide +kernel) rfl rfl ?_
  refine sm_isub 82 (by decide +kernel) rfl ?_
  refine sm_iconst (i := 0) (x := 0) 83 (by decide +kernel) rfl rfl ?_
  refine sm_callV (M2 := mm_B_put) (av := [.int (((x3 + 2) + z13) - 1), .int 0]) (rest := []) 86 (by decide +kernel) ml_E_183 (Nat.le_refl _) rfl rfl (by first | exact Nat.le_of_ble_eq_true rfl | simp [sm_rfc, Value.category]) rfl hf ?_
  rintro r25 h24 ⟨rfl, hf⟩
  change sm_W N (d + 1) mm_E_moveItem 86 [(7, .int ((x3 + 2) + z13)), (6, .int z8), (5, .int z4), (0, .ref x0), (1, .int x1), (2, .int x2), (3, .int x3), (4, .int x4)] [] h24 Q
  refine sm_aload_n (k := 0) 87 3 (by decide +kernel) rfl rfl rfl ?_
  obtain ⟨z26, ez26, hf⟩ := hf
  refine sm_get 90 (by decide +kernel) fl_E_14 ez26 rfl ?_
  refine sm_iload (i := 7) 92 0 (by decide +kernel) rfl rfl ?_
  refine sm_aload_n (k := 0) 93 3 (by decide +kernel) rfl rfl rfl ?_
  obtain ⟨z27, ez27, hf⟩ := hf
  refine sm_get 96 (by decide +kernel) fl_E_14 ez27 rfl ?_
  refine sm_iload (i := 5) 98 2 (by decide +kernel) rfl rfl ?_
  refine sm_iload_n (k := 2) 99 5 (by decide +kernel) rfl rfl rfl ?_
  refine sm_callV (M2 := mm_B_write) (av := [.int ((x3 + 2) + z13), .ref z27, .int z4, .int x2]) (rest := []) 102 (by decide +kernel) ml_E_186 (Nat.le_refl _) rfl rfl (by first | exact Nat.le_of_ble_eq_true rfl | simp [sm_rfc, Value.category]) rfl hf ?_
  rintro r29 h28 ⟨rfl, hf⟩
  change sm_W N (d + 1) mm_E_moveItem 102 [(7, .int ((x3 + 2) + z13)), (6, .int z8), (5, .int z4), (0, .ref x0), (1, .int x1), (2, .int x2), (3, .int x3), (4, .int x4)] [] h28 Q
  refine sm_iload (i := 7) 104 0 (by decide +kernel) rfl rfl ?_
  refine sm_iload_n (k := 2) 105 5 (by decide +kernel) rfl rfl rfl ?_
  refine sm_iadd 106 (by decide +kernel) rfl ?_
  refine sm_iload (i := 5) 108 2 (by decide +kernel) rfl rfl ?_
  refine sm_isub 109 (by decide +kernel) rfl ?_
  exact sm_iret rfl (by decide +kernel) hf
theorem cE_moveItem {N d : Nat} {h : sm_H} {Q : Option Value → sm_H → Prop} {x0 : Nat} {x1 : Int32} {x2 : Int32} {x3 : Int32} {x4 : Int32} (hb : ∃ fs, h[x0]? = some (.inr (2, fs))) (hf : fE_moveItem_0 N d h Q x0 x1 x2 x3 x4) : sm_V N (d + 1) mm_E_moveItem 2 x0 [.int x1, .int x2, .int x3, .int x4] h Q := ⟨hb, sm_meth (by decide +kernel) (fun _ => Nat.le_of_ble_eq_true rfl) (fun _ => rfl) (kE_moveItem_0 hf)⟩
def fE_addElement_0 (N d : Nat) (h : sm_H) (Q : Option Value → sm_H → Prop) (x0 : Nat) (x1 : Int32) (x2 : Nat) (x3 : Nat) (x4 : Int32) (x5 : Int32) : Prop := ∃ z1 : Int32, sm_g h x0 2 9 = some (.int z1) ∧ ∃ z2 : Int32, sm_g h x0 2 8 = some (.int z2) ∧ ∃ z3 : Nat, sm_g h x0 2 0 = some (.ref z3) ∧ sm_V N d mm_E_holder 2 x0 [] h (fun r5 h4 => ∃ z6 : Int32, r5 = some (.int z6) ∧ sm_V N d mm_B_lastOf 0 z3 [.int z6] h4 (fun r8 h7 => ∃ z9 : Int32, r8 = some (.int z9) ∧ ∃ h10, sm_p h7 x0 2 7 (.int z9) = some h10 ∧ ∃ z11 : Int32, sm_g h10 x0 2 7 = some (.int z11) ∧ sm_V N d mm_E_resize 2 x0 [.int z11, .int 0, .int (((2 + (z1 - z2)) + x5) - x4)] h10 (fun r13 h12 => ∃ z14 : Int32, r13 = some (.int z14) ∧ ((z14 = 0 → Q none h12) ∧ (¬ z14 = 0 → ∃ z15 : Nat, sm_g h12 x0 2 0 = some (.ref z15) ∧ ∃ z16 : Int32, sm_g h12 x0 2 7 = some (.int z16) ∧ sm_V N d mm_B_put 0 z15 [.int z16, .int x1] h12 (fun r18 h17 => r18 = none ∧ ∃ z19 : Nat, sm_g h17 x0 2 0 = some (.ref z19) ∧ ∃ z20 : Int32, sm_g h17 x0 2 7 = some (.int z20) ∧ ∃ z21 : Int32, sm_g h17 x0 2 8 = some (.int z21) ∧ ∃ z22 : Int32, sm_g h17 x0 2 9 = some (.int z22) ∧ sm_V N d mm_B_write 0 z19 [.int (z20 + 1), .ref x2, .int z21, .int z22] h17 (fun r24 h23 => r24 = none ∧ ∃ z25 : Nat, sm_g h23 x0 2 0 = some (.ref z25) ∧ ∃ z26 : Int32, sm_g h23 x0 2 7 = some (.int z26) ∧ sm_V N d mm_B_put 0 z25 [.int ((z26 + 1) + (z1 - z2)), .int 0] h23 (fun r28 h27 => r28 = none ∧ ∃ z29 : Nat, sm_g h27 x0 2 0 = some (.ref z29) ∧ ∃ z30 : Int32, sm_g h27 x0 2 7 = some (.int z30) ∧ sm_V N d mm_B_write 0 z29 [.int ((z30 + 2) + (z1 - z2)), .ref x3, .int x4, .int x5] h27 (fun r32 h31 => r32 = none ∧ Q none h31)))))))))
set_option maxRecDepth 20000 in
set_option maxHeartbeats 4000000 in
theorem kE_addElement_0 {N d : Nat} {h : sm_H} {Q : Option Value → sm_H → Prop} {x0 : Nat} {x1 : Int32} {x2 : Nat} {x3 : Nat} {x4 : Int32} {x5 : Int32} (hf : fE_addElement_0 N d h Q x0 x1 x2 x3 x4 x5) : sm_W N (d + 1) mm_E_addElement 0 [(0, .ref x0), (1, .int x1), (2, .ref x2), (3, .ref x3), (4, .int x4), (5, .int x5)] [] h Q := by
  unfold fE_addElement_0 at hf
  refine sm_aload_n (k := 0) 1 0 (by decide +kernel) rfl rfl rfl ?_
  obtain ⟨z1, ez1, hf⟩ := hf
  refine sm_get 4 (by decide +kernel) fl_E_46 ez1 rfl ?_
  refine sm_aload_n (k := 0) 5 0 (by decide +kernel) rfl rfl rfl ?_
  obtain ⟨z2, ez2, hf⟩ := hf
  refine sm_get 8 (by decide +kernel) fl_E_43 ez2 rfl ?_
  refine sm_isub 9 (by decide +kernel) rfl ?_
  refine sm_istore (i := 6) 11 [(6, .int (z1 - z2)), (0, .ref x0), (1, .int x1), (2, .ref x2), (3, .ref x3), (4, .int x4), (5, .int x5)] (by decide +kernel) (by decide) (by first | rfl | simp [sm_rfc]) rfl ?_
  refine sm_aload_n (k := 0) 12 1 (by decide +kernel) rfl rfl rfl ?_
  refine sm_aload_n (k := 0) 13 1 (by decide +kernel) rfl rfl rfl ?_
  obtain ⟨z3, ez3, hf⟩ := hf
  refine sm_get 16 (by decide +kernel) fl_E_14 ez3 rfl ?_
  refine sm_aload_n (k := 0) 17 1 (by decide +kernel) rfl rfl rfl ?_
  refine sm_callV (M2 := mm_E_holder) (av := []) (rest := [.ref z3, .ref x0]) 20 (by decide +kernel) ml_E_137 (Nat.le_refl _) rfl rfl (by first | exact Nat.le_of_ble_eq_true rfl | simp [sm_rfc, Value.category]) rfl hf ?_
  rintro r5 h4 ⟨z6, rfl, hf⟩
  change sm_W N (d + 1) mm_E_addElement 20 [(6, .int (z1 - z2)), (0, .ref x0), (1, .int x1), (2, .ref x2), (3, .ref x3), (4, .int x4), (5, .int x5)] [.int z6, .ref z3, .ref x0] h4 Q
  refine sm_callV (M2 := mm_B_lastOf) (av := [.int z6]) (rest := [.ref x0]) 23 (by decide +kernel) ml_E_140 (Nat.le_refl _) rfl rfl (by first | exact Nat.le_of_ble_eq_true rfl | simp [sm_rfc, Value.category]) rfl hf ?_
  rintro r8 h7 ⟨z9, rfl, hf⟩
  change sm_W N (d + 1) mm_E_addElement 23 [(6, .int (z1 - z2)), (0, .ref x0), (1, .int x1), (2, .ref x2), (3, .ref x3), (4, .int x4), (5, .int x5)] [.int z9, .ref x0] h7 Q
  obtain ⟨h10, eh10, hf⟩ := hf
  refine sm_put (ty := .int) 26 (by decide +kernel) fp_E_40 (fun _ => rfl) rfl rfl eh10 rfl ?_
  refine sm_aload_n (k := 0) 27 1 (by decide +kernel) rfl rfl rfl ?_
  refine sm_aload_n (k := 0) 28 1 (by decide +kernel) rfl rfl rfl ?_
  obtain ⟨z11, ez11, hf⟩ := hf
  refine sm_get 31 (by decide +kernel) fl_E_40 ez11 rfl ?_
  refine sm_iconst (i := 0) (x := 0) 32 (by decide +kernel) rfl rfl ?_
  refine sm_iconst (i := 2) (x := 2) 33 (by decide +kernel) rfl rfl ?_
  refine sm_iload (i := 6) 35 0 (by decide +kernel) rfl rfl ?_
  refine sm_iadd 36 (by decide +kernel) rfl ?_
  refine sm_iload (i := 5) 38 6 (by decide +kernel) rfl rfl ?_
  refine sm_iadd 39 (by decide +kernel) rfl ?_
  refine sm_iload (i := 4) 41 5 (by decide +kernel) rfl rfl ?_
  refine sm_isub 42 (by decide +kernel) rfl ?_
  refine sm_callV (M2 := mm_E_resize) (av := [.int z11, .int 0, .int (((2 + (z1 - z2)) + x5) - x4)]) (rest := []) 45 (by decide +kernel) ml_E_157 (Nat.le_refl _) rfl rfl (by first | exact Nat.le_of_ble_eq_true rfl | simp [sm_rfc, Value.category]) rfl hf ?_
  rintro r13 h12 ⟨z14, rfl, hf⟩
  change sm_W N (d + 1) mm_E_addElement 45 [(6, .int (z1 - z2)), (0, .ref x0), (1, .int x1), (2, .ref x2), (3, .ref x3), (4, .int x4), (5, .int x5)] [.int z14] h12 Q
  refine sm_if_eq (off := 75) 48 120 (by decide +kernel) (by decide) rfl (fun q33 => ?_) (fun q33 => ?_)
  · have hf := hf.1 q33
    exact sm_vret rfl (by decide +kernel) hf
  · have hf := hf.2 q33
    refine sm_aload_n (k := 0) 49 1 (by decide +kernel) rfl rfl rfl ?_
    obtain ⟨z15, ez15, hf⟩ := hf
    refine sm_get 52 (by decide +kernel) fl_E_14 ez15 rfl ?_
    refine sm_aload_n (k := 0) 53 1 (by decide +kernel) rfl rfl rfl ?_
    obtain ⟨z16, ez16, hf⟩ := hf
    refine sm_get 56 (by decide +kernel) fl_E_40 ez16 rfl ?_
    refine sm_iload_n (k := 1) 57 2 (by decide +kernel) rfl rfl rfl ?_
    refine sm_callV (M2 := mm_B_put) (av := [.int z16, .int x1]) (rest := []) 60 (by decide +kernel) ml_E_183 (Nat.le_refl _) rfl rfl (by first | exact Nat.le_of_ble_eq_true rfl | simp [sm_rfc, Value.category]) rfl hf ?_
    rintro r18 h17 ⟨rfl, hf⟩
    change sm_W N (d + 1) mm_E_addElement 60 [(6, .int (z1 - z2)), (0, .ref x0), (1, .int x1), (2, .ref x2), (3, .ref x3), (4, .int x4), (5, .int x5)] [] h17 Q
    refine sm_aload_n (k := 0) 61 1 (by decide +kernel) rfl rfl rfl ?_
    obtain ⟨z19, ez19, hf⟩ := hf
    refine sm_get 64 (by decide +kernel) fl_E_14 ez19 rfl ?_
    refine sm_aload_n (k := 0) 65 1 (by decide +kernel) rfl rfl rfl ?_
    obtain ⟨z20, ez20, hf⟩ := hf
    refine sm_get 68 (by decide +kernel) fl_E_40 ez20 rfl ?_
    refine sm_iconst (i := 1) (x := 1) 69 (by decide +kernel) rfl rfl ?_
    refine sm_iadd 70 (by decide +kernel) rfl ?_
    refine sm_aload_n (k := 2) 71 3 (by decide +kernel) rfl rfl rfl ?_
    refine sm_aload_n (k := 0) 72 1 (by decide +kernel) rfl rfl rfl ?_
    obtain ⟨z21, ez21, hf⟩ := hf
    refine sm_get 75 (by decide +kernel) fl_E_43 ez21 rfl ?_
    refine sm_aload_n (k := 0) 76 1 (by decide +kernel) rfl rfl rfl ?_
    obtain ⟨z22, ez22, hf⟩ := hf
    refine sm_get 79 (by decide +kernel) fl_E_46 ez22 rfl ?_
    refine sm_callV (M2 := mm_B_write) (av := [.int (z20 + 1), .ref x2, .int z21, .int z22]) (rest := []) 82 (by decide +kernel) ml_E_186 (Nat.le_refl _) rfl rfl (by first | exact Nat.le_of_ble_eq_true rfl | simp [sm_rfc, Value.category]) rfl hf ?_
    rintro r24 h23 ⟨rfl, hf⟩
    change sm_W N (d + 1) mm_E_addElement 82 [(6, .int (z1 - z2)), (0, .ref x0), (1, .int x1), (2, .ref x2), (3, .ref x3), (4, .int x4), (5, .int x5)] [] h23 Q
    refine sm_aload_n (k := 0) 83 1 (by decide +kernel) rfl rfl rfl ?_
    obtain ⟨z25, ez25, hf⟩ := hf
    refine sm_get 86 (by decide +kernel) fl_E_14 ez25 rfl ?_
    refine sm_aload_n (k := 0) 87 1 (by decide +kernel) rfl rfl rfl ?_
    obtain ⟨z26, ez26, hf⟩ := hf
    refine sm_get 90 (by decide +kernel) fl_E_40 ez26 rfl ?_
    refine sm_iconst (i := 1) (x := 1) 91 (by decide +kernel) rfl rfl ?_
    refine sm_iadd 92 (by decide +kernel) rfl ?_
    refine sm_iload (i := 6) 94 0 (by decide +kernel) rfl rfl ?_
    refine sm_iadd 95 (by decide +kernel) rfl ?_
    refine sm_iconst (i := 0) (x := 0) 96 (by decide +kernel) rfl rfl ?_
    refine sm_callV (M2 := mm_B_put) (av := [.int ((z26 + 1) + (z1 - z2)), .int 0]) (rest := []) 99 (by decide +kernel) ml_E_183 (Nat.le_refl _) rfl rfl (by first | exact Nat.le_of_ble_eq_true rfl | simp [sm_rfc, Value.category]) rfl hf ?_
    rintro r28 h27 ⟨rfl, hf⟩
    change sm_W N (d + 1) mm_E_addElement 99 [(6, .int (z1 - z2)), (0, .ref x0), (1, .int x1), (2, .ref x2), (3, .ref x3), (4, .int x4), (5, .int x5)] [] h27 Q
    refine sm_aload_n (k := 0) 100 1 (by decide +kernel) rfl rfl rfl ?_
    obtain ⟨z29, ez29, hf⟩ := hf
    refine sm_get 103 (by decide +kernel) fl_E_14 ez29 rfl ?_
    refine sm_aload_n (k := 0) 104 1 (by decide +kernel) rfl rfl rfl ?_
    obtain ⟨z30, ez30, hf⟩ := hf
    refine sm_get 107 (by decide +kernel) fl_E_40 ez30 rfl ?_
    refine sm_iconst (i := 2) (x := 2) 108 (by decide +kernel) rfl rfl ?_
    refine sm_iadd 109 (by decide +kernel) rfl ?_
    refine sm_iload (i := 6) 111 0 (by decide +kernel) rfl rfl ?_
    refine sm_iadd 112 (by decide +kernel) rfl ?_
    refine sm_aload_n (k := 3) 113 4 (by decide +kernel) rfl rfl rfl ?_
    refine sm_iload (i := 4) 115 5 (by decide +kernel) rfl rfl ?_
    refine sm_iload (i := 5) 117 6 (by decide +kernel) rfl rfl ?_
    refine sm_callV (M2 := mm_B_write) (av := [.int ((z30 + 2) + (z1 - z2)), .ref x3, .int x4, .int x5]) (rest := []) 120 (by decide +kernel) ml_E_186 (Nat.le_refl _) rfl rfl (by first | exact Nat.le_of_ble_eq_true rfl | simp [sm_rfc, Value.category]) rfl hf ?_
    rintro r32 h31 ⟨rfl, hf⟩
    change sm_W N (d + 1) mm_E_addElement 120 [(6, .int (z1 - z2)), (0, .ref x0), (1, .int x1), (2, .ref x2), (3, .ref x3), (4, .int x4), (5, .int x5)] [] h31 Q
    exact sm_vret rfl (by decide +kernel) hf
theorem cE_addElement {N d : Nat} {h : sm_H} {Q : Option Value → sm_H → Prop} {x0 : Nat} {x1 : Int32} {x2 : Nat} {x3 : Nat} {x4 : Int32} {x5 : Int32} (hb : ∃ fs, h[x0]? = some (.inr (2, fs))) (hf : fE_addElement_0 N d h Q x0 x1 x2 x3 x4 x5) : sm_V N (d + 1) mm_E_addElement 2 x0 [.int x1, .ref x2, .ref x3, .int x4, .int x5] h Q := ⟨hb, sm_meth (by decide +kernel) (fun _ => Nat.le_of_ble_eq_true rfl) (fun _ => rfl) (kE_addElement_0 hf)⟩
def fE_replaceValue_0 (N d : Nat) (h : sm_H) (Q : Option Value → sm_H → Prop) (x0 : Nat) (x1 : Int32) (x2 : Nat) (x3 : Int32) (x4 : Int32) : Prop := ∃ z1 : Nat, sm_g h x0 2 0 = some (.ref z1) ∧ ∃ z2 : Int32, sm_g h x0 2 7 = some (.int z2) ∧ sm_V N d mm_B_valueStart 0 z1 [.int z2] h (fun r4 h3 => ∃ z5 : Int32, r4 = some (.int z5) ∧ ∃ z6 : Nat, sm_g h3 x0 2 0 = some (.ref z6) ∧ ∃ z7 : Int32, sm_g h3 x0 2 7 = some (.int z7) ∧ sm_V N d mm_B_valueEnd 0 z6 [.int z7] h3 (fun r9 h8 => ∃ z10 : Int32, r9 = some (.int z10) ∧ ∃ z11 : Nat, sm_g h8 x0 2 0 = some (.ref z11) ∧ ∃ z12 : Int32, sm_g h8 x0 2 7 = some (.int z12) ∧ sm_V N d mm_B_at 0 z11 [.int z12] h8 (fun r14 h13 => ∃ z15 : Int32, r14 = some (.int z15) ∧ ((z15 = x1 → ∃ z16 : Nat, sm_g h13 x0 2 0 = some (.ref z16) ∧ sm_T N d mm_D_sameRange [.ref z16, .int z5, .int z10, .ref x2, .int x3, .int x4] h13 (fun r18 h17 => ∃ z19 : Int32, r18 = some (.int z19) ∧ ((z19 = 0 → sm_W N (d + 1) mm_E_replaceValue 61 [(0, .ref x0), (1, .int x1), (2, .ref x2), (3, .int x3), (4, .int x4), (5, .int z5), (6, .int z10)] [] h17 Q) ∧ (¬ z19 = 0 → Q (some (.int 0)) h17)))) ∧ (¬ z15 = x1 → sm_W N (d + 1) mm_E_replaceValue 61 [(0, .ref x0), (1, .int x1), (2, .ref x2), (3, .int x3), (4, .int x4), (5, .int z5), (6, .int z10)] [] h13 Q)))))
set_option maxRecDepth 20000 in
set_option maxHeartbeats 4000000 in
theorem kE_replaceValue_0 {N d : Nat} {h : sm_H} {Q : Option Value → sm_H → Prop} {x0 : Nat} {x1 : Int32} {x2 : Nat} {x3 : Int32} {x4 : Int32} (hf : fE_replaceValue_0 N d h Q x0 x1 x2 x3 x4) : sm_W N (d + 1) mm_E_replaceValue 0 [(0, .ref x0), (1, .int x1), (2, .ref x2), (3, .int x3), (4, .int x4)] [] h Q := by
  unfold fE_replaceValue_0 at hf
  refine sm_aload_n (k := 0) 1 0 (by decide +kernel) rfl rfl rfl ?_
  obtain ⟨z1, ez1, hf⟩ := hf
  refine sm_get 4 (by decide +kernel) fl_E_14 ez1 rfl ?_
  refine sm_aload_n (k := 0) 5 0 (by decide +kernel) rfl rfl rfl ?_
  obtain ⟨z2, ez2, hf⟩ := hf
  refine sm_get 8 (by decide +kernel) fl_E_40 ez2 rfl ?_
  refine sm_callV (M2 := mm_B_valueStart) (av := [.int z2]) (rest := []) 11 (by decide +kernel) ml_E_134 (Nat.le_refl _) rfl rfl (by first | exact Nat.le_of_ble_eq_true rfl | simp [sm_rfc, Value.category]) rfl hf ?_
  rintro r4 h3 ⟨z5, rfl, hf⟩
  change sm_W N (d + 1) mm_E_replaceValue 11 [(0, .ref x0), (1, .int x1), (2, .ref x2), (3, .int x3), (4, .int x4)] [.int z5] h3 Q
  refine sm_istore (i := 5) 13 [(5, .int z5), (0, .ref x0), (1, .int x1), (2, .ref x2), (3, .int x3), (4, .int x4)] (by decide +kernel) (by decide) (by first | rfl | simp [sm_rfc]) rfl ?_
  refine sm_aload_n (k := 0) 14 1 (by decide +kernel) rfl rfl rfl ?_
  obtain ⟨z6, ez6, hf⟩ := hf
  refine sm_get 17 (by decide +kernel) fl_E_14 ez6 rfl ?_
  refine sm_aload_n (k := 0) 18 1 (by decide +kernel) rfl rfl rfl ?_
  obtain ⟨z7, ez7, hf⟩ := hf
  refine sm_get 21 (by decide +kernel) fl_E_40 ez7 rfl ?_
  refine sm_callV (M2 := mm_B_valueEnd) (av := [.int z7]) (rest := []) 24 (by decide +kernel) ml_E_147 (Nat.le_refl _) rfl rfl (by first | exact Nat.le_of_ble_eq_true rfl | simp [sm_rfc, Value.category]) rfl hf ?_
  rintro r9 h8 ⟨z10, rfl, hf⟩
  change sm_W N (d + 1) mm_E_replaceValue 24 [(5, .int z5), (0, .ref x0), (1, .int x1), (2, .ref x2), (3, .int x3), (4, .int x4)] [.int z10] h8 Q
  refine sm_istore (i := 6) 26 [(6, .int z10), (5, .int z5), (0, .ref x0), (1, .int x1), (2, .ref x2), (3, .int x3), (4, .int x4)] (by decide +kernel) (by decide) (by first | rfl | simp [sm_rfc]) rfl ?_
  refine sm_aload_n (k := 0) 27 2 (by decide +kernel) rfl rfl rfl ?_
  obtain ⟨z11, ez11, hf⟩ := hf
  refine sm_get 30 (by decide +kernel) fl_E_14 ez11 rfl ?_
  refine sm_aload_n (k := 0) 31 2 (by decide +kernel) rfl rfl rfl ?_
  obtain ⟨z12, ez12, hf⟩ := hf
  refine sm_get 34 (by decide +kernel) fl_E_40 ez12 rfl ?_
  refine sm_callV (M2 := mm_B_at) (av := [.int z12]) (rest := []) 37 (by decide +kernel) ml_E_127 (Nat.le_refl _) rfl rfl (by first | exact Nat.le_of_ble_eq_true rfl | simp [sm_rfc, Value.category]) rfl hf ?_
  rintro r14 h13 ⟨z15, rfl, hf⟩
  change sm_W N (d + 1) mm_E_replaceValue 37 [(6, .int z10), (5, .int z5), (0, .ref x0), (1, .int x1), (2, .ref x2), (3, .int x3), (4, .int x4)] [.int z15] h13 Q
  refine sm_iload_n (k := 1) 38 3 (by decide +kernel) rfl rfl rfl ?_
  refine sm_icmp_ne (off := 23) 41 61 (by decide +kernel) (by decide) rfl (fun q21 => ?_) (fun q21 => ?_)
  · have hf := hf.2 q21
    exact sm_sub [2, 3, 4, 5, 6, 1, 0] rfl hf
  · have hf := hf.1 q21
    refine sm_aload_n (k := 0) 42 2 (by decide +kernel) rfl rfl rfl ?_
    obtain ⟨z16, ez16, hf⟩ := hf
    refine sm_get 45 (by decide +kernel) fl_E_14 ez16 rfl ?_
    refine sm_iload (i := 5) 47 1 (by decide +kernel) rfl rfl ?_
    refine sm_iload (i := 6) 49 0 (by decide +kernel) rfl rfl ?_
    refine sm_aload_n (k := 2) 50 4 (by decide +kernel) rfl rfl rfl ?_
    refine sm_iload_n (k := 3) 51 5 (by decide +kernel) rfl rfl rfl ?_
    refine sm_iload (i := 4) 53 6 (by decide +kernel) rfl rfl ?_
    refine sm_callN (M2 := mm_D_sameRange) (av := [.ref z16, .int z5, .int z10, .ref x2, .int x3, .int x4]) (rest := []) 56 (by decide +kernel) ml_E_143 (Nat.le_refl _) rfl rfl (by first | exact Nat.le_of_ble_eq_true rfl | simp [sm_rfc, Value.category]) rfl hf ?_
    rintro r18 h17 ⟨z19, rfl, hf⟩
    change sm_W N (d + 1) mm_E_replaceValue 56 [(6, .int z10), (5, .int z5), (0, .ref x0), (1, .int x1), (2, .ref x2), (3, .int x3), (4, .int x4)] [.int z19] h17 Q
    refine sm_if_eq (off := 5) 59 61 (by decide +kernel) (by decide) rfl (fun q20 => ?_) (fun q20 => ?_)
    · have hf := hf.1 q20
      exact sm_sub [2, 3, 4, 5, 6, 1, 0] rfl hf
    · have hf := hf.2 q20
      refine sm_iconst (i := 0) (x := 0) 60 (by decide +kernel) rfl rfl ?_
      exact sm_iret rfl (by decide +kernel) hf
def fE_replaceValue_61 (N d : Nat) (h : sm_H) (Q : Option Value → sm_H → Prop) (x0 : Nat) (x1 : Int32) (x2 : Nat) (x3 : Int32) (x4 : Int32) (x5 : Int32) (x6 : Int32) : Prop := sm_V N d mm_E_resize 2 x0 [.int x5, .int (x6 - x5), .int (x4 - x3)] h (fun r2 h1 => ∃ z3 : Int32, r2 = some (.int z3) ∧ ((z3 = 0 → Q (some (.int 1)) h1) ∧ (¬ z3 = 0 → ∃ z4 : Nat, sm_g h1 x0 2 0 = some (.ref z4) ∧ ∃ z5 : Int32, sm_g h1 x0 2 7 = some (.int z5) ∧ sm_V N d mm_B_put 0 z4 [.int z5, .int x1] h1 (fun r7 h6 => r7 = none ∧ ∃ z8 : Nat, sm_g h6 x0 2 0 = some (.ref z8) ∧ sm_V N d mm_B_write 0 z8 [.int x5, .ref x2, .int x3, .int x4] h6 (fun r10 h9 => r10 = none ∧ Q (some (.int 1)) h9)))))
set_option maxRecDepth 20000 in
set_option maxHeartbeats 4000000 in
theorem kE_replaceValue_61 {N d : Nat} {h : sm_H} {Q : Option Value → sm_H → Prop} {x0 : Nat} {x1 : Int32} {x2 : Nat} {x3 : Int32} {x4 : Int32} {x5 : Int32} {x6 : Int32} (hf : fE_replaceValue_61 N d h Q x0 x1 x2 x3 x4 x5 x6) : sm_W N (d + 1) mm_E_replaceValue 61 [(0, .ref x0), (1, .int x1), (2, .ref x2), (3, .int x3), (4, .int x4), (5, .int x5), (6, .int x6)] [] h Q := by
  unfold fE_replaceValue_61 at hf
  refine sm_aload_n (k := 0) 62 0 (by decide +kernel) rfl rfl rfl ?_
  refine sm_iload (i := 5) 64 5 (by decide +kernel) rfl rfl ?_
  refine sm_iload (i := 6) 66 6 (by decide +kernel) rfl rfl ?_
  refine sm_iload (i := 5) 68 5 (by decide +kernel) rfl rfl ?_
  refine sm_isub 69 (by decide +kernel) rfl ?_
  refine sm_iload (i := 4) 71 4 (by decide +kernel) rfl rfl ?_
  refine sm_iload_n (k := 3) 72 3 (by decide +kernel) rfl rfl rfl ?_
  refine sm_isub 73 (by decide +kernel) rfl ?_
  refine sm_callV (M2 := mm_E_resize) (av := [.int x5, .int (x6 - x5), .int (x4 - x3)]) (rest := []) 76 (by decide +kernel) ml_E_157 (Nat.le_refl _) rfl rfl (by first | exact Nat.le_of_ble_eq_true rfl | simp [sm_rfc, Value.category]) rfl hf ?_
  rintro r2 h1 ⟨z3, rfl, hf⟩
  change sm_W N (d + 1) mm_E_replaceValue 76 [(0, .ref x0), (1, .int x1), (2, .ref x2), (3, .int x3), (4, .int x4), (5, .int x5), (6, .int x6)] [.int z3] h1 Q
  refine sm_if_eq (off := 28) 79 104 (by decide +kernel) (by decide) rfl (fun q11 => ?_) (fun q11 => ?_)
  · have hf := hf.1 q11
    refine sm_iconst (i := 1) (x := 1) 105 (by decide +kernel) rfl rfl ?_
    exact sm_iret rfl (by decide +kernel) hf
  · have hf := hf.2 q11
    refine sm_aload_n (k := 0) 80 0 (by decide +kernel) rfl rfl rfl ?_
    obtain ⟨z4, ez4, hf⟩ := hf
    refine sm_get 83 (by decide +kernel) fl_E_14 ez4 rfl ?_
    refine sm_aload_n (k := 0) 84 0 (by decide +kernel) rfl rfl rfl ?_
    obtain ⟨z5, ez5, hf⟩ := hf
    refine sm_get 87 (by decide +kernel) fl_E_40 ez5 rfl ?_
    refine sm_iload_n (k := 1) 88 1 (by decide +kernel) rfl rfl rfl ?_
    refine sm_callV (M2 := mm_B_put) (av := [.int z5, .int x1]) (rest := []) 91 (by decide +kernel) ml_E_183 (Nat.le_refl _) rfl rfl (by first | exact Nat.le_of_ble_eq_true rfl | simp [sm_rfc, Value.category]) rfl hf ?_
    rintro r7 h6 ⟨rfl, hf⟩
    change sm_W N (d + 1) mm_E_replaceValue 91 [(0, .ref x0), (1, .int x1), (2, .ref x2), (3, .int x3), (4, .int x4), (5, .int x5), (6, .int x6)] [] h6 Q
    refine sm_aload_n (k := 0) 92 0 (by decide +kernel) rfl rfl rfl ?_
    obtain ⟨z8, ez8, hf⟩ := hf
    refine sm_get 95 (by decide +kernel) fl_E_14 ez8 rfl ?_
    refine sm_iload (i := 5) 97 5 (by decide +kernel) rfl rfl ?_
    refine sm_aload_n (k := 2) 98 2 (by decide +kernel) rfl rfl rfl ?_
    refine sm_iload_n (k := 3) 99 3 (by decide +kernel) rfl rfl rfl ?_
    refine sm_iload (i := 4) 101 4 (by decide +kernel) rfl rfl ?_
    refine sm_callV (M2 := mm_B_write) (av := [.int x5, .ref x2, .int x3, .int x4]) (rest := []) 104 (by decide +kernel) ml_E_186 (Nat.le_refl _) rfl rfl (by first | exact Nat.le_of_ble_eq_true rfl | simp [sm_rfc, Value.category]) rfl hf ?_
    rintro r10 h9 ⟨rfl, hf⟩
    change sm_W N (d + 1) mm_E_replaceValue 104 [(0, .ref x0), (1, .int x1), (2, .ref x2), (3, .int x3), (4, .int x4), (5, .int x5), (6, .int x6)] [] h9 Q
    refine sm_iconst (i := 1) (x := 1) 105 (by decide +kernel) rfl rfl ?_
    exact sm_iret rfl (by decide +kernel) hf
theorem cE_replaceValue {N d : Nat} {h : sm_H} {Q : Option Value → sm_H → Prop} {x0 : Nat} {x1 : Int32} {x2 : Nat} {x3 : Int32} {x4 : Int32} (hb : ∃ fs, h[x0]? = some (.inr (2, fs))) (hf : fE_replaceValue_0 N d h Q x0 x1 x2 x3 x4) : sm_V N (d + 1) mm_E_replaceValue 2 x0 [.int x1, .ref x2, .int x3, .int x4] h Q := ⟨hb, sm_meth (by decide +kernel) (fun _ => Nat.le_of_ble_eq_true rfl) (fun _ => rfl) (kE_replaceValue_0 hf)⟩
def fE_resize_0 (N d : Nat) (h : sm_H) (Q : Option Value → sm_H → Prop) (x0 : Nat) (x1 : Int32) (x2 : Int32) (x3 : Int32) : Prop := ∃ z1 : Nat, sm_g h x0 2 0 = some (.ref z1) ∧ sm_V N d mm_B_resize 0 z1 [.int x1, .int x2, .int x3] h (fun r3 h2 => ∃ z4 : Int32, r3 = some (.int z4) ∧ ((z4 = 0 → ∃ h5, sm_p h2 x0 2 10 (.int 1) = some h5 ∧ Q (some (.int 0)) h5) ∧ (¬ z4 = 0 → sm_W N (d + 1) mm_E_resize 23 [(0, .ref x0), (2, .int x2), (3, .int x3), (4, .int 0)] [] h2 Q)))
set_option maxRecDepth 20000 in
set_option maxHeartbeats 4000000 in
theorem kE_resize_0 {N d : Nat} {h : sm_H} {Q : Option Value → sm_H → Prop} {x0 : Nat} {x1 : Int32} {x2 : Int32} {x3 : Int32} (hf : fE_resize_0 N d h Q x0 x1 x2 x3) : sm_W N (d + 1) mm_E_resize 0 [(0, .ref x0), (1, .int x1), (2, .int x2), (3, .int x3)] [] h Q := by
  unfold fE_resize_0 at hf
  refine sm_aload_n (k := 0) 1 0 (by decide +kernel) rfl rfl rfl ?_
  obtain ⟨z1, ez1, hf⟩ := hf
  refine sm_get 4 (by decide +kernel) fl_E_14 ez1 rfl ?_
  refine sm_iload_n (k := 1) 5 1 (by decide +kernel) rfl rfl rfl ?_
  refine sm_iload_n (k := 2) 6 2 (by decide +kernel) rfl rfl rfl ?_
  refine sm_iload_n (k := 3) 7 3 (by decide +kernel) rfl rfl rfl ?_
  refine sm_callV (M2 := mm_B_resize) (av := [.int x1, .int x2, .int x3]) (rest := []) 10 (by decide +kernel) ml_E_190 (Nat.le_refl _) rfl rfl (by first | exact Nat.le_of_ble_eq_true rfl | simp [sm_rfc, Value.category]) rfl hf ?_
  rintro r3 h2 ⟨z4, rfl, hf⟩
  change sm_W N (d + 1) mm_E_resize 10 [(0, .ref x0), (1, .int x1), (2, .int x2), (3, .int x3)] [.int z4] h2 Q
  refine sm_if_ne (off := 10) 13 20 (by decide +kernel) (by decide) rfl (fun q6 => ?_) (fun q6 => ?_)
  · have hf := hf.2 q6
    refine sm_iconst (i := 0) (x := 0) 21 (by decide +kernel) rfl rfl ?_
    refine sm_istore (i := 4) 23 [(4, .int 0), (0, .ref x0), (1, .int x1), (2, .int x2), (3, .int x3)] (by decide +kernel) (by decide) (by first | rfl | simp [sm_rfc]) rfl ?_
    exact sm_sub [1, 3, 4, 0] rfl hf
  · have hf := hf.1 q6
    refine sm_aload_n (k := 0) 14 0 (by decide +kernel) rfl rfl rfl ?_
    refine sm_iconst (i := 1) (x := 1) 15 (by decide +kernel) rfl rfl ?_
    obtain ⟨h5, eh5, hf⟩ := hf
    refine sm_put (ty := .boolean) 18 (by decide +kernel) fp_E_49 (fun _ => rfl) rfl rfl eh5 rfl ?_
    refine sm_iconst (i := 0) (x := 0) 19 (by decide +kernel) rfl rfl ?_
    exact sm_zret rfl (by decide +kernel) (by decide) hf
def fE_resize_23 (N d : Nat) (h : sm_H) (Q : Option Value → sm_H → Prop) (x0 : Nat) (x2 : Int32) (x3 : Int32) (x4 : Int32) : Prop := ∃ z1 : Int32, sm_g h x0 2 5 = some (.int z1) ∧ ((z1 ≤ x4 → Q (some (.int 1)) h) ∧ (¬ z1 ≤ x4 → ∃ z2 : Nat, sm_g h x0 2 1 = some (.ref z2) ∧ ∃ z3 : Int32, sm_n h z2 = some z3 ∧ ((z3 ≤ x4 → Q (some (.int 1)) h) ∧ (¬ z3 ≤ x4 → ∃ z4 : Nat, sm_g h x0 2 0 = some (.ref z4) ∧ ∃ z5 : Nat, sm_g h x0 2 1 = some (.ref z5) ∧ ∃ z6 : Int32, sm_gi h z5 1 x4 = some z6 ∧ ∃ z7 : Nat, sm_g h x0 2 0 = some (.ref z7) ∧ ∃ z8 : Nat, sm_g h x0 2 1 = some (.ref z8) ∧ ∃ z9 : Int32, sm_gi h z8 1 x4 = some z9 ∧ sm_V N d mm_B_intAt 0 z7 [.int z9] h (fun r11 h10 => ∃ z12 : Int32, r11 = some (.int z12) ∧ sm_V N d mm_B_putInt 0 z4 [.int z6, .int ((z12 + x3) - x2)] h10 (fun r14 h13 => r14 = none ∧ sm_W N (d + 1) mm_E_resize 23 [(0, .ref x0), (2, .int x2), (3, .int x3), (4, .int (x4 + 1))] [] h13 Q))))))
set_option maxRecDepth 20000 in
set_option maxHeartbeats 4000000 in
theorem kE_resize_23 {N d : Nat} {h : sm_H} {Q : Option Value → sm_H → Prop} {x0 : Nat} {x2 : Int32} {x3 : Int32} {x4 : Int32} (hf : fE_resize_23 N d h Q x0 x2 x3 x4) : sm_W N (d + 1) mm_E_resize 23 [(0, .ref x0), (2, .int x2), (3, .int x3), (4, .int x4)] [] h Q := by
  unfold fE_resize_23 at hf
  refine sm_iload (i := 4) 25 3 (by decide +kernel) rfl rfl ?_
  refine sm_aload_n (k := 0) 26 0 (by decide +kernel) rfl rfl rfl ?_
  obtain ⟨z1, ez1, hf⟩ := hf
  refine sm_get 29 (by decide +kernel) fl_E_33 ez1 rfl ?_
  refine sm_icmp_ge (off := 51) 32 80 (by decide +kernel) (by decide) rfl (fun q16 => ?_) (fun q16 => ?_)
  · have hf := hf.1 q16
    refine sm_iconst (i := 1) (x := 1) 81 (by decide +kernel) rfl rfl ?_
    exact sm_zret rfl (by decide +kernel) (by decide) hf
  · have hf := hf.2 q16
    refine sm_iload (i := 4) 34 3 (by decide +kernel) rfl rfl ?_
    refine sm_aload_n (k := 0) 35 0 (by decide +kernel) rfl rfl rfl ?_
    obtain ⟨z2, ez2, hf⟩ := hf
    refine sm_get 38 (by decide +kernel) fl_E_20 ez2 rfl ?_
    obtain ⟨z3, ez3, hf⟩ := hf
    refine sm_alen 39 (by decide +kernel) ez3 rfl ?_
    refine sm_icmp_ge (off := 41) 42 80 (by decide +kernel) (by decide) rfl (fun q15 => ?_) (fun q15 => ?_)
    · have hf := hf.1 q15
      refine sm_iconst (i := 1) (x := 1) 81 (by decide +kernel) rfl rfl ?_
      exact sm_zret rfl (by decide +kernel) (by decide) hf
    · have hf := hf.2 q15
      refine sm_aload_n (k := 0) 43 0 (by decide +kernel) rfl rfl rfl ?_
      obtain ⟨z4, ez4, hf⟩ := hf
      refine sm_get 46 (by decide +kernel) fl_E_14 ez4 rfl ?_
      refine sm_aload_n (k := 0) 47 0 (by decide +kernel) rfl rfl rfl ?_
      obtain ⟨z5, ez5, hf⟩ := hf
      refine sm_get 50 (by decide +kernel) fl_E_20 ez5 rfl ?_
      refine sm_iload (i := 4) 52 3 (by decide +kernel) rfl rfl ?_
      obtain ⟨z6, ez6, hf⟩ := hf
      refine sm_iald 53 (by decide +kernel) ez6 rfl ?_
      refine sm_aload_n (k := 0) 54 0 (by decide +kernel) rfl rfl rfl ?_
      obtain ⟨z7, ez7, hf⟩ := hf
      refine sm_get 57 (by decide +kernel) fl_E_14 ez7 rfl ?_
      refine sm_aload_n (k := 0) 58 0 (by decide +kernel) rfl rfl rfl ?_
      obtain ⟨z8, ez8, hf⟩ := hf
      refine sm_get 61 (by decide +kernel) fl_E_20 ez8 rfl ?_
      refine sm_iload (i := 4) 63 3 (by decide +kernel) rfl rfl ?_
      obtain ⟨z9, ez9, hf⟩ := hf
      refine sm_iald 64 (by decide +kernel) ez9 rfl ?_
      refine sm_callV (M2 := mm_B_intAt) (av := [.int z9]) (rest := [.int z6, .ref z4]) 67 (by decide +kernel) ml_E_191 (Nat.le_refl _) rfl rfl (by first | exact Nat.le_of_ble_eq_true rfl | simp [sm_rfc, Value.category]) rfl hf ?_
      rintro r11 h10 ⟨z12, rfl, hf⟩
      change sm_W N (d + 1) mm_E_resize 67 [(0, .ref x0), (2, .int x2), (3, .int x3), (4, .int x4)] [.int z12, .int z6, .ref z4] h10 Q
      refine sm_iload_n (k := 3) 68 2 (by decide +kernel) rfl rfl rfl ?_
      refine sm_iadd 69 (by decide +kernel) rfl ?_
      refine sm_iload_n (k := 2) 70 1 (by decide +kernel) rfl rfl rfl ?_
      refine sm_isub 71 (by decide +kernel) rfl ?_
      refine sm_callV (M2 := mm_B_putInt) (av := [.int z6, .int ((z12 + x3) - x2)]) (rest := []) 74 (by decide +kernel) ml_E_194 (Nat.le_refl _) rfl rfl (by first | exact Nat.le_of_ble_eq_true rfl | simp [sm_rfc, Value.category]) rfl hf ?_
      rintro r14 h13 ⟨rfl, hf⟩
      change sm_W N (d + 1) mm_E_resize 74 [(0, .ref x0), (2, .int x2), (3, .int x3), (4, .int x4)] [] h13 Q
      refine sm_iinc (i := 4) (j := 3) (z := 1) (y := x4 + 1) 77 [(4, .int (x4 + 1)), (0, .ref x0), (2, .int x2), (3, .int x3)] (by decide +kernel) rfl (by rfl) (by decide) rfl rfl ?_
      refine sm_goto (off := -54) 23 (by decide +kernel) (by decide) ?_
      exact sm_sub [1, 2, 3, 0] rfl hf
theorem cE_resize {N d : Nat} {h : sm_H} {Q : Option Value → sm_H → Prop} {x0 : Nat} {x1 : Int32} {x2 : Int32} {x3 : Int32} (hb : ∃ fs, h[x0]? = some (.inr (2, fs))) (hf : fE_resize_0 N d h Q x0 x1 x2 x3) : sm_V N (d + 1) mm_E_resize 2 x0 [.int x1, .int x2, .int x3] h Q := ⟨hb, sm_meth (by decide +kernel) (fun _ => Nat.le_of_ble_eq_true rfl) (fun _ => rfl) (kE_resize_0 hf)⟩
