def fD_feed_0 (N d : Nat) (h : sm_H) (Q : Option Value → sm_H → Prop) (x0 : Nat) (x1 : Int32) (x2 : Int32) (x3 : Int32) (x4 : Int32) (x5 : Int32) : Prop := ∃ z1 : Nat, sm_g h x0 4 0 = some (.ref z1) ∧ ∃ z2 : Int32, sm_g h z1 0 1 = some (.int z2) ∧ (((z2 + 20) ≤ 2000 → ∃ z3 : Nat, sm_g h x0 4 0 = some (.ref z3) ∧ sm_V N d mm_B_addHighestFirst 0 z3 [.int x1] h (fun r5 h4 => r5 = none ∧ ∃ z6 : Nat, sm_g h4 x0 4 0 = some (.ref z6) ∧ sm_V N d mm_B_addHighestFirst 0 z6 [.int x2] h4 (fun r8 h7 => r8 = none ∧ ∃ z9 : Nat, sm_g h7 x0 4 0 = some (.ref z9) ∧ sm_V N d mm_B_addHighestFirst 0 z9 [.int x3] h7 (fun r11 h10 => r11 = none ∧ ∃ z12 : Nat, sm_g h10 x0 4 0 = some (.ref z12) ∧ sm_V N d mm_B_addHighestFirst 0 z12 [.int x4] h10 (fun r14 h13 => r14 = none ∧ ∃ z15 : Nat, sm_g h13 x0 4 0 = some (.ref z15) ∧ sm_V N d mm_B_addHighestFirst 0 z15 [.int x5] h13 (fun r17 h16 => r17 = none ∧ ∃ z18 : Nat, sm_g h16 x0 4 0 = some (.ref z18) ∧ ∃ z19 : Int32, sm_g h16 z18 0 1 = some (.int z19) ∧ Q (some (.int z19)) h16)))))) ∧ (¬ (z2 + 20) ≤ 2000 → Q (some (.int (-1))) h))
set_option maxRecDepth 20000 in
set_option maxHeartbeats 4000000 in
theorem kD_feed_0 {N d : Nat} {h : sm_H} {Q : Option Value → sm_H → Prop} {x0 : Nat} {x1 : Int32} {x2 : Int32} {x3 : Int32} {x4 : Int32} {x5 : Int32} (hf : fD_feed_0 N d h Q x0 x1 x2 x3 x4 x5) : sm_W N (d + 1) mm_D_feed 0 [(0, .ref x0), (1, .int x1), (2, .int x2), (3, .int x3), (4, .int x4), (5, .int x5)] [] h Q := by
  unfold fD_feed_0 at hf
  refine sm_aload_n (k := 0) 1 0 (by decide +kernel) rfl rfl rfl ?_
  obtain ⟨z1, ez1, hf⟩ := hf
  refine sm_get 4 (by decide +kernel) fl_D_14 ez1 rfl ?_
  obtain ⟨z2, ez2, hf⟩ := hf
  refine sm_get 7 (by decide +kernel) fl_D_57 ez2 rfl ?_
  refine sm_bipush (i := 20) (x := 20) 9 (by decide +kernel) (by decide) rfl ?_
  refine sm_iadd 10 (by decide +kernel) rfl ?_
  refine sm_sipush (i := 2000) (x := 2000) 13 (by decide +kernel) (by decide) rfl ?_
  refine sm_icmp_le (off := 5) 16 18 (by decide +kernel) (by decide) rfl (fun q20 => ?_) (fun q20 => ?_)
  · have hf := hf.1 q20
    refine sm_aload_n (k := 0) 19 0 (by decide +kernel) rfl rfl rfl ?_
    obtain ⟨z3, ez3, hf⟩ := hf
    refine sm_get 22 (by decide +kernel) fl_D_14 ez3 rfl ?_
    refine sm_iload_n (k := 1) 23 1 (by decide +kernel) rfl rfl rfl ?_
    refine sm_callV (M2 := mm_B_addHighestFirst) (av := [.int x1]) (rest := []) 26 (by decide +kernel) ml_D_60 (Nat.le_refl _) rfl rfl (by first | exact Nat.le_of_ble_eq_true rfl | simp [sm_rfc, Value.category]) rfl hf ?_
    rintro r5 h4 ⟨rfl, hf⟩
    change sm_W N (d + 1) mm_D_feed 26 [(0, .ref x0), (1, .int x1), (2, .int x2), (3, .int x3), (4, .int x4), (5, .int x5)] [] h4 Q
    refine sm_aload_n (k := 0) 27 0 (by decide +kernel) rfl rfl rfl ?_
    obtain ⟨z6, ez6, hf⟩ := hf
    refine sm_get 30 (by decide +kernel) fl_D_14 ez6 rfl ?_
    refine sm_iload_n (k := 2) 31 2 (by decide +kernel) rfl rfl rfl ?_
    refine sm_callV (M2 := mm_B_addHighestFirst) (av := [.int x2]) (rest := []) 34 (by decide +kernel) ml_D_60 (Nat.le_refl _) rfl rfl (by first | exact Nat.le_of_ble_eq_true rfl | simp [sm_rfc, Value.category]) rfl hf ?_
    rintro r8 h7 ⟨rfl, hf⟩
    change sm_W N (d + 1) mm_D_feed 34 [(0, .ref x0), (1, .int x1), (2, .int x2), (3, .int x3), (4, .int x4), (5, .int x5)] [] h7 Q
    refine sm_aload_n (k := 0) 35 0 (by decide +kernel) rfl rfl rfl ?_
    obtain ⟨z9, ez9, hf⟩ := hf
    refine sm_get 38 (by decide +kernel) fl_D_14 ez9 rfl ?_
    refine sm_iload_n (k := 3) 39 3 (by decide +kernel) rfl rfl rfl ?_
    refine sm_callV (M2 := mm_B_addHighestFirst) (av := [.int x3]) (rest := []) 42 (by decide +kernel) ml_D_60 (Nat.le_refl _) rfl rfl (by first | exact Nat.le_of_ble_eq_true rfl | simp [sm_rfc, Value.category]) rfl hf ?_
    rintro r11 h10 ⟨rfl, hf⟩
    change sm_W N (d + 1) mm_D_feed 42 [(0, .ref x0), (1, .int x1), (2, .int x2), (3, .int x3), (4, .int x4), (5, .int x5)] [] h10 Q
    refine sm_aload_n (k := 0) 43 0 (by decide +kernel) rfl rfl rfl ?_
    obtain ⟨z12, ez12, hf⟩ := hf
    refine sm_get 46 (by decide +kernel) fl_D_14 ez12 rfl ?_
    refine sm_iload (i := 4) 48 4 (by decide +kernel) rfl rfl ?_
    refine sm_callV (M2 := mm_B_addHighestFirst) (av := [.int x4]) (rest := []) 51 (by decide +kernel) ml_D_60 (Nat.le_refl _) rfl rfl (by first | exact Nat.le_of_ble_eq_true rfl | simp [sm_rfc, Value.category]) rfl hf ?_
    rintro r14 h13 ⟨rfl, hf⟩
    change sm_W N (d + 1) mm_D_feed 51 [(0, .ref x0), (1, .int x1), (2, .int x2), (3, .int x3), (4, .int x4), (5, .int x5)] [] h13 Q
    refine sm_aload_n (k := 0) 52 0 (by decide +kernel) rfl rfl rfl ?_
    obtain ⟨z15, ez15, hf⟩ := hf
    refine sm_get 55 (by decide +kernel) fl_D_14 ez15 rfl ?_
    refine sm_iload (i := 5) 57 5 (by decide +kernel) rfl rfl ?_
    refine sm_callV (M2 := mm_B_addHighestFirst) (av := [.int x5]) (rest := []) 60 (by decide +kernel) ml_D_60 (Nat.le_refl _) rfl rfl (by first | exact Nat.le_of_ble_eq_true rfl | simp [sm_rfc, Value.category]) rfl hf ?_
    rintro r17 h16 ⟨rfl, hf⟩
    change sm_W N (d + 1) mm_D_feed 60 [(0, .ref x0), (1, .int x1), (2, .int x2), (3, .int x3), (4, .int x4), (5, .int x5)] [] h16 Q
    refine sm_aload_n (k := 0) 61 0 (by decide +kernel) rfl rfl rfl ?_
    obtain ⟨z18, ez18, hf⟩ := hf
    refine sm_get 64 (by decide +kernel) fl_D_14 ez18 rfl ?_
    obtain ⟨z19, ez19, hf⟩ := hf
    refine sm_get 67 (by decide +kernel) fl_D_57 ez19 rfl ?_
    exact sm_iret rfl (by decide +kernel) hf
  · have hf := hf.2 q20
    refine sm_iconst (i := -1) (x := (-1)) 17 (by decide +kernel) rfl rfl ?_
    exact sm_iret rfl (by decide +kernel) hf
theorem cD_feed {N d : Nat} {h : sm_H} {Q : Option Value → sm_H → Prop} {x0 : Nat} {x1 : Int32} {x2 : Int32} {x3 : Int32} {x4 : Int32} {x5 : Int32} (hb : ∃ fs, h[x0]? = some (.inr (4, fs))) (hf : fD_feed_0 N d h Q x0 x1 x2 x3 x4 x5) : sm_V N (d + 1) mm_D_feed 4 x0 [.int x1, .int x2, .int x3, .int x4, .int x5] h Q := ⟨hb, sm_meth (by decide +kernel) (fun _ => Nat.le_of_ble_eq_true rfl) (fun _ => rfl) (kD_feed_0 hf)⟩
def fD_read_0 (N d : Nat) (h : sm_H) (Q : Option Value → sm_H → Prop) (x0 : Nat) (x1 : Int32) (x2 : Int32) : Prop := sm_V N d mm_D_slotOf 4 x0 [.int x1] h (fun r2 h1 => ∃ z3 : Option Nat, r2 = some (va_rf z3) ∧ ((z3 = none → Q (some (.int (-2))) h1) ∧ (∀ a4 : Nat, z3 = some a4 → sm_V N d mm_D_tapeHas 4 x0 [.int x2] h1 (fun r6 h5 => ∃ z7 : Int32, r6 = some (.int z7) ∧ ((z7 = 0 → Q (some (.int (-2))) h5) ∧ (¬ z7 = 0 → ∃ z8 : Nat, sm_g h5 x0 4 2 = some (.ref z8) ∧ ∃ z9 : Nat, sm_g h5 x0 4 0 = some (.ref z9) ∧ sm_V N d mm_K_isDocument 1 z8 [.ref z9, .int x2] h5 (fun r11 h10 => ∃ z12 : Int32, r11 = some (.int z12) ∧ ((z12 = 0 → sm_W N (d + 1) mm_D_read 49 [(0, .ref x0), (3, .ref a4), (4, .int z12)] [] h10 Q) ∧ (¬ z12 = 0 → ∃ z13 : Nat, sm_g h10 x0 4 0 = some (.ref z13) ∧ sm_V N d mm_B_become 0 a4 [.ref z13, .int x2] h10 (fun r15 h14 => r15 = none ∧ sm_W N (d + 1) mm_D_read 49 [(0, .ref x0), (3, .ref a4), (4, .int z12)] [] h14 Q))))))))))
set_option maxRecDepth 20000 in
set_option maxHeartbeats 4000000 in
theorem kD_read_0 {N d : Nat} {h : sm_H} {Q : Option Value → sm_H → Prop} {x0 : Nat} {x1 : Int32} {x2 : Int32} (hf : fD_read_0 N d h Q x0 x1 x2) : sm_W N (d + 1) mm_D_read 0 [(0, .ref x0), (1, .int x1), (2, .int x2)] [] h Q := by
  unfold fD_read_0 at hf
  refine sm_aload_n (k := 0) 1 0 (by decide +kernel) rfl rfl rfl ?_
  refine sm_iload_n (k := 1) 2 1 (by decide +kernel) rfl rfl rfl ?_
  refine sm_callV (M2 := mm_D_slotOf) (av := [.int x1]) (rest := []) 5 (by decide +kernel) ml_D_63 (Nat.le_refl _) rfl rfl (by first | exact Nat.le_of_ble_eq_true rfl | simp [sm_rfc, Value.category]) rfl hf ?_
  rintro r2 h1 ⟨z3, rfl, hf⟩
  change sm_W N (d + 1) mm_D_read 5 [(0, .ref x0), (1, .int x1), (2, .int x2)] [va_rf z3] h1 Q
  refine sm_astore_nQ (k := 3) 6 [(3, va_rf z3), (0, .ref x0), (1, .int x1), (2, .int x2)] (by decide +kernel) rfl (by decide) (by first | rfl | simp [sm_rfc]) rfl ?_
  refine sm_aload_nQ (k := 3) 7 0 (by decide +kernel) rfl rfl rfl ?_
  rcases z3 with _ | a4
  · have hf := hf.1 rfl
    change sm_W N (d + 1) mm_D_read 7 [(3, .null), (0, .ref x0), (1, .int x1), (2, .int x2)] (.null :: []) h1 Q
    refine sm_ifnullN (off := 11) 18 (by decide +kernel) (by decide) ?_
    refine sm_bipush (i := -2) (x := (-2)) 20 (by decide +kernel) (by decide) rfl ?_
    exact sm_iret rfl (by decide +kernel) hf
  · have hf := hf.2 a4 rfl
    change sm_W N (d + 1) mm_D_read 7 [(3, .ref a4), (0, .ref x0), (1, .int x1), (2, .int x2)] (.ref a4 :: []) h1 Q
    refine sm_ifnull (off := 11) 10 (by decide +kernel) rfl ?_
    refine sm_aload_n (k := 0) 11 1 (by decide +kernel) rfl rfl rfl ?_
    refine sm_iload_n (k := 2) 12 3 (by decide +kernel) rfl rfl rfl ?_
    refine sm_callV (M2 := mm_D_tapeHas) (av := [.int x2]) (rest := []) 15 (by decide +kernel) ml_D_67 (Nat.le_refl _) rfl rfl (by first | exact Nat.le_of_ble_eq_true rfl | simp [sm_rfc, Value.category]) rfl hf ?_
    rintro r6 h5 ⟨z7, rfl, hf⟩
    change sm_W N (d + 1) mm_D_read 15 [(3, .ref a4), (0, .ref x0), (1, .int x1), (2, .int x2)] [.int z7] h5 Q
    refine sm_if_ne (off := 6) 18 21 (by decide +kernel) (by decide) rfl (fun q17 => ?_) (fun q17 => ?_)
    · have hf := hf.2 q17
      refine sm_aload_n (k := 0) 22 1 (by decide +kernel) rfl rfl rfl ?_
      obtain ⟨z8, ez8, hf⟩ := hf
      refine sm_get 25 (by decide +kernel) fl_D_25 ez8 rfl ?_
      refine sm_aload_n (k := 0) 26 1 (by decide +kernel) rfl rfl rfl ?_
      obtain ⟨z9, ez9, hf⟩ := hf
      refine sm_get 29 (by decide +kernel) fl_D_14 ez9 rfl ?_
      refine sm_iload_n (k := 2) 30 3 (by decide +kernel) rfl rfl rfl ?_
      refine sm_callV (M2 := mm_K_isDocument) (av := [.ref z9, .int x2]) (rest := []) 33 (by decide +kernel) ml_D_71 (Nat.le_refl _) rfl rfl (by first | exact Nat.le_of_ble_eq_true rfl | simp [sm_rfc, Value.category]) rfl hf ?_
      rintro r11 h10 ⟨z12, rfl, hf⟩
      change sm_W N (d + 1) mm_D_read 33 [(3, .ref a4), (0, .ref x0), (1, .int x1), (2, .int x2)] [.int z12] h10 Q
      refine sm_istore (i := 4) 35 [(4, .int z12), (3, .ref a4), (0, .ref x0), (1, .int x1), (2, .int x2)] (by decide +kernel) (by decide) (by first | rfl | simp [sm_rfc]) rfl ?_
      refine sm_iload (i := 4) 37 0 (by decide +kernel) rfl rfl ?_
      refine sm_if_eq (off := 12) 40 49 (by decide +kernel) (by decide) rfl (fun q16 => ?_) (fun q16 => ?_)
      · have hf := hf.1 q16
        exact sm_sub [2, 1, 0] rfl hf
      · have hf := hf.2 q16
        refine sm_aload_n (k := 3) 41 1 (by decide +kernel) rfl rfl rfl ?_
        refine sm_aload_n (k := 0) 42 2 (by decide +kernel) rfl rfl rfl ?_
        obtain ⟨z13, ez13, hf⟩ := hf
        refine sm_get 45 (by decide +kernel) fl_D_14 ez13 rfl ?_
        refine sm_iload_n (k := 2) 46 4 (by decide +kernel) rfl rfl rfl ?_
        refine sm_callV (M2 := mm_B_become) (av := [.ref z13, .int x2]) (rest := []) 49 (by decide +kernel) ml_D_75 (Nat.le_refl _) rfl rfl (by first | exact Nat.le_of_ble_eq_true rfl | simp [sm_rfc, Value.category]) rfl hf ?_
        rintro r15 h14 ⟨rfl, hf⟩
        change sm_W N (d + 1) mm_D_read 49 [(4, .int z12), (3, .ref a4), (0, .ref x0), (1, .int x1), (2, .int x2)] [] h14 Q
        exact sm_sub [2, 1, 0] rfl hf
    · have hf := hf.1 q17
      refine sm_bipush (i := -2) (x := (-2)) 20 (by decide +kernel) (by decide) rfl ?_
      exact sm_iret rfl (by decide +kernel) hf
def fD_read_49 (N d : Nat) (h : sm_H) (Q : Option Value → sm_H → Prop) (x0 : Nat) (x3 : Nat) (x4 : Int32) : Prop := ∃ z1 : Nat, sm_g h x0 4 0 = some (.ref z1) ∧ ∃ h2, sm_p h z1 0 1 (.int 0) = some h2 ∧ ((x4 = 0 → Q (some (.int (-1))) h2) ∧ (¬ x4 = 0 → sm_V N d mm_B_countElements 0 x3 [.int 0] h2 (fun r4 h3 => ∃ z5 : Int32, r4 = some (.int z5) ∧ Q (some (.int z5)) h3)))
set_option maxRecDepth 20000 in
set_option maxHeartbeats 4000000 in
theorem kD_read_49 {N d : Nat} {h : sm_H} {Q : Option Value → sm_H → Prop} {x0 : Nat} {x3 : Nat} {x4 : Int32} (hf : fD_read_49 N d h Q x0 x3 x4) : sm_W N (d + 1) mm_D_read 49 [(0, .ref x0), (3, .ref x3), (4, .int x4)] [] h Q := by
  unfold fD_read_49 at hf
  refine sm_aload_n (k := 0) 50 0 (by decide +kernel) rfl rfl rfl ?_
  obtain ⟨z1, ez1, hf⟩ := hf
  refine sm_get 53 (by decide +kernel) fl_D_14 ez1 rfl ?_
  refine sm_iconst (i := 0) (x := 0) 54 (by decide +kernel) rfl rfl ?_
  obtain ⟨h2, eh2, hf⟩ := hf
  refine sm_put (ty := .int) 57 (by decide +kernel) fp_D_57 (fun _ => rfl) rfl rfl eh2 rfl ?_
  refine sm_iload (i := 4) 59 2 (by decide +kernel) rfl rfl ?_
  refine sm_if_eq (off := 11) 62 70 (by decide +kernel) (by decide) rfl (fun q6 => ?_) (fun q6 => ?_)
  · have hf := hf.1 q6
    refine sm_iconst (i := -1) (x := (-1)) 71 (by decide +kernel) rfl rfl ?_
    exact sm_iret rfl (by decide +kernel) hf
  · have hf := hf.2 q6
    refine sm_aload_n (k := 3) 63 1 (by decide +kernel) rfl rfl rfl ?_
    refine sm_iconst (i := 0) (x := 0) 64 (by decide +kernel) rfl rfl ?_
    refine sm_callV (M2 := mm_B_countElements) (av := [.int 0]) (rest := []) 67 (by decide +kernel) ml_D_79 (Nat.le_refl _) rfl rfl (by first | exact Nat.le_of_ble_eq_true rfl | simp [sm_rfc, Value.category]) rfl hf ?_
    rintro r4 h3 ⟨z5, rfl, hf⟩
    change sm_W N (d + 1) mm_D_read 67 [(0, .ref x0), (3, .ref x3), (4, .int x4)] [.int z5] h3 Q
    refine sm_goto (off := 4) 71 (by decide +kernel) (by decide) ?_
    exact sm_iret rfl (by decide +kernel) hf
theorem cD_read {N d : Nat} {h : sm_H} {Q : Option Value → sm_H → Prop} {x0 : Nat} {x1 : Int32} {x2 : Int32} (hb : ∃ fs, h[x0]? = some (.inr (4, fs))) (hf : fD_read_0 N d h Q x0 x1 x2) : sm_V N (d + 1) mm_D_read 4 x0 [.int x1, .int x2] h Q := ⟨hb, sm_meth (by decide +kernel) (fun _ => Nat.le_of_ble_eq_true rfl) (fun _ => rfl) (kD_read_0 hf)⟩
def fD_change_0 (N d : Nat) (h : sm_H) (Q : Option Value → sm_H → Prop) (x0 : Nat) (x1 : Int32) : Prop := sm_V N d mm_D_tapeHas 4 x0 [.int x1] h (fun r2 h1 => ∃ z3 : Int32, r2 = some (.int z3) ∧ ((z3 = 0 → Q (some (.int (-2))) h1) ∧ (¬ z3 = 0 → ∃ z4 : Nat, sm_g h1 x0 4 2 = some (.ref z4) ∧ ∃ z5 : Nat, sm_g h1 x0 4 0 = some (.ref z5) ∧ sm_V N d mm_K_isDocument 1 z4 [.ref z5, .int x1] h1 (fun r7 h6 => ∃ z8 : Int32, r7 = some (.int z8) ∧ ((z8 = 0 → sm_W N (d + 1) mm_D_change 43 [(0, .ref x0), (2, .int z8)] [] h6 Q) ∧ (¬ z8 = 0 → ∃ z9 : Nat, sm_g h6 x0 4 3 = some (.ref z9) ∧ ∃ z10 : Nat, sm_g h6 z9 3 0 = some (.ref z10) ∧ ∃ z11 : Nat, sm_g h6 x0 4 0 = some (.ref z11) ∧ sm_V N d mm_B_become 0 z10 [.ref z11, .int x1] h6 (fun r13 h12 => r13 = none ∧ sm_W N (d + 1) mm_D_change 43 [(0, .ref x0), (2, .int z8)] [] h12 Q)))))))
set_option maxRecDepth 20000 in
set_option maxHeartbeats 4000000 in
theorem kD_change_0 {N d : Nat} {h : sm_H} {Q : Option Value → sm_H → Prop} {x0 : Nat} {x1 : Int32} (hf : fD_change_0 N d h Q x0 x1) : sm_W N (d + 1) mm_D_change 0 [(0, .ref x0), (1, .int x1)] [] h Q := by
  unfold fD_change_0 at hf
  refine sm_aload_n (k := 0) 1 0 (by decide +kernel) rfl rfl rfl ?_
  refine sm_iload_n (k := 1) 2 1 (by decide +kernel) rfl rfl rfl ?_
  refine sm_callV (M2 := mm_D_tapeHas) (av := [.int x1]) (rest := []) 5 (by decide +kernel) ml_D_67 (Nat.le_refl _) rfl rfl (by first | exact Nat.le_of_ble_eq_true rfl | simp [sm_rfc, Value.category]) rfl hf ?_
  rintro r2 h1 ⟨z3, rfl, hf⟩
  change sm_W N (d + 1) mm_D_change 5 [(0, .ref x0), (1, .int x1)] [.int z3] h1 Q
  refine sm_if_ne (off := 6) 8 11 (by decide +kernel) (by decide) rfl (fun q15 => ?_) (fun q15 => ?_)
  · have hf := hf.2 q15
    refine sm_aload_n (k := 0) 12 0 (by decide +kernel) rfl rfl rfl ?_
    obtain ⟨z4, ez4, hf⟩ := hf
    refine sm_get 15 (by decide +kernel) fl_D_25 ez4 rfl ?_
    refine sm_aload_n (k := 0) 16 0 (by decide +kernel) rfl rfl rfl ?_
    obtain ⟨z5, ez5, hf⟩ := hf
    refine sm_get 19 (by decide +kernel) fl_D_14 ez5 rfl ?_
    refine sm_iload_n (k := 1) 20 1 (by decide +kernel) rfl rfl rfl ?_
    refine sm_callV (M2 := mm_K_isDocument) (av := [.ref z5, .int x1]) (rest := []) 23 (by decide +kernel) ml_D_71 (Nat.le_refl _) rfl rfl (by first | exact Nat.le_of_ble_eq_true rfl | simp [sm_rfc, Value.category]) rfl hf ?_
    rintro r7 h6 ⟨z8, rfl, hf⟩
    change sm_W N (d + 1) mm_D_change 23 [(0, .ref x0), (1, .int x1)] [.int z8] h6 Q
    refine sm_istore_n (k := 2) 24 [(2, .int z8), (0, .ref x0), (1, .int x1)] (by decide +kernel) rfl (by decide) (by first | rfl | simp [sm_rfc]) rfl ?_
    refine sm_iload_n (k := 2) 25 0 (by decide +kernel) rfl rfl rfl ?_
    refine sm_if_eq (off := 18) 28 43 (by decide +kernel) (by decide) rfl (fun q14 => ?_) (fun q14 => ?_)
    · have hf := hf.1 q14
      exact sm_sub [1, 0] rfl hf
    · have hf := hf.2 q14
      refine sm_aload_n (k := 0) 29 1 (by decide +kernel) rfl rfl rfl ?_
      obtain ⟨z9, ez9, hf⟩ := hf
      refine sm_get 32 (by decide +kernel) fl_D_32 ez9 rfl ?_
      obtain ⟨z10, ez10, hf⟩ := hf
      refine sm_get 35 (by decide +kernel) fl_D_83 ez10 rfl ?_
      refine sm_aload_n (k := 0) 36 1 (by decide +kernel) rfl rfl rfl ?_
      obtain ⟨z11, ez11, hf⟩ := hf
      refine sm_get 39 (by decide +kernel) fl_D_14 ez11 rfl ?_
      refine sm_iload_n (k := 1) 40 2 (by decide +kernel) rfl rfl rfl ?_
      refine sm_callV (M2 := mm_B_become) (av := [.ref z11, .int x1]) (rest := []) 43 (by decide +kernel) ml_D_75 (Nat.le_refl _) rfl rfl (by first | exact Nat.le_of_ble_eq_true rfl | simp [sm_rfc, Value.category]) rfl hf ?_
      rintro r13 h12 ⟨rfl, hf⟩
      change sm_W N (d + 1) mm_D_change 43 [(2, .int z8), (0, .ref x0), (1, .int x1)] [] h12 Q
      exact sm_sub [1, 0] rfl hf
  · have hf := hf.1 q15
    refine sm_bipush (i := -2) (x := (-2)) 10 (by decide +kernel) (by decide) rfl ?_
    exact sm_iret rfl (by decide +kernel) hf
def fD_change_43 (N d : Nat) (h : sm_H) (Q : Option Value → sm_H → Prop) (x0 : Nat) (x2 : Int32) : Prop := ∃ z1 : Nat, sm_g h x0 4 0 = some (.ref z1) ∧ ∃ h2, sm_p h z1 0 1 (.int 0) = some h2 ∧ ∃ h3, sm_p h2 x0 4 5 (.int 0) = some h3 ∧ ((x2 = 0 → Q (some (.int (-1))) h3) ∧ (¬ x2 = 0 → ∃ z4 : Nat, sm_g h3 x0 4 3 = some (.ref z4) ∧ sm_V N d mm_P_study 3 z4 [] h3 (fun r6 h5 => ∃ z7 : Int32, r6 = some (.int z7) ∧ ((z7 = 0 → ∃ h8, sm_p h5 x0 4 5 (.int 1) = some h8 ∧ ∃ z9 : Nat, sm_g h8 x0 4 3 = some (.ref z9) ∧ ∃ z10 : Int32, sm_g h8 z9 3 5 = some (.int z10) ∧ Q (some (.int z10)) h8) ∧ (¬ z7 = 0 → ∃ z11 : Nat, sm_g h5 x0 4 3 = some (.ref z11) ∧ ∃ z12 : Int32, sm_g h5 z11 3 6 = some (.int z12) ∧ ∃ h13, sm_p h5 x0 4 6 (.int z12) = some h13 ∧ ∃ z14 : Nat, sm_g h13 x0 4 3 = some (.ref z14) ∧ ∃ z15 : Int32, sm_g h13 z14 3 7 = some (.int z15) ∧ ∃ h16, sm_p h13 x0 4 7 (.int z15) = some h16 ∧ Q (some (.int (z7 - 10))) h16)))))
set_option maxRecDepth 20000 in
set_option maxHeartbeats 4000000 in
theorem kD_change_43 {N d : Nat} {h : sm_H} {Q : Option Value → sm_H → Prop} {x0 : Nat} {x2 : Int32} (hf : fD_change_43 N d h Q x0 x2) : sm_W N (d + 1) mm_D_change 43 [(0, .ref x0), (2, .int x2)] [] h Q := by
  unfold fD_change_43 at hf
  refine sm_aload_n (k := 0) 44 0 (by decide +kernel) rfl rfl rfl ?_
  obtain ⟨z1, ez1, hf⟩ := hf
  refine sm_get 47 (by decide +kernel) fl_D_14 ez1 rfl ?_
  refine sm_iconst (i := 0) (x := 0) 48 (by decide +kernel) rfl rfl ?_
  obtain ⟨h2, eh2, hf⟩ := hf
  refine sm_put (ty := .int) 51 (by decide +kernel) fp_D_57 (fun _ => rfl) rfl rfl eh2 rfl ?_
  refine sm_aload_n (k := 0) 52 0 (by decide +kernel) rfl rfl rfl ?_
  refine sm_iconst (i := 0) (x := 0) 53 (by decide +kernel) rfl rfl ?_
  obtain ⟨h3, eh3, hf⟩ := hf
  refine sm_put (ty := .boolean) 56 (by decide +kernel) fp_D_43 (fun _ => rfl) rfl rfl eh3 rfl ?_
  refine sm_iload_n (k := 2) 57 1 (by decide +kernel) rfl rfl rfl ?_
  refine sm_if_ne (off := 5) 60 62 (by decide +kernel) (by decide) rfl (fun q18 => ?_) (fun q18 => ?_)
  · have hf := hf.2 q18
    refine sm_aload_n (k := 0) 63 0 (by decide +kernel) rfl rfl rfl ?_
    obtain ⟨z4, ez4, hf⟩ := hf
    refine sm_get 66 (by decide +kernel) fl_D_32 ez4 rfl ?_
    refine sm_callV (M2 := mm_P_study) (av := []) (rest := []) 69 (by decide +kernel) ml_D_86 (Nat.le_refl _) rfl rfl (by first | exact Nat.le_of_ble_eq_true rfl | simp [sm_rfc, Value.category]) rfl hf ?_
    rintro r6 h5 ⟨z7, rfl, hf⟩
    change sm_W N (d + 1) mm_D_change 69 [(0, .ref x0), (2, .int x2)] [.int z7] h5 Q
    refine sm_istore_n (k := 3) 70 [(3, .int z7), (0, .ref x0), (2, .int x2)] (by decide +kernel) rfl (by decide) (by first | rfl | simp [sm_rfc]) rfl ?_
    refine sm_iload_n (k := 3) 71 0 (by decide +kernel) rfl rfl rfl ?_
    refine sm_if_eq (off := 30) 74 101 (by decide +kernel) (by decide) rfl (fun q17 => ?_) (fun q17 => ?_)
    · have hf := hf.1 q17
      refine sm_aload_n (k := 0) 102 1 (by decide +kernel) rfl rfl rfl ?_
      refine sm_iconst (i := 1) (x := 1) 103 (by decide +kernel) rfl rfl ?_
      obtain ⟨h8, eh8, hf⟩ := hf
      refine sm_put (ty := .boolean) 106 (by decide +kernel) fp_D_43 (fun _ => rfl) rfl rfl eh8 rfl ?_
      refine sm_aload_n (k := 0) 107 1 (by decide +kernel) rfl rfl rfl ?_
      obtain ⟨z9, ez9, hf⟩ := hf
      refine sm_get 110 (by decide +kernel) fl_D_32 ez9 rfl ?_
      obtain ⟨z10, ez10, hf⟩ := hf
      refine sm_get 113 (by decide +kernel) fl_D_96 ez10 rfl ?_
      exact sm_iret rfl (by decide +kernel) hf
    · have hf := hf.2 q17
      refine sm_aload_n (k := 0) 75 1 (by decide +kernel) rfl rfl rfl ?_
      refine sm_aload_n (k := 0) 76 1 (by decide +kernel) rfl rfl rfl ?_
      obtain ⟨z11, ez11, hf⟩ := hf
      refine sm_get 79 (by decide +kernel) fl_D_32 ez11 rfl ?_
      obtain ⟨z12, ez12, hf⟩ := hf
      refine sm_get 82 (by decide +kernel) fl_D_90 ez12 rfl ?_
      obtain ⟨h13, eh13, hf⟩ := hf
      refine sm_put (ty := .int) 85 (by decide +kernel) fp_D_47 (fun _ => rfl) rfl rfl eh13 rfl ?_
      refine sm_aload_n (k := 0) 86 1 (by decide +kernel) rfl rfl rfl ?_
      refine sm_aload_n (k := 0) 87 1 (by decide +kernel) rfl rfl rfl ?_
      obtain ⟨z14, ez14, hf⟩ := hf
      refine sm_get 90 (by decide +kernel) fl_D_32 ez14 rfl ?_
      obtain ⟨z15, ez15, hf⟩ := hf
      refine sm_get 93 (by decide +kernel) fl_D_93 ez15 rfl ?_
      obtain ⟨h16, eh16, hf⟩ := hf
      refine sm_put (ty := .int) 96 (by decide +kernel) fp_D_51 (fun _ => rfl) rfl rfl eh16 rfl ?_
      refine sm_iload_n (k := 3) 97 0 (by decide +kernel) rfl rfl rfl ?_
      refine sm_bipush (i := 10) (x := 10) 99 (by decide +kernel) (by decide) rfl ?_
      refine sm_isub 100 (by decide +kernel) rfl ?_
      exact sm_iret rfl (by decide +kernel) hf
  · have hf := hf.1 q18
    refine sm_iconst (i := -1) (x := (-1)) 61 (by decide +kernel) rfl rfl ?_
    exact sm_iret rfl (by decide +kernel) hf
theorem cD_change {N d : Nat} {h : sm_H} {Q : Option Value → sm_H → Prop} {x0 : Nat} {x1 : Int32} (hb : ∃ fs, h[x0]? = some (.inr (4, fs))) (hf : fD_change_0 N d h Q x0 x1) : sm_V N (d + 1) mm_D_change 4 x0 [.int x1] h Q := ⟨hb, sm_meth (by decide +kernel) (fun _ => Nat.le_of_ble_eq_true rfl) (fun _ => rfl) (kD_change_0 hf)⟩
def fD_apply_0 (N d : Nat) (h : sm_H) (Q : Option Value → sm_H → Prop) (x0 : Nat) (x1 : Int32) : Prop := sm_V N d mm_D_slotOf 4 x0 [.int x1] h (fun r2 h1 => ∃ z3 : Option Nat, r2 = some (va_rf z3) ∧ ((z3 = none → Q (some (.int (-1))) h1) ∧ (∀ a4 : Nat, z3 = some a4 → ∃ z5 : Int32, sm_g h1 x0 4 5 = some (.int z5) ∧ ((z5 = 0 → Q (some (.int (-2))) h1) ∧ (¬ z5 = 0 → ∃ z6 : Nat, sm_g h1 x0 4 4 = some (.ref z6) ∧ ∃ z7 : Nat, sm_g h1 z6 2 0 = some (.ref z7) ∧ ∃ z8 : Int32, sm_g h1 a4 0 1 = some (.int z8) ∧ sm_V N d mm_B_become 0 z7 [.ref a4, .int z8] h1 (fun r10 h9 => r10 = none ∧ ∃ z11 : Nat, sm_g h9 x0 4 4 = some (.ref z11) ∧ ∃ z12 : Nat, sm_g h9 x0 4 3 = some (.ref z12) ∧ sm_V N d mm_E_perform 2 z11 [.ref z12] h9 (fun r14 h13 => ∃ z15 : Int32, r14 = some (.int z15) ∧ ((0 ≤ z15 → ∃ z16 : Nat, sm_g h13 x0 4 4 = some (.ref z16) ∧ ∃ z17 : Nat, sm_g h13 z16 2 0 = some (.ref z17) ∧ ∃ z18 : Nat, sm_g h13 x0 4 4 = some (.ref z18) ∧ ∃ z19 : Nat, sm_g h13 z18 2 0 = some (.ref z19) ∧ ∃ z20 : Int32, sm_g h13 z19 0 1 = some (.int z20) ∧ sm_V N d mm_B_become 0 a4 [.ref z17, .int z20] h13 (fun r22 h21 => r22 = none ∧ Q (some (.int z15)) h21)) ∧ (¬ 0 ≤ z15 → ∃ z23 : Nat, sm_g h13 x0 4 3 = some (.ref z23) ∧ ∃ z24 : Nat, sm_g h13 x0 4 4 = some (.ref z24) ∧ ∃ z25 : Int32, sm_g h13 z24 2 11 = some (.int z25) ∧ sm_V N d mm_P_operatorOf 3 z23 [.int z25] h13 (fun r27 h26 => ∃ z28 : Int32, r27 = some (.int z28) ∧ ∃ h29, sm_p h26 x0 4 6 (.int z28) = some h29 ∧ ∃ z30 : Nat, sm_g h29 x0 4 3 = some (.ref z30) ∧ ∃ z31 : Nat, sm_g h29 x0 4 4 = some (.ref z31) ∧ ∃ z32 : Int32, sm_g h29 z31 2 11 = some (.int z32) ∧ sm_V N d mm_P_numberOf 3 z30 [.int z32] h29 (fun r34 h33 => ∃ z35 : Int32, r34 = some (.int z35) ∧ ∃ h36, sm_p h33 x0 4 7 (.int z35) = some h36 ∧ Q (some (.int ((-z15) - 20))) h36)))))))))))
set_option maxRecDepth 20000 in
set_option maxHeartbeats 4000000 in
theorem kD_apply_0 {N d : Nat} {h : sm_H} {Q : Option Value → sm_H → Prop} {x0 : Nat} {x1 : Int32} (hf : fD_apply_0 N d h Q x0 x1) : sm_W N (d + 1) mm_D_apply 0 [(0, .ref x0), (1, .int x1)] [] h Q := by
  unfold fD_apply_0 at hf
  refine sm_aload_n (k := 0) 1 0 (by decide +kernel) rfl rfl rfl ?_
  refine sm_iload_n (k := 1) 2 1 (by decide +kernel) rfl rfl rfl ?_
  refine sm_callV (M2 := mm_D_slotOf) (av := [.int x1]) (rest := []) 5 (by decide +kernel) ml_D_63 (Nat.le_refl _) rfl rfl (by first | exact Nat.le_of_ble_eq_true rfl | simp [sm_rfc, Value.category]) rfl hf ?_
  rintro r2 h1 ⟨z3, rfl, hf⟩
  change sm_W N (d + 1) mm_D_apply 5 [(0, .ref x0), (1, .int x1)] [va_rf z3] h1 Q
  refine sm_astore_nQ (k := 2) 6 [(2, va_rf z3), (0, .ref x0), (1, .int x1)] (by decide +kernel) rfl (by decide) (by first | rfl | simp [sm_rfc]) rfl ?_
  refine sm_aload_nQ (k := 2) 7 0 (by decide +kernel) rfl rfl rfl ?_
  rcases z3 with _ | a4
  · have hf := hf.1 rfl
    change sm_W N (d + 1) mm_D_apply 7 [(2, .null), (0, .ref x0), (1, .int x1)] (.null :: []) h1 Q
    refine sm_ifnonnullN (off := 5) 10 (by decide +kernel) rfl ?_
    refine sm_iconst (i := -1) (x := (-1)) 11 (by decide +kernel) rfl rfl ?_
    exact sm_iret rfl (by decide +kernel) hf
  · have hf := hf.2 a4 rfl
    change sm_W N (d + 1) mm_D_apply 7 [(2, .ref a4), (0, .ref x0), (1, .int x1)] (.ref a4 :: []) h1 Q
    refine sm_ifnonnull (off := 5) 12 (by decide +kernel) (by decide) ?_
    refine sm_aload_n (k := 0) 13 1 (by decide +kernel) rfl rfl rfl ?_
    obtain ⟨z5, ez5, hf⟩ := hf
    refine sm_get 16 (by decide +kernel) fl_D_43 ez5 rfl ?_
    refine sm_if_ne (off := 6) 19 22 (by decide +kernel) (by decide) rfl (fun q38 => ?_) (fun q38 => ?_)
    · have hf := hf.2 q38
      refine sm_aload_n (k := 0) 23 1 (by decide +kernel) rfl rfl rfl ?_
      obtain ⟨z6, ez6, hf⟩ := hf
      refine sm_get 26 (by decide +kernel) fl_D_39 ez6 rfl ?_
      obtain ⟨z7, ez7, hf⟩ := hf
      refine sm_get 29 (by decide +kernel) fl_D_99 ez7 rfl ?_
      refine sm_aload_n (k := 2) 30 0 (by decide +kernel) rfl rfl rfl ?_
      refine sm_aload_n (k := 2) 31 0 (by decide +kernel) rfl rfl rfl ?_
      obtain ⟨z8, ez8, hf⟩ := hf
      refine sm_get 34 (by decide +kernel) fl_D_57 ez8 rfl ?_
      refine sm_callV (M2 := mm_B_become) (av := [.ref a4, .int z8]) (rest := []) 37 (by decide +kernel) ml_D_75 (Nat.le_refl _) rfl rfl (by first | exact Nat.le_of_ble_eq_true rfl | simp [sm_rfc, Value.category]) rfl hf ?_
      rintro r10 h9 ⟨rfl, hf⟩
      change sm_W N (d + 1) mm_D_apply 37 [(2, .ref a4), (0, .ref x0), (1, .int x1)] [] h9 Q
      refine sm_aload_n (k := 0) 38 1 (by decide +kernel) rfl rfl rfl ?_
      obtain ⟨z11, ez11, hf⟩ := hf
      refine sm_get 41 (by decide +kernel) fl_D_39 ez11 rfl ?_
      refine sm_aload_n (k := 0) 42 1 (by decide +kernel) rfl rfl rfl ?_
      obtain ⟨z12, ez12, hf⟩ := hf
      refine sm_get 45 (by decide +kernel) fl_D_32 ez12 rfl ?_
      refine sm_callV (M2 := mm_E_perform) (av := [.ref z12]) (rest := []) 48 (by decide +kernel) ml_D_102 (Nat.le_refl _) rfl rfl (by first | exact Nat.le_of_ble_eq_true rfl | simp [sm_rfc, Value.category]) rfl hf ?_
      rintro r14 h13 ⟨z15, rfl, hf⟩
      change sm_W N (d + 1) mm_D_apply 48 [(2, .ref a4), (0, .ref x0), (1, .int x1)] [.int z15] h13 Q
      refine sm_istore_n (k := 3) 49 [(3, .int z15), (2, .ref a4), (0, .ref x0), (1, .int x1)] (by decide +kernel) rfl (by decide) (by first | rfl | simp [sm_rfc]) rfl ?_
      refine sm_iload_n (k := 3) 50 0 (by decide +kernel) rfl rfl rfl ?_
      refine sm_if_ge (off := 45) 53 95 (by decide +kernel) (by decide) rfl (fun q37 => ?_) (fun q37 => ?_)
      · have hf := hf.1 q37
        refine sm_aload_n (k := 2) 96 1 (by decide +kernel) rfl rfl rfl ?_
        refine sm_aload_n (k := 0) 97 2 (by decide +kernel) rfl rfl rfl ?_
        obtain ⟨z16, ez16, hf⟩ := hf
        refine sm_get 100 (by decide +kernel) fl_D_39 ez16 rfl ?_
        obtain ⟨z17, ez17, hf⟩ := hf
        refine sm_get 103 (by decide +kernel) fl_D_99 ez17 rfl ?_
        refine sm_aload_n (k := 0) 104 2 (by decide +kernel) rfl rfl rfl ?_
        obtain ⟨z18, ez18, hf⟩ := hf
        refine sm_get 107 (by decide +kernel) fl_D_39 ez18 rfl ?_
        obtain ⟨z19, ez19, hf⟩ := hf
        refine sm_get 110 (by decide +kernel) fl_D_99 ez19 rfl ?_
        obtain ⟨z20, ez20, hf⟩ := hf
        refine sm_get 113 (by decide +kernel) fl_D_57 ez20 rfl ?_
        refine sm_callV (M2 := mm_B_become) (av := [.ref z17, .int z20]) (rest := []) 116 (by decide +kernel) ml_D_75 (Nat.le_refl _) rfl rfl (by first | exact Nat.le_of_ble_eq_true rfl | simp [sm_rfc, Value.category]) rfl hf ?_
        rintro r22 h21 ⟨rfl, hf⟩
        change sm_W N (d + 1) mm_D_apply 116 [(3, .int z15), (2, .ref a4), (0, .ref x0), (1, .int x1)] [] h21 Q
        refine sm_iload_n (k := 3) 117 0 (by decide +kernel) rfl rfl rfl ?_
        exact sm_iret rfl (by decide +kernel) hf
      · have hf := hf.2 q37
        refine sm_aload_n (k := 0) 54 2 (by decide +kernel) rfl rfl rfl ?_
        refine sm_aload_n (k := 0) 55 2 (by decide +kernel) rfl rfl rfl ?_
        obtain ⟨z23, ez23, hf⟩ := hf
        refine sm_get 58 (by decide +kernel) fl_D_32 ez23 rfl ?_
        refine sm_aload_n (k := 0) 59 2 (by decide +kernel) rfl rfl rfl ?_
        obtain ⟨z24, ez24, hf⟩ := hf
        refine sm_get 62 (by decide +kernel) fl_D_39 ez24 rfl ?_
        obtain ⟨z25, ez25, hf⟩ := hf
        refine sm_get 65 (by decide +kernel) fl_D_106 ez25 rfl ?_
        refine sm_callV (M2 := mm_P_operatorOf) (av := [.int z25]) (rest := [.ref x0]) 68 (by decide +kernel) ml_D_109 (Nat.le_refl _) rfl rfl (by first | exact Nat.le_of_ble_eq_true rfl | simp [sm_rfc, Value.category]) rfl hf ?_
        rintro r27 h26 ⟨z28, rfl, hf⟩
        change sm_W N (d + 1) mm_D_apply 68 [(3, .int z15), (2, .ref a4), (0, .ref x0), (1, .int x1)] [.int z28, .ref x0] h26 Q
        obtain ⟨h29, eh29, hf⟩ := hf
        refine sm_put (ty := .int) 71 (by decide +kernel) fp_D_47 (fun _ => rfl) rfl rfl eh29 rfl ?_
        refine sm_aload_n (k := 0) 72 2 (by decide +kernel) rfl rfl rfl ?_
        refine sm_aload_n (k := 0) 73 2 (by decide +kernel) rfl rfl rfl ?_
        obtain ⟨z30, ez30, hf⟩ := hf
        refine sm_get 76 (by decide +kernel) fl_D_32 ez30 rfl ?_
        refine sm_aload_n (k := 0) 77 2 (by decide +kernel) rfl rfl rfl ?_
        obtain ⟨z31, ez31, hf⟩ := hf
        refine sm_get 80 (by decide +kernel) fl_D_39 ez31 rfl ?_
        obtain ⟨z32, ez32, hf⟩ := hf
        refine sm_get 83 (by decide +kernel) fl_D_106 ez32 rfl ?_
        refine sm_callV (M2 := mm_P_numberOf) (av := [.int z32]) (rest := [.ref x0]) 86 (by decide +kernel) ml_D_112 (Nat.le_refl _) rfl rfl (by first | exact Nat.le_of_ble_eq_true rfl | simp [sm_rfc, Value.category]) rfl hf ?_
        rintro r34 h33 ⟨z35, rfl, hf⟩
        change sm_W N (d + 1) mm_D_apply 86 [(3, .int z15), (2, .ref a4), (0, .ref x0), (1, .int x1)] [.int z35, .ref x0] h33 Q
        obtain ⟨h36, eh36, hf⟩ := hf
        refine sm_put (ty := .int) 89 (by decide +kernel) fp_D_51 (fun _ => rfl) rfl rfl eh36 rfl ?_
        refine sm_iload_n (k := 3) 90 0 (by decide +kernel) rfl rfl rfl ?_
        refine sm_ineg 91 (by decide +kernel) rfl ?_
        refine sm_bipush (i := 20) (x := 20) 93 (by decide +kernel) (by decide) rfl ?_
        refine sm_isub 94 (by decide +kernel) rfl ?_
        exact sm_iret rfl (by decide +kernel) hf
    · have hf := hf.1 q38
      refine sm_bipush (i := -2) (x := (-2)) 21 (by decide +kernel) (by decide) rfl ?_
      exact sm_iret rfl (by decide +kernel) hf
theorem cD_apply {N d : Nat} {h : sm_H} {Q : Option Value → sm_H → Prop} {x0 : Nat} {x1 : Int32} (hb : ∃ fs, h[x0]? = some (.inr (4, fs))) (hf : fD_apply_0 N d h Q x0 x1) : sm_V N (d + 1) mm_D_apply 4 x0 [.int x1] h Q := ⟨hb, sm_meth (by decide +kernel) (fun _ => Nat.le_of_ble_eq_true rfl) (fun _ => rfl) (kD_apply_0 hf)⟩
def fD_place_0 (N d : Nat) (h : sm_H) (Q : Option Value → sm_H → Prop) (x0 : Nat) (x1 : Int32) : Prop := ((x1 = 0 → ∃ z3 : Int32, sm_g h x0 4 6 = some (.int z3) ∧ Q (some (.int z3)) h) ∧ (¬ x1 = 0 → ((x1 = 1 → ∃ z1 : Int32, sm_g h x0 4 7 = some (.int z1) ∧ Q (some (.int z1)) h) ∧ (¬ x1 = 1 → Q (some (.int (-1))) h))))
set_option maxRecDepth 20000 in
set_option maxHeartbeats 4000000 in
theorem kD_place_0 {N d : Nat} {h : sm_H} {Q : Option Value → sm_H → Prop} {x0 : Nat} {x1 : Int32} (hf : fD_place_0 N d h Q x0 x1) : sm_W N (d + 1) mm_D_place 0 [(0, .ref x0), (1, .int x1)] [] h Q := by
  unfold fD_place_0 at hf
  refine sm_iload_n (k := 1) 1 1 (by decide +kernel) rfl rfl rfl ?_
  refine sm_if_ne (off := 8) 4 9 (by decide +kernel) (by decide) rfl (fun q4 => ?_) (fun q4 => ?_)
  · have hf := hf.2 q4
    refine sm_iload_n (k := 1) 10 1 (by decide +kernel) rfl rfl rfl ?_
    refine sm_iconst (i := 1) (x := 1) 11 (by decide +kernel) rfl rfl ?_
    refine sm_icmp_ne (off := 10) 14 21 (by decide +kernel) (by decide) rfl (fun q2 => ?_) (fun q2 => ?_)
    · have hf := hf.2 q2
      refine sm_iconst (i := -1) (x := (-1)) 22 (by decide +kernel) rfl rfl ?_
      exact sm_iret rfl (by decide +kernel) hf
    · have hf := hf.1 q2
      refine sm_aload_n (k := 0) 15 0 (by decide +kernel) rfl rfl rfl ?_
      obtain ⟨z1, ez1, hf⟩ := hf
      refine sm_get 18 (by decide +kernel) fl_D_51 ez1 rfl ?_
      refine sm_goto (off := 4) 22 (by decide +kernel) (by decide) ?_
      exact sm_iret rfl (by decide +kernel) hf
  · have hf := hf.1 q4
    refine sm_aload_n (k := 0) 5 0 (by decide +kernel) rfl rfl rfl ?_
    obtain ⟨z3, ez3, hf⟩ := hf
    refine sm_get 8 (by decide +kernel) fl_D_47 ez3 rfl ?_
    exact sm_iret rfl (by decide +kernel) hf
theorem cD_place {N d : Nat} {h : sm_H} {Q : Option Value → sm_H → Prop} {x0 : Nat} {x1 : Int32} (hb : ∃ fs, h[x0]? = some (.inr (4, fs))) (hf : fD_place_0 N d h Q x0 x1) : sm_V N (d + 1) mm_D_place 4 x0 [.int x1] h Q := ⟨hb, sm_meth (by decide +kernel) (fun _ => Nat.le_of_ble_eq_true rfl) (fun _ => rfl) (kD_place_0 hf)⟩
def fD_many_0 (N d : Nat) (h : sm_H) (Q : Option Value → sm_H → Prop) (x0 : Nat) (x1 : Int32) (x2 : Int32) : Prop := sm_V N d mm_D_slotOf 4 x0 [.int x1] h (fun r2 h1 => ∃ z3 : Option Nat, r2 = some (va_rf z3) ∧ ((z3 = none → Q (some (.int (-1))) h1) ∧ (∀ a4 : Nat, z3 = some a4 → ((x2 = 0 → ∃ z5 : Int32, sm_g h1 a4 0 1 = some (.int z5) ∧ Q (some (.int z5)) h1) ∧ (x2 = 1 → sm_V N d mm_B_countElements 0 a4 [.int 0] h1 (fun r7 h6 => ∃ z8 : Int32, r7 = some (.int z8) ∧ Q (some (.int z8)) h6)) ∧ (x2 = 2 → sm_T N d mm_D_deepest [.ref a4, .int 0, .int 1] h1 (fun r10 h9 => ∃ z11 : Int32, r10 = some (.int z11) ∧ Q (some (.int z11)) h9)) ∧ ((¬ x2 = 0 ∧ ¬ x2 = 1 ∧ ¬ x2 = 2) → Q (some (.int (-1))) h1)))))
set_option maxRecDepth 20000 in
set_option maxHeartbeats 4000000 in
theorem kD_many_0 {N d : Nat} {h : sm_H} {Q : Option Value → sm_H → Prop} {x0 : Nat} {x1 : Int32} {x2 : Int32} (hf : fD_many_0 N d h Q x0 x1 x2) : sm_W N (d + 1) mm_D_many 0 [(0, .ref x0), (1, .int x1), (2, .int x2)] [] h Q := by
  unfold fD_many_0 at hf
  refine sm_aload_n (k := 0) 1 0 (by decide +kernel) rfl rfl rfl ?_
  refine sm_iload_n (k := 1) 2 1 (by decide +kernel) rfl rfl rfl ?_
  refine sm_callV (M2 := mm_D_slotOf) (av := [.int x1]) (rest := []) 5 (by decide +kernel) ml_D_63 (Nat.le_refl _) rfl rfl (by first | exact Nat.le_of_ble_eq_true rfl | simp [sm_rfc, Value.category]) rfl hf ?_
  rintro r2 h1 ⟨z3, rfl, hf⟩
  change sm_W N (d + 1) mm_D_many 5 [(0, .ref x0), (1, .int x1), (2, .int x2)] [va_rf z3] h1 Q
  refine sm_astore_nQ (k := 3) 6 [(3, va_rf z3), (0, .ref x0), (1, .int x1), (2, .int x2)] (by decide +kernel) rfl (by decide) (by first | rfl | simp [sm_rfc]) rfl ?_
  refine sm_aload_nQ (k := 3) 7 0 (by decide +kernel) rfl rfl rfl ?_
  rcases z3 with _ | a4
  · have hf := hf.1 rfl
    change sm_W N (d + 1) mm_D_many 7 [(3, .null), (0, .ref x0), (1, .int x1), (2, .int x2)] (.null :: []) h1 Q
    refine sm_ifnonnullN (off := 5) 10 (by decide +kernel) rfl ?_
    refine sm_iconst (i := -1) (x := (-1)) 11 (by decide +kernel) rfl rfl ?_
    exact sm_iret rfl (by decide +kernel) hf
  · have hf := hf.2 a4 rfl
    change sm_W N (d + 1) mm_D_many 7 [(3, .ref a4), (0, .ref x0), (1, .int x1), (2, .int x2)] (.ref a4 :: []) h1 Q
    refine sm_ifnonnull (off := 5) 12 (by decide +kernel) (by decide) ?_
    refine sm_iload_n (k := 2) 13 3 (by decide +kernel) rfl rfl rfl ?_
    by_cases g0 : x2 = 0
    · refine sm_tabIn (dflt := 45) (lo := 0) (hi := 2) (offs := #[27, 32, 38]) (len := 27) (off := 27) 40 (by decide +kernel) (by rw [g0]; decide) (by rw [g0]; decide) (by rw [g0]; decide) (by decide) ?_
      have hf := hf.1 g0
      refine sm_aload_n (k := 3) 41 0 (by decide +kernel) rfl rfl rfl ?_
      obtain ⟨z5, ez5, hf⟩ := hf
      refine sm_get 44 (by decide +kernel) fl_D_57 ez5 rfl ?_
      exact sm_iret rfl (by decide +kernel) hf
    by_cases g1 : x2 = 1
    · refine sm_tabIn (dflt := 45) (lo := 0) (hi := 2) (offs := #[27, 32, 38]) (len := 27) (off := 32) 45 (by decide +kernel) (by rw [g1]; decide) (by rw [g1]; decide) (by rw [g1]; decide) (by decide) ?_
      have hf := hf.2.1 g1
      refine sm_aload_n (k := 3) 46 0 (by decide +kernel) rfl rfl rfl ?_
      refine sm_iconst (i := 0) (x := 0) 47 (by decide +kernel) rfl rfl ?_
      refine sm_callV (M2 := mm_B_countElements) (av := [.int 0]) (rest := []) 50 (by decide +kernel) ml_D_79 (Nat.le_refl _) rfl rfl (by first | exact Nat.le_of_ble_eq_true rfl | simp [sm_rfc, Value.category]) rfl hf ?_
      rintro r7 h6 ⟨z8, rfl, hf⟩
      change sm_W N (d + 1) mm_D_many 50 [(3, .ref a4), (0, .ref x0), (1, .int x1), (2, .int x2)] [.int z8] h6 Q
      exact sm_iret rfl (by decide +kernel) hf
    by_cases g2 : x2 = 2
    · refine sm_tabIn (dflt := 45) (lo := 0) (hi := 2) (offs := #[27, 32, 38]) (len := 27) (off := 38) 51 (by decide +kernel) (by rw [g2]; decide) (by rw [g2]; decide) (by rw [g2]; decide) (by decide) ?_
      have hf := hf.2.2.1 g2
      refine sm_aload_n (k := 3) 52 0 (by decide +kernel) rfl rfl rfl ?_
      refine sm_iconst (i := 0) (x := 0) 53 (by decide +kernel) rfl rfl ?_
      refine sm_iconst (i := 1) (x := 1) 54 (by decide +kernel) rfl rfl ?_
      refine sm_callS (M2 := mm_D_deepest) (av := [.ref a4, .int 0, .int 1]) (rest := []) 57 (by decide +kernel) ml_D_115 (Nat.le_refl _) rfl rfl (by first | exact Nat.le_of_ble_eq_true rfl | simp [sm_rfc, Value.category]) rfl hf ?_
      rintro r10 h9 ⟨z11, rfl, hf⟩
      change sm_W N (d + 1) mm_D_many 57 [(3, .ref a4), (0, .ref x0), (1, .int x1), (2, .int x2)] [.int z11] h9 Q
      exact sm_iret rfl (by decide +kernel) hf
    have gout : x2.toInt < 0 ∨ 2 < x2.toInt := sm_out (fun v a1 a2 => by
      rcases sm_iv0_2 a1 a2 with rfl | rfl | rfl
      · exact sm_ne 0 (by decide) g0
      · exact sm_ne 1 (by decide) g1
      · exact sm_ne 2 (by decide) g2
      )
    refine sm_tabOut (dflt := 45) (lo := 0) (hi := 2) (offs := #[27, 32, 38]) (len := 27) 58 (by decide +kernel) gout (by decide) ?_
    have hf := hf.2.2.2 ⟨g0, g1, g2⟩
    refine sm_iconst (i := -1) (x := (-1)) 59 (by decide +kernel) rfl rfl ?_
    exact sm_iret rfl (by decide +kernel) hf
theorem cD_many {N d : Nat} {h : sm_H} {Q : Option Value → sm_H → Prop} {x0 : Nat} {x1 : Int32} {x2 : Int32} (hb : ∃ fs, h[x0]? = some (.inr (4, fs))) (hf : fD_many_0 N d h Q x0 x1 x2) : sm_V N (d + 1) mm_D_many 4 x0 [.int x1, .int x2] h Q := ⟨hb, sm_meth (by decide +kernel) (fun _ => Nat.le_of_ble_eq_true rfl) (fun _ => rfl) (kD_many_0 hf)⟩
def fD_byteAt_0 (N d : Nat) (h : sm_H) (Q : Option Value → sm_H → Prop) (x0 : Nat) (x1 : Int32) (x2 : Int32) : Prop := sm_V N d mm_D_slotOf 4 x0 [.int x1] h (fun r2 h1 => ∃ z3 : Option Nat, r2 = some (va_rf z3) ∧ ((z3 = none → Q (some (.int (-1))) h1) ∧ (∀ a4 : Nat, z3 = some a4 → ((x2 < 0 → Q (some (.int (-1))) h1) ∧ (¬ x2 < 0 → ∃ z5 : Int32, sm_g h1 a4 0 1 = some (.int z5) ∧ ((x2 < z5 → sm_V N d mm_B_at 0 a4 [.int x2] h1 (fun r7 h6 => ∃ z8 : Int32, r7 = some (.int z8) ∧ Q (some (.int z8)) h6)) ∧ (¬ x2 < z5 → Q (some (.int (-1))) h1)))))))
set_option maxRecDepth 20000 in
set_option maxHeartbeats 4000000 in
theorem kD_byteAt_0 {N d : Nat} {h : sm_H} {Q : Option Value → sm_H → Prop} {x0 : Nat} {x1 : Int32} {x2 : Int32} (hf : fD_byteAt_0 N d h Q x0 x1 x2) : sm_W N (d + 1) mm_D_byteAt 0 [(0, .ref x0), (1, .int x1), (2, .int x2)] [] h Q := by
  unfold fD_byteAt_0 at hf
  refine sm_aload_n (k := 0) 1 0 (by decide +kernel) rfl rfl rfl ?_
  refine sm_iload_n (k := 1) 2 1 (by decide +kernel) rfl rfl rfl ?_
  refine sm_callV (M2 := mm_D_slotOf) (av := [.int x1]) (rest := []) 5 (by decide +kernel) ml_D_63 (Nat.le_refl _) rfl rfl (by first | exact Nat.le_of_ble_eq_true rfl | simp [sm_rfc, Value.category]) rfl hf ?_
  rintro r2 h1 ⟨z3, rfl, hf⟩
  change sm_W N (d + 1) mm_D_byteAt 5 [(0, .ref x0), (1, .int x1), (2, .int x2)] [va_rf z3] h1 Q
  refine sm_astore_nQ (k := 3) 6 [(3, va_rf z3), (0, .ref x0), (1, .int x1), (2, .int x2)] (by decide +kernel) rfl (by decide) (by first | rfl | simp [sm_rfc]) rfl ?_
  refine sm_aload_nQ (k := 3) 7 0 (by decide +kernel) rfl rfl rfl ?_
  rcases z3 with _ | a4
  · have hf := hf.1 rfl
    change sm_W N (d + 1) mm_D_byteAt 7 [(3, .null), (0, .ref x0), (1, .int x1), (2, .int x2)] (.null :: []) h1 Q
    refine sm_ifnullN (off := 15) 22 (by decide +kernel) (by decide) ?_
    refine sm_iconst (i := -1) (x := (-1)) 23 (by decide +kernel) rfl rfl ?_
    exact sm_iret rfl (by decide +kernel) hf
  · have hf := hf.2 a4 rfl
    change sm_W N (d + 1) mm_D_byteAt 7 [(3, .ref a4), (0, .ref x0), (1, .int x1), (2, .int x2)] (.ref a4 :: []) h1 Q
    refine sm_ifnull (off := 15) 10 (by decide +kernel) rfl ?_
    refine sm_iload_n (k := 2) 11 3 (by decide +kernel) rfl rfl rfl ?_
    refine sm_if_lt (off := 11) 14 22 (by decide +kernel) (by decide) rfl (fun q10 => ?_) (fun q10 => ?_)
    · have hf := hf.1 q10
      refine sm_iconst (i := -1) (x := (-1)) 23 (by decide +kernel) rfl rfl ?_
      exact sm_iret rfl (by decide +kernel) hf
    · have hf := hf.2 q10
      refine sm_iload_n (k := 2) 15 3 (by decide +kernel) rfl rfl rfl ?_
      refine sm_aload_n (k := 3) 16 0 (by decide +kernel) rfl rfl rfl ?_
      obtain ⟨z5, ez5, hf⟩ := hf
      refine sm_get 19 (by decide +kernel) fl_D_57 ez5 rfl ?_
      refine sm_icmp_lt (off := 5) 22 24 (by decide +kernel) (by decide) rfl (fun q9 => ?_) (fun q9 => ?_)
      · have hf := hf.1 q9
        refine sm_aload_n (k := 3) 25 0 (by decide +kernel) rfl rfl rfl ?_
        refine sm_iload_n (k := 2) 26 3 (by decide +kernel) rfl rfl rfl ?_
        refine sm_callV (M2 := mm_B_at) (av := [.int x2]) (rest := []) 29 (by decide +kernel) ml_D_119 (Nat.le_refl _) rfl rfl (by first | exact Nat.le_of_ble_eq_true rfl | simp [sm_rfc, Value.category]) rfl hf ?_
        rintro r7 h6 ⟨z8, rfl, hf⟩
        change sm_W N (d + 1) mm_D_byteAt 29 [(3, .ref a4), (0, .ref x0), (1, .int x1), (2, .int x2)] [.int z8] h6 Q
        exact sm_iret rfl (by decide +kernel) hf
      · have hf := hf.2 q9
        refine sm_iconst (i := -1) (x := (-1)) 23 (by decide +kernel) rfl rfl ?_
        exact sm_iret rfl (by decide +kernel) hf
theorem cD_byteAt {N d : Nat} {h : sm_H} {Q : Option Value → sm_H → Prop} {x0 : Nat} {x1 : Int32} {x2 : Int32} (hb : ∃ fs, h[x0]? = some (.inr (4, fs))) (hf : fD_byteAt_0 N d h Q x0 x1 x2) : sm_V N (d + 1) mm_D_byteAt 4 x0 [.int x1, .int x2] h Q := ⟨hb, sm_meth (by decide +kernel) (fun _ => Nat.le_of_ble_eq_true rfl) (fun _ => rfl) (kD_byteAt_0 hf)⟩
def fD_copy_0 (N d : Nat) (h : sm_H) (Q : Option Value → sm_H → Prop) (x0 : Nat) (x1 : Int32) (x2 : Int32) : Prop := sm_V N d mm_D_slotOf 4 x0 [.int x1] h (fun r2 h1 => ∃ z3 : Option Nat, r2 = some (va_rf z3) ∧ sm_V N d mm_D_slotOf 4 x0 [.int x2] h1 (fun r5 h4 => ∃ z6 : Option Nat, r5 = some (va_rf z6) ∧ ((z3 = none → Q (some (.int 0)) h4) ∧ (∀ a7 : Nat, z3 = some a7 → ((z6 = none → Q (some (.int 0)) h4) ∧ (∀ a8 : Nat, z6 = some a8 → ∃ z9 : Int32, sm_g h4 a8 0 1 = some (.int z9) ∧ sm_V N d mm_B_become 0 a7 [.ref a8, .int z9] h4 (fun r11 h10 => r11 = none ∧ Q (some (.int 1)) h10)))))))
set_option maxRecDepth 20000 in
set_option maxHeartbeats 4000000 in
theorem kD_copy_0 {N d : Nat} {h : sm_H} {Q : Option Value → sm_H → Prop} {x0 : Nat} {x1 : Int32} {x2 : Int32} (hf : fD_copy_0 N d h Q x0 x1 x2) : sm_W N (d + 1) mm_D_copy 0 [(0, .ref x0), (1, .int x1), (2, .int x2)] [] h Q := by
  unfold fD_copy_0 at hf
  refine sm_aload_n (k := 0) 1 0 (by decide +kernel) rfl rfl rfl ?_
  refine sm_iload_n (k := 1) 2 1 (by decide +kernel) rfl rfl rfl ?_
  refine sm_callV (M2 := mm_D_slotOf) (av := [.int x1]) (rest := []) 5 (by decide +kernel) ml_D_63 (Nat.le_refl _) rfl rfl (by first | exact Nat.le_of_ble_eq_true rfl | simp [sm_rfc, Value.category]) rfl hf ?_
  rintro r2 h1 ⟨z3, rfl, hf⟩
  change sm_W N (d + 1) mm_D_copy 5 [(0, .ref x0), (1, .int x1), (2, .int x2)] [va_rf z3] h1 Q
  refine sm_astore_nQ (k := 3) 6 [(3, va_rf z3), (0, .ref x0), (1, .int x1), (2, .int x2)] (by decide +kernel) rfl (by decide) (by first | rfl | simp [sm_rfc]) rfl ?_
  refine sm_aload_n (k := 0) 7 1 (by decide +kernel) rfl rfl rfl ?_
  refine sm_iload_n (k := 2) 8 3 (by decide +kernel) rfl rfl rfl ?_
  refine sm_callV (M2 := mm_D_slotOf) (av := [.int x2]) (rest := []) 11 (by decide +kernel) ml_D_63 (Nat.le_refl _) rfl rfl (by first | exact Nat.le_of_ble_eq_true rfl | simp [sm_rfc, Value.category]) rfl hf ?_
  rintro r5 h4 ⟨z6, rfl, hf⟩
  change sm_W N (d + 1) mm_D_copy 11 [(3, va_rf z3), (0, .ref x0), (1, .int x1), (2, .int x2)] [va_rf z6] h4 Q
  refine sm_astoreQ (i := 4) 13 [(4, va_rf z6), (3, va_rf z3), (0, .ref x0), (1, .int x1), (2, .int x2)] (by decide +kernel) (by decide) (by first | rfl | simp [sm_rfc]) rfl ?_
  refine sm_aload_nQ (k := 3) 14 1 (by decide +kernel) rfl rfl rfl ?_
  rcases z3 with _ | a7
  · have hf := hf.1 rfl
    change sm_W N (d + 1) mm_D_copy 14 [(4, va_rf z6), (3, .null), (0, .ref x0), (1, .int x1), (2, .int x2)] (.null :: []) h4 Q
    refine sm_ifnullN (off := 8) 22 (by decide +kernel) (by decide) ?_
    refine sm_iconst (i := 0) (x := 0) 23 (by decide +kernel) rfl rfl ?_
    exact sm_zret rfl (by decide +kernel) (by decide) hf
  · have hf := hf.2 a7 rfl
    change sm_W N (d + 1) mm_D_copy 14 [(4, va_rf z6), (3, .ref a7), (0, .ref x0), (1, .int x1), (2, .int x2)] (.ref a7 :: []) h4 Q
    refine sm_ifnull (off := 8) 17 (by decide +kernel) rfl ?_
    refine sm_aloadQ (i := 4) 19 0 (by decide +kernel) rfl rfl ?_
    rcases z6 with _ | a8
    · have hf := hf.1 rfl
      change sm_W N (d + 1) mm_D_copy 19 [(4, .null), (3, .ref a7), (0, .ref x0), (1, .int x1), (2, .int x2)] (.null :: []) h4 Q
      refine sm_ifnonnullN (off := 5) 22 (by decide +kernel) rfl ?_
      refine sm_iconst (i := 0) (x := 0) 23 (by decide +kernel) rfl rfl ?_
      exact sm_zret rfl (by decide +kernel) (by decide) hf
    · have hf := hf.2 a8 rfl
      change sm_W N (d + 1) mm_D_copy 19 [(4, .ref a8), (3, .ref a7), (0, .ref x0), (1, .int x1), (2, .int x2)] (.ref a8 :: []) h4 Q
      refine sm_ifnonnull (off := 5) 24 (by decide +kernel) (by decide) ?_
      refine sm_aload_n (k := 3) 25 1 (by decide +kernel) rfl rfl rfl ?_
      refine sm_aload (i := 4) 27 0 (by decide +kernel) rfl rfl ?_
      refine sm_aload (i := 4) 29 0 (by decide +kernel) rfl rfl ?_
      obtain ⟨z9, ez9, hf⟩ := hf
      refine sm_get 32 (by decide +kernel) fl_D_57 ez9 rfl ?_
      refine sm_callV (M2 := mm_B_become) (av := [.ref a8, .int z9]) (rest := []) 35 (by decide +kernel) ml_D_75 (Nat.le_refl _) rfl rfl (by first | exact Nat.le_of_ble_eq_true rfl | simp [sm_rfc, Value.category]) rfl hf ?_
      rintro r11 h10 ⟨rfl, hf⟩
      change sm_W N (d + 1) mm_D_copy 35 [(4, .ref a8), (3, .ref a7), (0, .ref x0), (1, .int x1), (2, .int x2)] [] h10 Q
      refine sm_iconst (i := 1) (x := 1) 36 (by decide +kernel) rfl rfl ?_
      exact sm_zret rfl (by decide +kernel) (by decide) hf
theorem cD_copy {N d : Nat} {h : sm_H} {Q : Option Value → sm_H → Prop} {x0 : Nat} {x1 : Int32} {x2 : Int32} (hb : ∃ fs, h[x0]? = some (.inr (4, fs))) (hf : fD_copy_0 N d h Q x0 x1 x2) : sm_V N (d + 1) mm_D_copy 4 x0 [.int x1, .int x2] h Q := ⟨hb, sm_meth (by decide +kernel) (fun _ => Nat.le_of_ble_eq_true rfl) (fun _ => rfl) (kD_copy_0 hf)⟩
def fD_slotOf_0 (N d : Nat) (h : sm_H) (Q : Option Value → sm_H → Prop) (x0 : Nat) (x1 : Int32) : Prop := ((x1 < 0 → Q (some (.null)) h) ∧ (¬ x1 < 0 → ∃ z1 : Nat, sm_g h x0 4 1 = some (.ref z1) ∧ ∃ z2 : Int32, sm_n h z1 = some z2 ∧ ((z2 ≤ x1 → Q (some (.null)) h) ∧ (¬ z2 ≤ x1 → ∃ z3 : Nat, sm_g h x0 4 1 = some (.ref z3) ∧ ∃ z4 : Option Nat, sm_gq h z3 3 x1 = some z4 ∧ Q (some (va_rf z4)) h))))
set_option maxRecDepth 20000 in
set_option maxHeartbeats 4000000 in
theorem kD_slotOf_0 {N d : Nat} {h : sm_H} {Q : Option Value → sm_H → Prop} {x0 : Nat} {x1 : Int32} (hf : fD_slotOf_0 N d h Q x0 x1) : sm_W N (d + 1) mm_D_slotOf 0 [(0, .ref x0), (1, .int x1)] [] h Q := by
  unfold fD_slotOf_0 at hf
  refine sm_iload_n (k := 1) 1 1 (by decide +kernel) rfl rfl rfl ?_
  refine sm_if_lt (off := 21) 4 22 (by decide +kernel) (by decide) rfl (fun q6 => ?_) (fun q6 => ?_)
  · have hf := hf.1 q6
    refine sm_null 23 (by decide +kernel) rfl ?_
    exact sm_aret (C := "UpdateDesk$Bytes") rfl (Or.inl rfl) (by decide +kernel) hf
  · have hf := hf.2 q6
    refine sm_iload_n (k := 1) 5 1 (by decide +kernel) rfl rfl rfl ?_
    refine sm_aload_n (k := 0) 6 0 (by decide +kernel) rfl rfl rfl ?_
    obtain ⟨z1, ez1, hf⟩ := hf
    refine sm_get 9 (by decide +kernel) fl_D_18 ez1 rfl ?_
    obtain ⟨z2, ez2, hf⟩ := hf
    refine sm_alen 10 (by decide +kernel) ez2 rfl ?_
    refine sm_icmp_ge (off := 12) 13 22 (by decide +kernel) (by decide) rfl (fun q5 => ?_) (fun q5 => ?_)
    · have hf := hf.1 q5
      refine sm_null 23 (by decide +kernel) rfl ?_
      exact sm_aret (C := "UpdateDesk$Bytes") rfl (Or.inl rfl) (by decide +kernel) hf
    · have hf := hf.2 q5
      refine sm_aload_n (k := 0) 14 0 (by decide +kernel) rfl rfl rfl ?_
      obtain ⟨z3, ez3, hf⟩ := hf
      refine sm_get 17 (by decide +kernel) fl_D_18 ez3 rfl ?_
      refine sm_iload_n (k := 1) 18 1 (by decide +kernel) rfl rfl rfl ?_
      obtain ⟨z4, ez4, hf⟩ := hf
      refine sm_aald 19 (by decide +kernel) ez4 rfl ?_
      refine sm_goto (off := 4) 23 (by decide +kernel) (by decide) ?_
      exact sm_aret (C := "UpdateDesk$Bytes") rfl (sm_rfo _) (by decide +kernel) hf
theorem cD_slotOf {N d : Nat} {h : sm_H} {Q : Option Value → sm_H → Prop} {x0 : Nat} {x1 : Int32} (hb : ∃ fs, h[x0]? = some (.inr (4, fs))) (hf : fD_slotOf_0 N d h Q x0 x1) : sm_V N (d + 1) mm_D_slotOf 4 x0 [.int x1] h Q := ⟨hb, sm_meth (by decide +kernel) (fun _ => Nat.le_of_ble_eq_true rfl) (fun _ => rfl) (kD_slotOf_0 hf)⟩
def fD_tapeHas_0 (N d : Nat) (h : sm_H) (Q : Option Value → sm_H → Prop) (x0 : Nat) (x1 : Int32) : Prop := ((x1 < 0 → Q (some (.int 0)) h) ∧ (¬ x1 < 0 → ∃ z1 : Nat, sm_g h x0 4 0 = some (.ref z1) ∧ ∃ z2 : Int32, sm_g h z1 0 1 = some (.int z2) ∧ ((z2 < x1 → Q (some (.int 0)) h) ∧ (¬ z2 < x1 → Q (some (.int 1)) h))))
set_option maxRecDepth 20000 in
set_option maxHeartbeats 4000000 in
theorem kD_tapeHas_0 {N d : Nat} {h : sm_H} {Q : Option Value → sm_H → Prop} {x0 : Nat} {x1 : Int32} (hf : fD_tapeHas_0 N d h Q x0 x1) : sm_W N (d + 1) mm_D_tapeHas 0 [(0, .ref x0), (1, .int x1)] [] h Q := by
  unfold fD_tapeHas_0 at hf
  refine sm_iload_n (k := 1) 1 1 (by decide +kernel) rfl rfl rfl ?_
  refine sm_if_lt (off := 18) 4 19 (by decide +kernel) (by decide) rfl (fun q4 => ?_) (fun q4 => ?_)
  · have hf := hf.1 q4
    refine sm_iconst (i := 0) (x := 0) 20 (by decide +kernel) rfl rfl ?_
    exact sm_zret rfl (by decide +kernel) (by decide) hf
  · have hf := hf.2 q4
    refine sm_iload_n (k := 1) 5 1 (by decide +kernel) rfl rfl rfl ?_
    refine sm_aload_n (k := 0) 6 0 (by decide +kernel) rfl rfl rfl ?_
    obtain ⟨z1, ez1, hf⟩ := hf
    refine sm_get 9 (by decide +kernel) fl_D_14 ez1 rfl ?_
    obtain ⟨z2, ez2, hf⟩ := hf
    refine sm_get 12 (by decide +kernel) fl_D_57 ez2 rfl ?_
    refine sm_icmp_gt (off := 7) 15 19 (by decide +kernel) (by decide) rfl (fun q3 => ?_) (fun q3 => ?_)
    · have hf := hf.1 q3
      refine sm_iconst (i := 0) (x := 0) 20 (by decide +kernel) rfl rfl ?_
      exact sm_zret rfl (by decide +kernel) (by decide) hf
    · have hf := hf.2 q3
      refine sm_iconst (i := 1) (x := 1) 16 (by decide +kernel) rfl rfl ?_
      refine sm_goto (off := 4) 20 (by decide +kernel) (by decide) ?_
      exact sm_zret rfl (by decide +kernel) (by decide) hf
theorem cD_tapeHas {N d : Nat} {h : sm_H} {Q : Option Value → sm_H → Prop} {x0 : Nat} {x1 : Int32} (hb : ∃ fs, h[x0]? = some (.inr (4, fs))) (hf : fD_tapeHas_0 N d h Q x0 x1) : sm_V N (d + 1) mm_D_tapeHas 4 x0 [.int x1] h Q := ⟨hb, sm_meth (by decide +kernel) (fun _ => Nat.le_of_ble_eq_true rfl) (fun _ => rfl) (kD_tapeHas_0 hf)⟩
def fD_isHolder_0 (N d : Nat) (h : sm_H) (Q : Option Value → sm_H → Prop) (x0 : Int32) : Prop := ((x0 = 3 → sm_W N (d + 1) mm_D_isHolder 10 [] [] h Q) ∧ (¬ x0 = 3 → ((x0 = 4 → sm_W N (d + 1) mm_D_isHolder 10 [] [] h Q) ∧ (¬ x0 = 4 → Q (some (.int 0)) h))))
set_option maxRecDepth 20000 in
set_option maxHeartbeats 4000000 in
theorem kD_isHolder_0 {N d : Nat} {h : sm_H} {Q : Option Value → sm_H → Prop} {x0 : Int32} (hf : fD_isHolder_0 N d h Q x0) : sm_W N (d + 1) mm_D_isHolder 0 [(0, .int x0)] [] h Q := by
  unfold fD_isHolder_0 at hf
  refine sm_iload_n (k := 0) 1 0 (by decide +kernel) rfl rfl rfl ?_
  refine sm_iconst (i := 3) (x := 3) 2 (by decide +kernel) rfl rfl ?_
  refine sm_icmp_eq (off := 8) 5 10 (by decide +kernel) (by decide) rfl (fun q2 => ?_) (fun q2 => ?_)
  · have hf := hf.1 q2
    exact sm_sub [] rfl hf
  · have hf := hf.2 q2
    refine sm_iload_n (k := 0) 6 0 (by decide +kernel) rfl rfl rfl ?_
    refine sm_iconst (i := 4) (x := 4) 7 (by decide +kernel) rfl rfl ?_
    refine sm_icmp_ne (off := 7) 10 14 (by decide +kernel) (by decide) rfl (fun q1 => ?_) (fun q1 => ?_)
    · have hf := hf.2 q1
      refine sm_iconst (i := 0) (x := 0) 15 (by decide +kernel) rfl rfl ?_
      exact sm_zret rfl (by decide +kernel) (by decide) hf
    · have hf := hf.1 q1
      exact sm_sub [] rfl hf
def fD_isHolder_10 (N d : Nat) (h : sm_H) (Q : Option Value → sm_H → Prop)  : Prop := Q (some (.int 1)) h
set_option maxRecDepth 20000 in
set_option maxHeartbeats 4000000 in
theorem kD_isHolder_10 {N d : Nat} {h : sm_H} {Q : Option Value → sm_H → Prop}  (hf : fD_isHolder_10 N d h Q ) : sm_W N (d + 1) mm_D_isHolder 10 [] [] h Q := by
  unfold fD_isHolder_10 at hf
  refine sm_iconst (i := 1) (x := 1) 11 (by decide +kernel) rfl rfl ?_
  refine sm_goto (off := 4) 15 (by decide +kernel) (by decide) ?_
  exact sm_zret rfl (by decide +kernel) (by decide) hf
theorem cD_isHolder {N d : Nat} {h : sm_H} {Q : Option Value → sm_H → Prop} {x0 : Int32} (hf : fD_isHolder_0 N d h Q x0) : sm_T N (d + 1) mm_D_isHolder [.int x0] h Q := sm_meth (by decide +kernel) (fun _ => Nat.le_of_ble_eq_true rfl) (fun _ => rfl) (kD_isHolder_0 hf)
def fD_isNumber_0 (N d : Nat) (h : sm_H) (Q : Option Value → sm_H → Prop) (x0 : Int32) : Prop := ((x0 = 16 → sm_W N (d + 1) mm_D_isNumber 12 [] [] h Q) ∧ (¬ x0 = 16 → ((x0 = 18 → sm_W N (d + 1) mm_D_isNumber 12 [] [] h Q) ∧ (¬ x0 = 18 → Q (some (.int 0)) h))))
set_option maxRecDepth 20000 in
set_option maxHeartbeats 4000000 in
theorem kD_isNumber_0 {N d : Nat} {h : sm_H} {Q : Option Value → sm_H → Prop} {x0 : Int32} (hf : fD_isNumber_0 N d h Q x0) : sm_W N (d + 1) mm_D_isNumber 0 [(0, .int x0)] [] h Q := by
  unfold fD_isNumber_0 at hf
  refine sm_iload_n (k := 0) 1 0 (by decide +kernel) rfl rfl rfl ?_
  refine sm_bipush (i := 16) (x := 16) 3 (by decide +kernel) (by decide) rfl ?_
  refine sm_icmp_eq (off := 9) 6 12 (by decide +kernel) (by decide) rfl (fun q2 => ?_) (fun q2 => ?_)
  · have hf := hf.1 q2
    exact sm_sub [] rfl hf
  · have hf := hf.2 q2
    refine sm_iload_n (k := 0) 7 0 (by decide +kernel) rfl rfl rfl ?_
    refine sm_bipush (i := 18) (x := 18) 9 (by decide +kernel) (by decide) rfl ?_
    refine sm_icmp_ne (off := 7) 12 16 (by decide +kernel) (by decide) rfl (fun q1 => ?_) (fun q1 => ?_)
    · have hf := hf.2 q1
      refine sm_iconst (i := 0) (x := 0) 17 (by decide +kernel) rfl rfl ?_
      exact sm_zret rfl (by decide +kernel) (by decide) hf
    · have hf := hf.1 q1
      exact sm_sub [] rfl hf
def fD_isNumber_12 (N d : Nat) (h : sm_H) (Q : Option Value → sm_H → Prop)  : Prop := Q (some (.int 1)) h
set_option maxRecDepth 20000 in
set_option maxHeartbeats 4000000 in
theorem kD_isNumber_12 {N d : Nat} {h : sm_H} {Q : Option Value → sm_H → Prop}  (hf : fD_isNumber_12 N d h Q ) : sm_W N (d + 1) mm_D_isNumber 12 [] [] h Q := by
  unfold fD_isNumber_12 at hf
  refine sm_iconst (i := 1) (x := 1) 13 (by decide +kernel) rfl rfl ?_
  refine sm_goto (off := 4) 17 (by decide +kernel) (by decide) ?_
  exact sm_zret rfl (by decide +kernel) (by decide) hf
theorem cD_isNumber {N d : Nat} {h : sm_H} {Q : Option Value → sm_H → Prop} {x0 : Int32} (hf : fD_isNumber_0 N d h Q x0) : sm_T N (d + 1) mm_D_isNumber [.int x0] h Q := sm_meth (by decide +kernel) (fun _ => Nat.le_of_ble_eq_true rfl) (fun _ => rfl) (kD_isNumber_0 hf)
def fD_deepest_0 (N d : Nat) (h : sm_H) (Q : Option Value → sm_H → Prop) (x0 : Nat) (x1 : Int32) (x2 : Int32) : Prop := ((x2 < 40 → sm_V N d mm_B_lastOf 0 x0 [.int x1] h (fun r2 h1 => ∃ z3 : Int32, r2 = some (.int z3) ∧ sm_W N (d + 1) mm_D_deepest 25 [(0, .ref x0), (2, .int x2), (3, .int x2), (4, .int z3), (5, .int (x1 + 4)), (6, .int 0)] [] h1 Q)) ∧ (¬ x2 < 40 → Q (some (.int x2)) h))
set_option maxRecDepth 20000 in
set_option maxHeartbeats 4000000 in
theorem kD_deepest_0 {N d : Nat} {h : sm_H} {Q : Option Value → sm_H → Prop} {x0 : Nat} {x1 : Int32} {x2 : Int32} (hf : fD_deepest_0 N d h Q x0 x1 x2) : sm_W N (d + 1) mm_D_deepest 0 [(0, .ref x0), (1, .int x1), (2, .int x2)] [] h Q := by
  unfold fD_deepest_0 at hf
  refine sm_iload_n (k := 2) 1 2 (by decide +kernel) rfl rfl rfl ?_
  refine sm_istore_n (k := 3) 2 [(3, .int x2), (0, .ref x0), (1, .int x1), (2, .int x2)] (by decide +kernel) rfl (by decide) (by first | rfl | simp [sm_rfc]) rfl ?_
  refine sm_iload_n (k := 2) 3 3 (by decide +kernel) rfl rfl rfl ?_
  refine sm_bipush (i := 40) (x := 40) 5 (by decide +kernel) (by decide) rfl ?_
  refine sm_icmp_lt (off := 5) 8 10 (by decide +kernel) (by decide) rfl (fun q4 => ?_) (fun q4 => ?_)
  · have hf := hf.1 q4
    refine sm_aload_n (k := 0) 11 1 (by decide +kernel) rfl rfl rfl ?_
    refine sm_iload_n (k := 1) 12 2 (by decide +kernel) rfl rfl rfl ?_
    refine sm_callV (M2 := mm_B_lastOf) (av := [.int x1]) (rest := []) 15 (by decide +kernel) ml_D_122 (Nat.le_refl _) rfl rfl (by first | exact Nat.le_of_ble_eq_true rfl | simp [sm_rfc, Value.category]) rfl hf ?_
    rintro r2 h1 ⟨z3, rfl, hf⟩
    change sm_W N (d + 1) mm_D_deepest 15 [(3, .int x2), (0, .ref x0), (1, .int x1), (2, .int x2)] [.int z3] h1 Q
    refine sm_istore (i := 4) 17 [(4, .int z3), (3, .int x2), (0, .ref x0), (1, .int x1), (2, .int x2)] (by decide +kernel) (by decide) (by first | rfl | simp [sm_rfc]) rfl ?_
    refine sm_iload_n (k := 1) 18 3 (by decide +kernel) rfl rfl rfl ?_
    refine sm_iconst (i := 4) (x := 4) 19 (by decide +kernel) rfl rfl ?_
    refine sm_iadd 20 (by decide +kernel) rfl ?_
    refine sm_istore (i := 5) 22 [(5, .int (x1 + 4)), (4, .int z3), (3, .int x2), (0, .ref x0), (1, .int x1), (2, .int x2)] (by decide +kernel) (by decide) (by first | rfl | simp [sm_rfc]) rfl ?_
    refine sm_iconst (i := 0) (x := 0) 23 (by decide +kernel) rfl rfl ?_
    refine sm_istore (i := 6) 25 [(6, .int 0), (5, .int (x1 + 4)), (4, .int z3), (3, .int x2), (0, .ref x0), (1, .int x1), (2, .int x2)] (by decide +kernel) (by decide) (by first | rfl | simp [sm_rfc]) rfl ?_
    exact sm_sub [4, 6, 3, 2, 1, 0] rfl hf
  · have hf := hf.2 q4
    refine sm_iload_n (k := 3) 9 0 (by decide +kernel) rfl rfl rfl ?_
    exact sm_iret rfl (by decide +kernel) hf
def fD_deepest_25 (N d : Nat) (h : sm_H) (Q : Option Value → sm_H → Prop) (x0 : Nat) (x2 : Int32) (x3 : Int32) (x4 : Int32) (x5 : Int32) (x6 : Int32) : Prop := ∃ z1 : Int32, sm_g h x0 0 1 = some (.int z1) ∧ ((z1 ≤ x6 → Q (some (.int x3)) h) ∧ (¬ z1 ≤ x6 → ((x4 ≤ x5 → Q (some (.int x3)) h) ∧ (¬ x4 ≤ x5 → sm_V N d mm_B_at 0 x0 [.int x5] h (fun r3 h2 => ∃ z4 : Int32, r3 = some (.int z4) ∧ sm_T N d mm_D_isHolder [.int z4] h2 (fun r6 h5 => ∃ z7 : Int32, r6 = some (.int z7) ∧ ((z7 = 0 → sm_W N (d + 1) mm_D_deepest 71 [(0, .ref x0), (2, .int x2), (3, .int x3), (4, .int x4), (5, .int x5), (6, .int x6)] [] h5 Q) ∧ (¬ z7 = 0 → sm_V N d mm_B_valueStart 0 x0 [.int x5] h5 (fun r9 h8 => ∃ z10 : Int32, r9 = some (.int z10) ∧ sm_T N d mm_D_deepest [.ref x0, .int z10, .int (x2 + 1)] h8 (fun r12 h11 => ∃ z13 : Int32, r12 = some (.int z13) ∧ sm_W N (d + 1) mm_D_deepest 71 [(0, .ref x0), (2, .int x2), (3, .int (if x3 < z13 then z13 else x3)), (4, .int x4), (5, .int x5), (6, .int x6)] [] h11 Q))))))))))
set_option maxRecDepth 20000 in
set_option maxHeartbeats 4000000 in
theorem kD_deepest_25 {N d : Nat} {h : sm_H} {Q : Option Value → sm_H → Prop} {x0 : Nat} {x2 : Int32} {x3 : Int32} {x4 : Int32} {x5 : Int32} {x6 : Int32} (hf : fD_deepest_25 N d h Q x0 x2 x3 x4 x5 x6) : sm_W N (d + 1) mm_D_deepest 25 [(0, .ref x0), (2, .int x2), (3, .int x3), (4, .int x4), (5, .int x5), (6, .int x6)] [] h Q := by
  unfold fD_deepest_25 at hf
  refine sm_iload (i := 6) 27 5 (by decide +kernel) rfl rfl ?_
  refine sm_aload_n (k := 0) 28 0 (by decide +kernel) rfl rfl rfl ?_
  obtain ⟨z1, ez1, hf⟩ := hf
  refine sm_get 31 (by decide +kernel) fl_D_57 ez1 rfl ?_
  refine sm_icmp_ge (off := 54) 34 85 (by decide +kernel) (by decide) rfl (fun q16 => ?_) (fun q16 => ?_)
  · have hf := hf.1 q16
    refine sm_iload_n (k := 3) 86 2 (by decide +kernel) rfl rfl rfl ?_
    exact sm_iret rfl (by decide +kernel) hf
  · have hf := hf.2 q16
    refine sm_iload (i := 5) 36 4 (by decide +kernel) rfl rfl ?_
    refine sm_iload (i := 4) 38 3 (by decide +kernel) rfl rfl ?_
    refine sm_icmp_ge (off := 47) 41 85 (by decide +kernel) (by decide) rfl (fun q15 => ?_) (fun q15 => ?_)
    · have hf := hf.1 q15
      refine sm_iload_n (k := 3) 86 2 (by decide +kernel) rfl rfl rfl ?_
      exact sm_iret rfl (by decide +kernel) hf
    · have hf := hf.2 q15
      refine sm_aload_n (k := 0) 42 0 (by decide +kernel) rfl rfl rfl ?_
      refine sm_iload (i := 5) 44 4 (by decide +kernel) rfl rfl ?_
      refine sm_callV (M2 := mm_B_at) (av := [.int x5]) (rest := []) 47 (by decide +kernel) ml_D_119 (Nat.le_refl _) rfl rfl (by first | exact Nat.le_of_ble_eq_true rfl | simp [sm_rfc, Value.category]) rfl hf ?_
      rintro r3 h2 ⟨z4, rfl, hf⟩
      change sm_W N (d + 1) mm_D_deepest 47 [(0, .ref x0), (2, .int x2), (3, .int x3), (4, .int x4), (5, .int x5), (6, .int x6)] [.int z4] h2 Q
      refine sm_callS (M2 := mm_D_isHolder) (av := [.int z4]) (rest := []) 50 (by decide +kernel) ml_D_125 (Nat.le_refl _) rfl rfl (by first | exact Nat.le_of_ble_eq_true rfl | simp [sm_rfc, Value.category]) rfl hf ?_
      rintro r6 h5 ⟨z7, rfl, hf⟩
      change sm_W N (d + 1) mm_D_deepest 50 [(0, .ref x0), (2, .int x2), (3, .int x3), (4, .int x4), (5, .int x5), (6, .int x6)] [.int z7] h5 Q
      refine sm_if_eq (off := 21) 53 71 (by decide +kernel) (by decide) rfl (fun q14 => ?_) (fun q14 => ?_)
      · have hf := hf.1 q14
        exact sm_sub [0, 1, 2, 3, 4, 5] rfl hf
      · have hf := hf.2 q14
        refine sm_iload_n (k := 3) 54 2 (by decide +kernel) rfl rfl rfl ?_
        refine sm_aload_n (k := 0) 55 0 (by decide +kernel) rfl rfl rfl ?_
        refine sm_aload_n (k := 0) 56 0 (by decide +kernel) rfl rfl rfl ?_
        refine sm_iload (i := 5) 58 4 (by decide +kernel) rfl rfl ?_
        refine sm_callV (M2 := mm_B_valueStart) (av := [.int x5]) (rest := [.ref x0, .int x3]) 61 (by decide +kernel) ml_D_128 (Nat.le_refl _) rfl rfl (by first | exact Nat.le_of_ble_eq_true rfl | simp [sm_rfc, Value.category]) rfl hf ?_
        rintro r9 h8 ⟨z10, rfl, hf⟩
        change sm_W N (d + 1) mm_D_deepest 61 [(0, .ref x0), (2, .int x2), (3, .int x3), (4, .int x4), (5, .int x5), (6, .int x6)] [.int z10, .ref x0, .int x3] h8 Q
        refine sm_iload_n (k := 2) 62 1 (by decide +kernel) rfl rfl rfl ?_
        refine sm_iconst (i := 1) (x := 1) 63 (by decide +kernel) rfl rfl ?_
        refine sm_iadd 64 (by decide +kernel) rfl ?_
        refine sm_callS (M2 := mm_D_deepest) (av := [.ref x0, .int z10, .int (x2 + 1)]) (rest := [.int x3]) 67 (by decide +kernel) ml_D_115 (Nat.le_refl _) rfl rfl (by first | exact Nat.le_of_ble_eq_true rfl | simp [sm_rfc, Value.category]) rfl hf ?_
        rintro r12 h11 ⟨z13, rfl, hf⟩
        change sm_W N (d + 1) mm_D_deepest 67 [(0, .ref x0), (2, .int x2), (3, .int x3), (4, .int x4), (5, .int x5), (6, .int x6)] [.int z13, .int x3] h11 Q
        refine sm_mmax 70 (by decide +kernel) mx_D_131 (Nat.le_add_left 1 d) (by first | exact Nat.le_of_ble_eq_true rfl | simp [sm_rfc, Value.category]) rfl ?_
        refine sm_istore_n (k := 3) 71 [(3, .int (if x3 < z13 then z13 else x3)), (0, .ref x0), (2, .int x2), (4, .int x4), (5, .int x5), (6, .int x6)] (by decide +kernel) rfl (by decide) (by first | rfl | simp [sm_rfc]) rfl ?_
        exact sm_sub [1, 2, 0, 3, 4, 5] rfl hf
def fD_deepest_71 (N d : Nat) (h : sm_H) (Q : Option Value → sm_H → Prop) (x0 : Nat) (x2 : Int32) (x3 : Int32) (x4 : Int32) (x5 : Int32) (x6 : Int32) : Prop := sm_V N d mm_B_valueEnd 0 x0 [.int x5] h (fun r2 h1 => ∃ z3 : Int32, r2 = some (.int z3) ∧ sm_W N (d + 1) mm_D_deepest 25 [(0, .ref x0), (2, .int x2), (3, .int x3), (4, .int x4), (5, .int z3), (6, .int (x6 + 1))] [] h1 Q)
set_option maxRecDepth 20000 in
set_option maxHeartbeats 4000000 in
theorem kD_deepest_71 {N d : Nat} {h : sm_H} {Q : Option Value → sm_H → Prop} {x0 : Nat} {x2 : Int32} {x3 : Int32} {x4 : Int32} {x5 : Int32} {x6 : Int32} (hf : fD_deepest_71 N d h Q x0 x2 x3 x4 x5 x6) : sm_W N (d + 1) mm_D_deepest 71 [(0, .ref x0), (2, .int x2), (3, .int x3), (4, .int x4), (5, .int x5), (6, .int x6)] [] h Q := by
  unfold fD_deepest_71 at hf
  refine sm_aload_n (k := 0) 72 0 (by decide +kernel) rfl rfl rfl ?_
  refine sm_iload (i := 5) 74 4 (by decide +kernel) rfl rfl ?_
  refine sm_callV (M2 := mm_B_valueEnd) (av := [.int x5]) (rest := []) 77 (by decide +kernel) ml_D_137 (Nat.le_refl _) rfl rfl (by first | exact Nat.le_of_ble_eq_true rfl | simp [sm_rfc, Value.category]) rfl hf ?_
  rintro r2 h1 ⟨z3, rfl, hf⟩
  change sm_W N (d + 1) mm_D_deepest 77 [(0, .ref x0), (2, .int x2), (3, .int x3), (4, .int x4), (5, .int x5), (6, .int x6)] [.int z3] h1 Q
  refine sm_istore (i := 5) 79 [(5, .int z3), (0, .ref x0), (2, .int x2), (3, .int x3), (4, .int x4), (6, .int x6)] (by decide +kernel) (by decide) (by first | rfl | simp [sm_rfc]) rfl ?_
  refine sm_iinc (i := 6) (j := 5) (z := 1) (y := x6 + 1) 82 [(6, .int (x6 + 1)), (5, .int z3), (0, .ref x0), (2, .int x2), (3, .int x3), (4, .int x4)] (by decide +kernel) rfl (by rfl) (by decide) rfl rfl ?_
  refine sm_goto (off := -57) 25 (by decide +kernel) (by decide) ?_
  exact sm_sub [2, 3, 4, 5, 1, 0] rfl hf
theorem cD_deepest {N d : Nat} {h : sm_H} {Q : Option Value → sm_H → Prop} {x0 : Nat} {x1 : Int32} {x2 : Int32} (hf : fD_deepest_0 N d h Q x0 x1 x2) : sm_T N (d + 1) mm_D_deepest [.ref x0, .int x1, .int x2] h Q := sm_meth (by decide +kernel) (fun _ => Nat.le_of_ble_eq_true rfl) (fun _ => rfl) (kD_deepest_0 hf)
def fD_sameValues_0 (N d : Nat) (h : sm_H) (Q : Option Value → sm_H → Prop) (x0 : Nat) (x1 : Int32) (x2 : Nat) (x3 : Int32) (x4 : Int32) : Prop := sm_V N d mm_B_at 0 x0 [.int x1] h (fun r2 h1 => ∃ z3 : Int32, r2 = some (.int z3) ∧ sm_V N d mm_B_at 0 x2 [.int x3] h1 (fun r5 h4 => ∃ z6 : Int32, r5 = some (.int z6) ∧ sm_T N d mm_D_isNumber [.int z3] h4 (fun r8 h7 => ∃ z9 : Int32, r8 = some (.int z9) ∧ ((z9 = 0 → sm_W N (d + 1) mm_D_sameValues 50 [(0, .ref x0), (1, .int x1), (2, .ref x2), (3, .int x3), (4, .int x4), (5, .int z3), (6, .int z6)] [] h7 Q) ∧ (¬ z9 = 0 → sm_T N d mm_D_isNumber [.int z6] h7 (fun r11 h10 => ∃ z12 : Int32, r11 = some (.int z12) ∧ ((z12 = 0 → sm_W N (d + 1) mm_D_sameValues 50 [(0, .ref x0), (1, .int x1), (2, .ref x2), (3, .int x3), (4, .int x4), (5, .int z3), (6, .int z6)] [] h10 Q) ∧ (¬ z12 = 0 → sm_V N d mm_B_numberOf 0 x0 [.int x1] h10 (fun r14 h13 => ∃ z15 : Int64, r14 = some (.long z15) ∧ sm_V N d mm_B_numberOf 0 x2 [.int x3] h13 (fun r17 h16 => ∃ z18 : Int64, r17 = some (.long z18) ∧ (((lg_cmp z15 z18) = 0 → Q (some (.int 1)) h16) ∧ (¬ (lg_cmp z15 z18) = 0 → Q (some (.int 0)) h16))))))))))))
set_option maxRecDepth 20000 in
set_option maxHeartbeats 4000000 in
theorem kD_sameValues_0 {N d : Nat} {h : sm_H} {Q : Option Value → sm_H → Prop} {x0 : Nat} {x1 : Int32} {x2 : Nat} {x3 : Int32} {x4 : Int32} (hf : fD_sameValues_0 N d h Q x0 x1 x2 x3 x4) : sm_W N (d + 1) mm_D_sameValues 0 [(0, .ref x0), (1, .int x1), (2, .ref x2), (3, .int x3), (4, .int x4)] [] h Q := by
  unfold fD_sameValues_0 at hf
  refine sm_aload_n (k := 0) 1 0 (by decide +kernel) rfl rfl rfl ?_
  refine sm_iload_n (k := 1) 2 1 (by decide +kernel) rfl rfl rfl ?_
  refine sm_callV (M2 := mm_B_at) (av := [.int x1]) (rest := []) 5 (by decide +kernel) ml_D_119 (Nat.le_refl _) rfl rfl (by first | exact Nat.le_of_ble_eq_true rfl | simp [sm_rfc, Value.category]) rfl hf ?_
  rintro r2 h1 ⟨z3, rfl, hf⟩
  change sm_W N (d + 1) mm_D_sameValues 5 [(0, .ref x0), (1, .int x1), (2, .ref x2), (3, .int x3), (4, .int x4)] [.int z3] h1 Q
  refine sm_istore (i := 5) 7 [(5, .int z3), (0, .ref x0), (1, .int x1), (2, .ref x2), (3, .int x3), (4, .int x4)] (by decide +kernel) (by decide) (by first | rfl | simp [sm_rfc]) rfl ?_
  refine sm_aload_n (k := 2) 8 3 (by decide +kernel) rfl rfl rfl ?_
  refine sm_iload_n (k := 3) 9 4 (by decide +kernel) rfl rfl rfl ?_
  refine sm_callV (M2 := mm_B_at) (av := [.int x3]) (rest := []) 12 (by decide +kernel) ml_D_119 (Nat.le_refl _) rfl rfl (by first | exact Nat.le_of_ble_eq_true rfl | simp [sm_rfc, Value.category]) rfl hf ?_
  rintro r5 h4 ⟨z6, rfl, hf⟩
  change sm_W N (d + 1) mm_D_sameValues 12 [(5, .int z3), (0, .ref x0), (1, .int x1), (2, .ref x2), (3, .int x3), (4, .int x4)] [.int z6] h4 Q
  refine sm_istore (i := 6) 14 [(6, .int z6), (5, .int z3), (0, .ref x0), (1, .int x1), (2, .ref x2), (3, .int x3), (4, .int x4)] (by decide +kernel) (by decide) (by first | rfl | simp [sm_rfc]) rfl ?_
  refine sm_iload (i := 5) 16 1 (by decide +kernel) rfl rfl ?_
  refine sm_callS (M2 := mm_D_isNumber) (av := [.int z3]) (rest := []) 19 (by decide +kernel) ml_D_140 (Nat.le_refl _) rfl rfl (by first | exact Nat.le_of_ble_eq_true rfl | simp [sm_rfc, Value.category]) rfl hf ?_
  rintro r8 h7 ⟨z9, rfl, hf⟩
  change sm_W N (d + 1) mm_D_sameValues 19 [(6, .int z6), (5, .int z3), (0, .ref x0), (1, .int x1), (2, .ref x2), (3, .int x3), (4, .int x4)] [.int z9] h7 Q
  refine sm_if_eq (off := 31) 22 50 (by decide +kernel) (by decide) rfl (fun q21 => ?_) (fun q21 => ?_)
  · have hf := hf.1 q21
    exact sm_sub [2, 3, 4, 5, 6, 1, 0] rfl hf
  · have hf := hf.2 q21
    refine sm_iload (i := 6) 24 0 (by decide +kernel) rfl rfl ?_
    refine sm_callS (M2 := mm_D_isNumber) (av := [.int z6]) (rest := []) 27 (by decide +kernel) ml_D_140 (Nat.le_refl _) rfl rfl (by first | exact Nat.le_of_ble_eq_true rfl | simp [sm_rfc, Value.category]) rfl hf ?_
    rintro r11 h10 ⟨z12, rfl, hf⟩
    change sm_W N (d + 1) mm_D_sameValues 27 [(6, .int z6), (5, .int z3), (0, .ref x0), (1, .int x1), (2, .ref x2), (3, .int x3), (4, .int x4)] [.int z12] h10 Q
    refine sm_if_eq (off := 23) 30 50 (by decide +kernel) (by decide) rfl (fun q20 => ?_) (fun q20 => ?_)
    · have hf := hf.1 q20
      exact sm_sub [2, 3, 4, 5, 6, 1, 0] rfl hf
    · have hf := hf.2 q20
      refine sm_aload_n (k := 0) 31 2 (by decide +kernel) rfl rfl rfl ?_
      refine sm_iload_n (k := 1) 32 3 (by decide +kernel) rfl rfl rfl ?_
      refine sm_callV (M2 := mm_B_numberOf) (av := [.int x1]) (rest := []) 35 (by decide +kernel) ml_D_143 (Nat.le_refl _) rfl rfl (by first | exact Nat.le_of_ble_eq_true rfl | simp [sm_rfc, Value.category]) rfl hf ?_
      rintro r14 h13 ⟨z15, rfl, hf⟩
      change sm_W N (d + 1) mm_D_sameValues 35 [(6, .int z6), (5, .int z3), (0, .ref x0), (1, .int x1), (2, .ref x2), (3, .int x3), (4, .int x4)] [.long z15] h13 Q
      refine sm_aload_n (k := 2) 36 4 (by decide +kernel) rfl rfl rfl ?_
      refine sm_iload_n (k := 3) 37 5 (by decide +kernel) rfl rfl rfl ?_
      refine sm_callV (M2 := mm_B_numberOf) (av := [.int x3]) (rest := [.long z15]) 40 (by decide +kernel) ml_D_143 (Nat.le_refl _) rfl rfl (by first | exact Nat.le_of_ble_eq_true rfl | simp [sm_rfc, Value.category]) rfl hf ?_
      rintro r17 h16 ⟨z18, rfl, hf⟩
      change sm_W N (d + 1) mm_D_sameValues 40 [(6, .int z6), (5, .int z3), (0, .ref x0), (1, .int x1), (2, .ref x2), (3, .int x3), (4, .int x4)] [.long z18, .long z15] h16 Q
      refine sm_lcmp 41 (by decide +kernel) rfl ?_
      refine sm_if_ne (off := 7) 44 48 (by decide +kernel) (by decide) rfl (fun q19 => ?_) (fun q19 => ?_)
      · have hf := hf.2 q19
        refine sm_iconst (i := 0) (x := 0) 49 (by decide +kernel) rfl rfl ?_
        exact sm_zret rfl (by decide +kernel) (by decide) hf
      · have hf := hf.1 q19
        refine sm_iconst (i := 1) (x := 1) 45 (by decide +kernel) rfl rfl ?_
        refine sm_goto (off := 4) 49 (by decide +kernel) (by decide) ?_
        exact sm_zret rfl (by decide +kernel) (by decide) hf
def fD_sameValues_50 (N d : Nat) (h : sm_H) (Q : Option Value → sm_H → Prop) (x0 : Nat) (x1 : Int32) (x2 : Nat) (x3 : Int32) (x4 : Int32) (x5 : Int32) (x6 : Int32) : Prop := ((x5 = x6 → sm_V N d mm_B_valueStart 0 x0 [.int x1] h (fun r2 h1 => ∃ z3 : Int32, r2 = some (.int z3) ∧ sm_V N d mm_B_valueStart 0 x2 [.int x3] h1 (fun r5 h4 => ∃ z6 : Int32, r5 = some (.int z6) ∧ sm_T N d mm_D_isHolder [.int x5] h4 (fun r8 h7 => ∃ z9 : Int32, r8 = some (.int z9) ∧ ((z9 = 0 → sm_V N d mm_B_valueEnd 0 x0 [.int x1] h7 (fun r11 h10 => ∃ z12 : Int32, r11 = some (.int z12) ∧ sm_V N d mm_B_valueEnd 0 x2 [.int x3] h10 (fun r14 h13 => ∃ z15 : Int32, r14 = some (.int z15) ∧ sm_T N d mm_D_sameRange [.ref x0, .int z3, .int z12, .ref x2, .int z6, .int z15] h13 (fun r17 h16 => ∃ z18 : Int32, r17 = some (.int z18) ∧ ((z18 = 0 ∨ z18 = 1) ∧ Q (some (.int z18)) h16))))) ∧ (¬ z9 = 0 → ((40 ≤ x4 → Q (some (.int 0)) h7) ∧ (¬ 40 ≤ x4 → sm_T N d mm_D_sameHolders [.ref x0, .int z3, .ref x2, .int z6, .int (x4 + 1)] h7 (fun r20 h19 => ∃ z21 : Int32, r20 = some (.int z21) ∧ ((z21 = 0 → Q (some (.int 0)) h19) ∧ (¬ z21 = 0 → Q (some (.int 1)) h19))))))))))) ∧ (¬ x5 = x6 → Q (some (.int 0)) h))
set_option maxRecDepth 20000 in
set_option maxHeartbeats 4000000 in
theorem kD_sameValues_50 {N d : Nat} {h : sm_H} {Q : Option Value → sm_H → Prop} {x0 : Nat} {x1 : Int32} {x2 : Nat} {x3 : Int32} {x4 : Int32} {x5 : Int32} {x6 : Int32} (hf : fD_sameValues_50 N d h Q x0 x1 x2 x3 x4 x5 x6) : sm_W N (d + 1) mm_D_sameValues 50 [(0, .ref x0), (1, .int x1), (2, .ref x2), (3, .int x3), (4, .int x4), (5, .int x5), (6, .int x6)] [] h Q := by
  unfold fD_sameValues_50 at hf
  refine sm_iload (i := 5) 52 5 (by decide +kernel) rfl rfl ?_
  refine sm_iload (i := 6) 54 6 (by decide +kernel) rfl rfl ?_
  refine sm_icmp_eq (off := 5) 57 59 (by decide +kernel) (by decide) rfl (fun q25 => ?_) (fun q25 => ?_)
  · have hf := hf.1 q25
    refine sm_aload_n (k := 0) 60 0 (by decide +kernel) rfl rfl rfl ?_
    refine sm_iload_n (k := 1) 61 1 (by decide +kernel) rfl rfl rfl ?_
    refine sm_callV (M2 := mm_B_valueStart) (av := [.int x1]) (rest := []) 64 (by decide +kernel) ml_D_128 (Nat.le_refl _) rfl rfl (by first | exact Nat.le_of_ble_eq_true rfl | simp [sm_rfc, Value.category]) rfl hf ?_
    rintro r2 h1 ⟨z3, rfl, hf⟩
    change sm_W N (d + 1) mm_D_sameValues 64 [(0, .ref x0), (1, .int x1), (2, .ref x2), (3, .int x3), (4, .int x4), (5, .int x5), (6, .int x6)] [.int z3] h1 Q
    refine sm_istore (i := 7) 66 [(7, .int z3), (0, .ref x0), (1, .int x1), (2, .ref x2), (3, .int x3), (4, .int x4), (5, .int x5), (6, .int x6)] (by decide +kernel) (by decide) (by first | rfl | simp [sm_rfc]) rfl ?_
    refine sm_aload_n (k := 2) 67 3 (by decide +kernel) rfl rfl rfl ?_
    refine sm_iload_n (k := 3) 68 4 (by decide +kernel) rfl rfl rfl ?_
    refine sm_callV (M2 := mm_B_valueStart) (av := [.int x3]) (rest := []) 71 (by decide +kernel) ml_D_128 (Nat.le_refl _) rfl rfl (by first | exact Nat.le_of_ble_eq_true rfl | simp [sm_rfc, Value.category]) rfl hf ?_
    rintro r5 h4 ⟨z6, rfl, hf⟩
    change sm_W N (d + 1) mm_D_sameValues 71 [(7, .int z3), (0, .ref x0), (1, .int x1), (2, .ref x2), (3, .int x3), (4, .int x4), (5, .int x5), (6, .int x6)] [.int z6] h4 Q
    refine sm_istore (i := 8) 73 [(8, .int z6), (7, .int z3), (0, .ref x0), (1, .int x1), (2, .ref x2), (3, .int x3), (4, .int x4), (5, .int x5), (6, .int x6)] (by decide +kernel) (by decide) (by first | rfl | simp [sm_rfc]) rfl ?_
    refine sm_iload (i := 5) 75 7 (by decide +kernel) rfl rfl ?_
    refine sm_callS (M2 := mm_D_isHolder) (av := [.int x5]) (rest := []) 78 (by decide +kernel) ml_D_125 (Nat.le_refl _) rfl rfl (by first | exact Nat.le_of_ble_eq_true rfl | simp [sm_rfc, Value.category]) rfl hf ?_
    rintro r8 h7 ⟨z9, rfl, hf⟩
    change sm_W N (d + 1) mm_D_sameValues 78 [(8, .int z6), (7, .int z3), (0, .ref x0), (1, .int x1), (2, .ref x2), (3, .int x3), (4, .int x4), (5, .int x5), (6, .int x6)] [.int z9] h7 Q
    refine sm_if_eq (off := 32) 81 110 (by decide +kernel) (by decide) rfl (fun q24 => ?_) (fun q24 => ?_)
    · have hf := hf.1 q24
      refine sm_aload_n (k := 0) 111 2 (by decide +kernel) rfl rfl rfl ?_
      refine sm_iload (i := 7) 113 1 (by decide +kernel) rfl rfl ?_
      refine sm_aload_n (k := 0) 114 2 (by decide +kernel) rfl rfl rfl ?_
      refine sm_iload_n (k := 1) 115 3 (by decide +kernel) rfl rfl rfl ?_
      refine sm_callV (M2 := mm_B_valueEnd) (av := [.int x1]) (rest := [.int z3, .ref x0]) 118 (by decide +kernel) ml_D_137 (Nat.le_refl _) rfl rfl (by first | exact Nat.le_of_ble_eq_true rfl | simp [sm_rfc, Value.category]) rfl hf ?_
      rintro r11 h10 ⟨z12, rfl, hf⟩
      change sm_W N (d + 1) mm_D_sameValues 118 [(8, .int z6), (7, .int z3), (0, .ref x0), (1, .int x1), (2, .ref x2), (3, .int x3), (4, .int x4), (5, .int x5), (6, .int x6)] [.int z12, .int z3, .ref x0] h10 Q
      refine sm_aload_n (k := 2) 119 4 (by decide +kernel) rfl rfl rfl ?_
      refine sm_iload (i := 8) 121 0 (by decide +kernel) rfl rfl ?_
      refine sm_aload_n (k := 2) 122 4 (by decide +kernel) rfl rfl rfl ?_
      refine sm_iload_n (k := 3) 123 5 (by decide +kernel) rfl rfl rfl ?_
      refine sm_callV (M2 := mm_B_valueEnd) (av := [.int x3]) (rest := [.int z6, .ref x2, .int z12, .int z3, .ref x0]) 126 (by decide +kernel) ml_D_137 (Nat.le_refl _) rfl rfl (by first | exact Nat.le_of_ble_eq_true rfl | simp [sm_rfc, Value.category]) rfl hf ?_
      rintro r14 h13 ⟨z15, rfl, hf⟩
      change sm_W N (d + 1) mm_D_sameValues 126 [(8, .int z6), (7, .int z3), (0, .ref x0), (1, .int x1), (2, .ref x2), (3, .int x3), (4, .int x4), (5, .int x5), (6, .int x6)] [.int z15, .int z6, .ref x2, .int z12, .int z3, .ref x0] h13 Q
      refine sm_callS (M2 := mm_D_sameRange) (av := [.ref x0, .int z3, .int z12, .ref x2, .int z6, .int z15]) (rest := []) 129 (by decide +kernel) ml_D_150 (Nat.le_refl _) rfl rfl (by first | exact Nat.le_of_ble_eq_true rfl | simp [sm_rfc, Value.category]) rfl hf ?_
      rintro r17 h16 ⟨z18, rfl, hf⟩
      change sm_W N (d + 1) mm_D_sameValues 129 [(8, .int z6), (7, .int z3), (0, .ref x0), (1, .int x1), (2, .ref x2), (3, .int x3), (4, .int x4), (5, .int x5), (6, .int x6)] [.int z18] h16 Q
      exact sm_zret rfl (by decide +kernel) hf.1 hf.2
    · have hf := hf.2 q24
      refine sm_iload (i := 4) 83 6 (by decide +kernel) rfl rfl ?_
      refine sm_bipush (i := 40) (x := 40) 85 (by decide +kernel) (by decide) rfl ?_
      refine sm_icmp_ge (off := 23) 88 108 (by decide +kernel) (by decide) rfl (fun q23 => ?_) (fun q23 => ?_)
      · have hf := hf.1 q23
        refine sm_iconst (i := 0) (x := 0) 109 (by decide +kernel) rfl rfl ?_
        exact sm_zret rfl (by decide +kernel) (by decide) hf
      · have hf := hf.2 q23
        refine sm_aload_n (k := 0) 89 2 (by decide +kernel) rfl rfl rfl ?_
        refine sm_iload (i := 7) 91 1 (by decide +kernel) rfl rfl ?_
        refine sm_aload_n (k := 2) 92 4 (by decide +kernel) rfl rfl rfl ?_
        refine sm_iload (i := 8) 94 0 (by decide +kernel) rfl rfl ?_
        refine sm_iload (i := 4) 96 6 (by decide +kernel) rfl rfl ?_
        refine sm_iconst (i := 1) (x := 1) 97 (by decide +kernel) rfl rfl ?_
        refine sm_iadd 98 (by decide +kernel) rfl ?_
        refine sm_callS (M2 := mm_D_sameHolders) (av := [.ref x0, .int z3, .ref x2, .int z6, .int (x4 + 1)]) (rest := []) 101 (by decide +kernel) ml_D_146 (Nat.le_refl _) rfl rfl (by first | exact Nat.le_of_ble_eq_true rfl | simp [sm_rfc, Value.category]) rfl hf ?_
        rintro r20 h19 ⟨z21, rfl, hf⟩
        change sm_W N (d + 1) mm_D_sameValues 101 [(8, .int z6), (7, .int z3), (0, .ref x0), (1, .int x1), (2, .ref x2), (3, .int x3), (4, .int x4), (5, .int x5), (6, .int x6)] [.int z21] h19 Q
        refine sm_if_eq (off := 7) 104 108 (by decide +kernel) (by decide) rfl (fun q22 => ?_) (fun q22 => ?_)
        · have hf := hf.1 q22
          refine sm_iconst (i := 0) (x := 0) 109 (by decide +kernel) rfl rfl ?_
          exact sm_zret rfl (by decide +kernel) (by decide) hf
        · have hf := hf.2 q22
          refine sm_iconst (i := 1) (x := 1) 105 (by decide +kernel) rfl rfl ?_
          refine sm_goto (off := 4) 109 (by decide +kernel) (by decide) ?_
          exact sm_zret rfl (by decide +kernel) (by decide) hf
  · have hf := hf.2 q25
    refine sm_iconst (i := 0) (x := 0) 58 (by decide +kernel) rfl rfl ?_
    exact sm_zret rfl (by decide +kernel) (by decide) hf
theorem cD_sameValues {N d : Nat} {h : sm_H} {Q : Option Value → sm_H → Prop} {x0 : Nat} {x1 : Int32} {x2 : Nat} {x3 : Int32} {x4 : Int32} (hf : fD_sameValues_0 N d h Q x0 x1 x2 x3 x4) : sm_T N (d + 1) mm_D_sameValues [.ref x0, .int x1, .ref x2, .int x3, .int x4] h Q := sm_meth (by decide +kernel) (fun _ => Nat.le_of_ble_eq_true rfl) (fun _ => rfl) (kD_sameValues_0 hf)
def fD_sameHolders_0 (N d : Nat) (h : sm_H) (Q : Option Value → sm_H → Prop) (x0 : Nat) (x1 : Int32) (x2 : Nat) (x3 : Int32) (x4 : Int32) : Prop := sm_V N d mm_B_lastOf 0 x0 [.int x1] h (fun r2 h1 => ∃ z3 : Int32, r2 = some (.int z3) ∧ sm_V N d mm_B_lastOf 0 x2 [.int x3] h1 (fun r5 h4 => ∃ z6 : Int32, r5 = some (.int z6) ∧ sm_W N (d + 1) mm_D_sameHolders 27 [(0, .ref x0), (2, .ref x2), (4, .int x4), (5, .int z3), (6, .int z6), (7, .int (x1 + 4)), (8, .int (x3 + 4)), (9, .int 0)] [] h4 Q))
set_option maxRecDepth 20000 in
set_option maxHeartbeats 4000000 in
theorem kD_sameHolders_0 {N d : Nat} {h : sm_H} {Q : Option Value → sm_H → Prop} {x0 : Nat} {x1 : Int32} {x2 : Nat} {x3 : Int32} {x4 : Int32} (hf : fD_sameHolders_0 N d h Q x0 x1 x2 x3 x4) : sm_W N (d + 1) mm_D_sameHolders 0 [(0, .ref x0), (1, .int x1), (2, .ref x2), (3, .int x3), (4, .int x4)] [] h Q := by
  unfold fD_sameHolders_0 at hf
  refine sm_aload_n (k := 0) 1 0 (by decide +kernel) rfl rfl rfl ?_
  refine sm_iload_n (k := 1) 2 1 (by decide +kernel) rfl rfl rfl ?_
  refine sm_callV (M2 := mm_B_lastOf) (av := [.int x1]) (rest := []) 5 (by decide +kernel) ml_D_122 (Nat.le_refl _) rfl rfl (by first | exact Nat.le_of_ble_eq_true rfl | simp [sm_rfc, Value.category]) rfl hf ?_
  rintro r2 h1 ⟨z3, rfl, hf⟩
  change sm_W N (d + 1) mm_D_sameHolders 5 [(0, .ref x0), (1, .int x1), (2, .ref x2), (3, .int x3), (4, .int x4)] [.int z3] h1 Q
  refine sm_istore (i := 5) 7 [(5, .int z3), (0, .ref x0), (1, .int x1), (2, .ref x2), (3, .int x3), (4, .int x4)] (by decide +kernel) (by decide) (by first | rfl | simp [sm_rfc]) rfl ?_
  refine sm_aload_n (k := 2) 8 3 (by decide +kernel) rfl rfl rfl ?_
  refine sm_iload_n (k := 3) 9 4 (by decide +kernel) rfl rfl rfl ?_
  refine sm_callV (M2 := mm_B_lastOf) (av := [.int x3]) (rest := []) 12 (by decide +kernel) ml_D_122 (Nat.le_refl _) rfl rfl (by first | exact Nat.le_of_ble_eq_true rfl | simp [sm_rfc, Value.category]) rfl hf ?_
  rintro r5 h4 ⟨z6, rfl, hf⟩
  change sm_W N (d + 1) mm_D_sameHolders 12 [(5, .int z3), (0, .ref x0), (1, .int x1), (2, .ref x2), (3, .int x3), (4, .int x4)] [.int z6] h4 Q
  refine sm_istore (i := 6) 14 [(6, .int z6), (5, .int z3), (0, .ref x0), (1, .int x1), (2, .ref x2), (3, .int x3), (4, .int x4)] (by decide +kernel) (by decide) (by first | rfl | simp [sm_rfc]) rfl ?_
  refine sm_iload_n (k := 1) 15 3 (by decide +kernel) rfl rfl rfl ?_
  refine sm_iconst (i := 4) (x := 4) 16 (by decide +kernel) rfl rfl ?_
  refine sm_iadd 17 (by decide +kernel) rfl ?_
  refine sm_istore (i := 7) 19 [(7, .int (x1 + 4)), (6, .int z6), (5, .int z3), (0, .ref x0), (1, .int x1), (2, .ref x2), (3, .int x3), (4, .int x4)] (by decide +kernel) (by decide) (by first | rfl | simp [sm_rfc]) rfl ?_
  refine sm_iload_n (k := 3) 20 6 (by decide +kernel) rfl rfl rfl ?_
  refine sm_iconst (i := 4) (x := 4) 21 (by decide +kernel) rfl rfl ?_
  refine sm_iadd 22 (by decide +kernel) rfl ?_
  refine sm_istore (i := 8) 24 [(8, .int (x3 + 4)), (7, .int (x1 + 4)), (6, .int z6), (5, .int z3), (0, .ref x0), (1, .int x1), (2, .ref x2), (3, .int x3), (4, .int x4)] (by decide +kernel) (by decide) (by first | rfl | simp [sm_rfc]) rfl ?_
  refine sm_iconst (i := 0) (x := 0) 25 (by decide +kernel) rfl rfl ?_
  refine sm_istore (i := 9) 27 [(9, .int 0), (8, .int (x3 + 4)), (7, .int (x1 + 4)), (6, .int z6), (5, .int z3), (0, .ref x0), (1, .int x1), (2, .ref x2), (3, .int x3), (4, .int x4)] (by decide +kernel) (by decide) (by first | rfl | simp [sm_rfc]) rfl ?_
  exact sm_sub [5, 7, 9, 4, 3, 2, 1, 0] rfl hf
def fD_sameHolders_27 (N d : Nat) (h : sm_H) (Q : Option Value → sm_H → Prop) (x0 : Nat) (x2 : Nat) (x4 : Int32) (x5 : Int32) (x6 : Int32) (x7 : Int32) (x8 : Int32) (x9 : Int32) : Prop := ∃ z1 : Int32, sm_g h x0 0 1 = some (.int z1) ∧ ((z1 ≤ x9 → sm_W N (d + 1) mm_D_sameHolders 104 [(5, .int x5), (6, .int x6), (7, .int x7), (8, .int x8)] [] h Q) ∧ (¬ z1 ≤ x9 → ((x5 ≤ x7 → sm_W N (d + 1) mm_D_sameHolders 104 [(5, .int x5), (6, .int x6), (7, .int x7), (8, .int x8)] [] h Q) ∧ (¬ x5 ≤ x7 → ((x6 ≤ x8 → sm_W N (d + 1) mm_D_sameHolders 104 [(5, .int x5), (6, .int x6), (7, .int x7), (8, .int x8)] [] h Q) ∧ (¬ x6 ≤ x8 → sm_T N d mm_D_sameNames [.ref x0, .int (x7 + 1), .ref x2, .int (x8 + 1)] h (fun r3 h2 => ∃ z4 : Int32, r3 = some (.int z4) ∧ ((z4 = 0 → Q (some (.int 0)) h2) ∧ (¬ z4 = 0 → sm_T N d mm_D_sameValues [.ref x0, .int x7, .ref x2, .int x8, .int x4] h2 (fun r6 h5 => ∃ z7 : Int32, r6 = some (.int z7) ∧ ((z7 = 0 → Q (some (.int 0)) h5) ∧ (¬ z7 = 0 → sm_V N d mm_B_valueEnd 0 x0 [.int x7] h5 (fun r9 h8 => ∃ z10 : Int32, r9 = some (.int z10) ∧ sm_V N d mm_B_valueEnd 0 x2 [.int x8] h8 (fun r12 h11 => ∃ z13 : Int32, r12 = some (.int z13) ∧ sm_W N (d + 1) mm_D_sameHolders 27 [(0, .ref x0), (2, .ref x2), (4, .int x4), (5, .int x5), (6, .int x6), (7, .int z10), (8, .int z13), (9, .int (x9 + 1))] [] h11 Q))))))))))))))
set_option maxRecDepth 20000 in
set_option maxHeartbeats 4000000 in
theorem kD_sameHolders_27 {N d : Nat} {h : sm_H} {Q : Option Value → sm_H → Prop} {x0 : Nat} {x2 : Nat} {x4 : Int32} {x5 : Int32} {x6 : Int32} {x7 : Int32} {x8 : Int32} {x9 : Int32} (hf : fD_sameHolders_27 N d h Q x0 x2 x4 x5 x6 x7 x8 x9) : sm_W N (d + 1) mm_D_sameHolders 27 [(0, .ref x0), (2, .ref x2), (4, .int x4), (5, .int x5), (6, .int x6), (7, .int x7), (8, .int x8), (9, .int x9)] [] h Q := by
  unfold fD_sameHolders_27 at hf
  refine sm_iload (i := 9) 29 7 (by decide +kernel) rfl rfl ?_
  refine sm_aload_n (k := 0) 30 0 (by decide +kernel) rfl rfl rfl ?_
  obtain ⟨z1, ez1, hf⟩ := hf
  refine sm_get 33 (by decide +kernel) fl_D_57 ez1 rfl ?_
  refine sm_icmp_ge (off := 71) 36 104 (by decide +kernel) (by decide) rfl (fun q18 => ?_) (fun q18 => ?_)
  · have hf := hf.1 q18
    exact sm_sub [3, 4, 5, 6] rfl hf
  · have hf := hf.2 q18
    refine sm_iload (i := 7) 38 5 (by decide +kernel) rfl rfl ?_
    refine sm_iload (i := 5) 40 3 (by decide +kernel) rfl rfl ?_
    refine sm_icmp_ge (off := 64) 43 104 (by decide +kernel) (by decide) rfl (fun q17 => ?_) (fun q17 => ?_)
    · have hf := hf.1 q17
      exact sm_sub [3, 4, 5, 6] rfl hf
    · have hf := hf.2 q17
      refine sm_iload (i := 8) 45 6 (by decide +kernel) rfl rfl ?_
      refine sm_iload (i := 6) 47 4 (by decide +kernel) rfl rfl ?_
      refine sm_icmp_ge (off := 57) 50 104 (by decide +kernel) (by decide) rfl (fun q16 => ?_) (fun q16 => ?_)
      · have hf := hf.1 q16
        exact sm_sub [3, 4, 5, 6] rfl hf
      · have hf := hf.2 q16
        refine sm_aload_n (k := 0) 51 0 (by decide +kernel) rfl rfl rfl ?_
        refine sm_iload (i := 7) 53 5 (by decide +kernel) rfl rfl ?_
        refine sm_iconst (i := 1) (x := 1) 54 (by decide +kernel) rfl rfl ?_
        refine sm_iadd 55 (by decide +kernel) rfl ?_
        refine sm_aload_n (k := 2) 56 1 (by decide +kernel) rfl rfl rfl ?_
        refine sm_iload (i := 8) 58 6 (by decide +kernel) rfl rfl ?_
        refine sm_iconst (i := 1) (x := 1) 59 (by decide +kernel) rfl rfl ?_
        refine sm_iadd 60 (by decide +kernel) rfl ?_
        refine sm_callS (M2 := mm_D_sameNames) (av := [.ref x0, .int (x7 + 1), .ref x2, .int (x8 + 1)]) (rest := []) 63 (by decide +kernel) ml_D_154 (Nat.le_refl _) rfl rfl (by first | exact Nat.le_of_ble_eq_true rfl | simp [sm_rfc, Value.category]) rfl hf ?_
        rintro r3 h2 ⟨z4, rfl, hf⟩
        change sm_W N (d + 1) mm_D_sameHolders 63 [(0, .ref x0), (2, .ref x2), (4, .int x4), (5, .int x5), (6, .int x6), (7, .int x7), (8, .int x8), (9, .int x9)] [.int z4] h2 Q
        refine sm_if_eq (off := 17) 66 80 (by decide +kernel) (by decide) rfl (fun q15 => ?_) (fun q15 => ?_)
        · have hf := hf.1 q15
          refine sm_iconst (i := 0) (x := 0) 81 (by decide +kernel) rfl rfl ?_
          exact sm_zret rfl (by decide +kernel) (by decide) hf
        · have hf := hf.2 q15
          refine sm_aload_n (k := 0) 67 0 (by decide +kernel) rfl rfl rfl ?_
          refine sm_iload (i := 7) 69 5 (by decide +kernel) rfl rfl ?_
          refine sm_aload_n (k := 2) 70 1 (by decide +kernel) rfl rfl rfl ?_
          refine sm_iload (i := 8) 72 6 (by decide +kernel) rfl rfl ?_
          refine sm_iload (i := 4) 74 2 (by decide +kernel) rfl rfl ?_
          refine sm_callS (M2 := mm_D_sameValues) (av := [.ref x0, .int x7, .ref x2, .int x8, .int x4]) (rest := []) 77 (by decide +kernel) ml_D_158 (Nat.le_refl _) rfl rfl (by first | exact Nat.le_of_ble_eq_true rfl | simp [sm_rfc, Value.category]) rfl hf ?_
          rintro r6 h5 ⟨z7, rfl, hf⟩
          change sm_W N (d + 1) mm_D_sameHolders 77 [(0, .ref x0), (2, .ref x2), (4, .int x4), (5, .int x5), (6, .int x6), (7, .int x7), (8, .int x8), (9, .int x9)] [.int z7] h5 Q
          refine sm_if_ne (off := 5) 80 82 (by decide +kernel) (by decide) rfl (fun q14 => ?_) (fun q14 => ?_)
          · have hf := hf.2 q14
            refine sm_aload_n (k := 0) 83 0 (by decide +kernel) rfl rfl rfl ?_
            refine sm_iload (i := 7) 85 5 (by decide +kernel) rfl rfl ?_
            refine sm_callV (M2 := mm_B_valueEnd) (av := [.int x7]) (rest := []) 88 (by decide +kernel) ml_D_137 (Nat.le_refl _) rfl rfl (by first | exact Nat.le_of_ble_eq_true rfl | simp [sm_rfc, Value.category]) rfl hf ?_
            rintro r9 h8 ⟨z10, rfl, hf⟩
            change sm_W N (d + 1) mm_D_sameHolders 88 [(0, .ref x0), (2, .ref x2), (4, .int x4), (5, .int x5), (6, .int x6), (7, .int x7), (8, .int x8), (9, .int x9)] [.int z10] h8 Q
            refine sm_istore (i := 7) 90 [(7, .int z10), (0, .ref x0), (2, .ref x2), (4, .int x4), (5, .int x5), (6, .int x6), (8, .int x8), (9, .int x9)] (by decide +kernel) (by decide) (by first | rfl | simp [sm_rfc]) rfl ?_
            refine sm_aload_n (k := 2) 91 2 (by decide +kernel) rfl rfl rfl ?_
            refine sm_iload (i := 8) 93 6 (by decide +kernel) rfl rfl ?_
            refine sm_callV (M2 := mm_B_valueEnd) (av := [.int x8]) (rest := []) 96 (by decide +kernel) ml_D_137 (Nat.le_refl _) rfl rfl (by first | exact Nat.le_of_ble_eq_true rfl | simp [sm_rfc, Value.category]) rfl hf ?_
            rintro r12 h11 ⟨z13, rfl, hf⟩
            change sm_W N (d + 1) mm_D_sameHolders 96 [(7, .int z10), (0, .ref x0), (2, .ref x2), (4, .int x4), (5, .int x5), (6, .int x6), (8, .int x8), (9, .int x9)] [.int z13] h11 Q
            refine sm_istore (i := 8) 98 [(8, .int z13), (7, .int z10), (0, .ref x0), (2, .ref x2), (4, .int x4), (5, .int x5), (6, .int x6), (9, .int x9)] (by decide +kernel) (by decide) (by first | rfl | simp [sm_rfc]) rfl ?_
            refine sm_iinc (i := 9) (j := 7) (z := 1) (y := x9 + 1) 101 [(9, .int (x9 + 1)), (8, .int z13), (7, .int z10), (0, .ref x0), (2, .ref x2), (4, .int x4), (5, .int x5), (6, .int x6)] (by decide +kernel) rfl (by rfl) (by decide) rfl rfl ?_
            refine sm_goto (off := -74) 27 (by decide +kernel) (by decide) ?_
            exact sm_sub [3, 4, 5, 6, 7, 2, 1, 0] rfl hf
          · have hf := hf.1 q14
            refine sm_iconst (i := 0) (x := 0) 81 (by decide +kernel) rfl rfl ?_
            exact sm_zret rfl (by decide +kernel) (by decide) hf
def fD_sameHolders_104 (N d : Nat) (h : sm_H) (Q : Option Value → sm_H → Prop) (x5 : Int32) (x6 : Int32) (x7 : Int32) (x8 : Int32) : Prop := ((x7 < x5 → Q (some (.int 0)) h) ∧ (¬ x7 < x5 → ((x8 < x6 → Q (some (.int 0)) h) ∧ (¬ x8 < x6 → Q (some (.int 1)) h))))
set_option maxRecDepth 20000 in
set_option maxHeartbeats 4000000 in
theorem kD_sameHolders_104 {N d : Nat} {h : sm_H} {Q : Option Value → sm_H → Prop} {x5 : Int32} {x6 : Int32} {x7 : Int32} {x8 : Int32} (hf : fD_sameHolders_104 N d h Q x5 x6 x7 x8) : sm_W N (d + 1) mm_D_sameHolders 104 [(5, .int x5), (6, .int x6), (7, .int x7), (8, .int x8)] [] h Q := by
  unfold fD_sameHolders_104 at hf
  refine sm_iload (i := 7) 106 2 (by decide +kernel) rfl rfl ?_
  refine sm_iload (i := 5) 108 0 (by decide +kernel) rfl rfl ?_
  refine sm_icmp_lt (off := 14) 111 122 (by decide +kernel) (by decide) rfl (fun q2 => ?_) (fun q2 => ?_)
  · have hf := hf.1 q2
    refine sm_iconst (i := 0) (x := 0) 123 (by decide +kernel) rfl rfl ?_
    exact sm_zret rfl (by decide +kernel) (by decide) hf
  · have hf := hf.2 q2
    refine sm_iload (i := 8) 113 3 (by decide +kernel) rfl rfl ?_
    refine sm_iload (i := 6) 115 1 (by decide +kernel) rfl rfl ?_
    refine sm_icmp_lt (off := 7) 118 122 (by decide +kernel) (by decide) rfl (fun q1 => ?_) (fun q1 => ?_)
    · have hf := hf.1 q1
      refine sm_iconst (i := 0) (x := 0) 123 (by decide +kernel) rfl rfl ?_
      exact sm_zret rfl (by decide +kernel) (by decide) hf
    · have hf := hf.2 q1
      refine sm_iconst (i := 1) (x := 1) 119 (by decide +kernel) rfl rfl ?_
      refine sm_goto (off := 4) 123 (by decide +kernel) (by decide) ?_
      exact sm_zret rfl (by decide +kernel) (by decide) hf
theorem cD_sameHolders {N d : Nat} {h : sm_H} {Q : Option Value → sm_H → Prop} {x0 : Nat} {x1 : Int32} {x2 : Nat} {x3 : Int32} {x4 : Int32} (hf : fD_sameHolders_0 N d h Q x0 x1 x2 x3 x4) : sm_T N (d + 1) mm_D_sameHolders [.ref x0, .int x1, .ref x2, .int x3, .int x4] h Q := sm_meth (by decide +kernel) (fun _ => Nat.le_of_ble_eq_true rfl) (fun _ => rfl) (kD_sameHolders_0 hf)
def fD_sameNames_0 (N d : Nat) (h : sm_H) (Q : Option Value → sm_H → Prop) (x0 : Nat) (x1 : Int32) (x2 : Nat) (x3 : Int32) : Prop := sm_W N (d + 1) mm_D_sameNames 3 [(0, .ref x0), (1, .int x1), (2, .ref x2), (3, .int x3), (4, .int 0)] [] h Q
set_option maxRecDepth 20000 in
set_option maxHeartbeats 4000000 in
theorem kD_sameNames_0 {N d : Nat} {h : sm_H} {Q : Option Value → sm_H → Prop} {x0 : Nat} {x1 : Int32} {x2 : Nat} {x3 : Int32} (hf : fD_sameNames_0 N d h Q x0 x1 x2 x3) : sm_W N (d + 1) mm_D_sameNames 0 [(0, .ref x0), (1, .int x1), (2, .ref x2), (3, .int x3)] [] h Q := by
  unfold fD_sameNames_0 at hf
  refine sm_iconst (i := 0) (x := 0) 1 (by decide +kernel) rfl rfl ?_
  refine sm_istore (i := 4) 3 [(4, .int 0), (0, .ref x0), (1, .int x1), (2, .ref x2), (3, .int x3)] (by decide +kernel) (by decide) (by first | rfl | simp [sm_rfc]) rfl ?_
  exact sm_sub [1, 2, 3, 4, 0] rfl hf
def fD_sameNames_3 (N d : Nat) (h : sm_H) (Q : Option Value → sm_H → Prop) (x0 : Nat) (x1 : Int32) (x2 : Nat) (x3 : Int32) (x4 : Int32) : Prop := ∃ z1 : Int32, sm_g h x0 0 1 = some (.int z1) ∧ ((z1 ≤ x4 → Q (some (.int 0)) h) ∧ (¬ z1 ≤ x4 → sm_V N d mm_B_at 0 x0 [.int (x1 + x4)] h (fun r3 h2 => ∃ z4 : Int32, r3 = some (.int z4) ∧ sm_V N d mm_B_at 0 x2 [.int (x3 + x4)] h2 (fun r6 h5 => ∃ z7 : Int32, r6 = some (.int z7) ∧ ((z4 = z7 → ((z4 = 0 → Q (some (.int 1)) h5) ∧ (¬ z4 = 0 → sm_W N (d + 1) mm_D_sameNames 3 [(0, .ref x0), (1, .int x1), (2, .ref x2), (3, .int x3), (4, .int (x4 + 1))] [] h5 Q))) ∧ (¬ z4 = z7 → Q (some (.int 0)) h5))))))
set_option maxRecDepth 20000 in
set_option maxHeartbeats 4000000 in
theorem kD_sameNames_3 {N d : Nat} {h : sm_H} {Q : Option Value → sm_H → Prop} {x0 : Nat} {x1 : Int32} {x2 : Nat} {x3 : Int32} {x4 : Int32} (hf : fD_sameNames_3 N d h Q x0 x1 x2 x3 x4) : sm_W N (d + 1) mm_D_sameNames 3 [(0, .ref x0), (1, .int x1), (2, .ref x2), (3, .int x3), (4, .int x4)] [] h Q := by
  unfold fD_sameNames_3 at hf
  refine sm_iload (i := 4) 5 4 (by decide +kernel) rfl rfl ?_
  refine sm_aload_n (k := 0) 6 0 (by decide +kernel) rfl rfl rfl ?_
  obtain ⟨z1, ez1, hf⟩ := hf
  refine sm_get 9 (by decide +kernel) fl_D_57 ez1 rfl ?_
  refine sm_icmp_ge (off := 41) 12 50 (by decide +kernel) (by decide) rfl (fun q10 => ?_) (fun q10 => ?_)
  · have hf := hf.1 q10
    refine sm_iconst (i := 0) (x := 0) 51 (by decide +kernel) rfl rfl ?_
    exact sm_zret rfl (by decide +kernel) (by decide) hf
  · have hf := hf.2 q10
    refine sm_aload_n (k := 0) 13 0 (by decide +kernel) rfl rfl rfl ?_
    refine sm_iload_n (k := 1) 14 1 (by decide +kernel) rfl rfl rfl ?_
    refine sm_iload (i := 4) 16 4 (by decide +kernel) rfl rfl ?_
    refine sm_iadd 17 (by decide +kernel) rfl ?_
    refine sm_callV (M2 := mm_B_at) (av := [.int (x1 + x4)]) (rest := []) 20 (by decide +kernel) ml_D_119 (Nat.le_refl _) rfl rfl (by first | exact Nat.le_of_ble_eq_true rfl | simp [sm_rfc, Value.category]) rfl hf ?_
    rintro r3 h2 ⟨z4, rfl, hf⟩
    change sm_W N (d + 1) mm_D_sameNames 20 [(0, .ref x0), (1, .int x1), (2, .ref x2), (3, .int x3), (4, .int x4)] [.int z4] h2 Q
    refine sm_istore (i := 5) 22 [(5, .int z4), (0, .ref x0), (1, .int x1), (2, .ref x2), (3, .int x3), (4, .int x4)] (by decide +kernel) (by decide) (by first | rfl | simp [sm_rfc]) rfl ?_
    refine sm_iload (i := 5) 24 0 (by decide +kernel) rfl rfl ?_
    refine sm_aload_n (k := 2) 25 3 (by decide +kernel) rfl rfl rfl ?_
    refine sm_iload_n (k := 3) 26 4 (by decide +kernel) rfl rfl rfl ?_
    refine sm_iload (i := 4) 28 5 (by decide +kernel) rfl rfl ?_
    refine sm_iadd 29 (by decide +kernel) rfl ?_
    refine sm_callV (M2 := mm_B_at) (av := [.int (x3 + x4)]) (rest := [.int z4]) 32 (by decide +kernel) ml_D_119 (Nat.le_refl _) rfl rfl (by first | exact Nat.le_of_ble_eq_true rfl | simp [sm_rfc, Value.category]) rfl hf ?_
    rintro r6 h5 ⟨z7, rfl, hf⟩
    change sm_W N (d + 1) mm_D_sameNames 32 [(5, .int z4), (0, .ref x0), (1, .int x1), (2, .ref x2), (3, .int x3), (4, .int x4)] [.int z7, .int z4] h5 Q
    refine sm_icmp_eq (off := 5) 35 37 (by decide +kernel) (by decide) rfl (fun q9 => ?_) (fun q9 => ?_)
    · have hf := hf.1 q9
      refine sm_iload (i := 5) 39 0 (by decide +kernel) rfl rfl ?_
      refine sm_if_ne (off := 5) 42 44 (by decide +kernel) (by decide) rfl (fun q8 => ?_) (fun q8 => ?_)
      · have hf := hf.2 q8
        refine sm_iinc (i := 4) (j := 5) (z := 1) (y := x4 + 1) 47 [(4, .int (x4 + 1)), (5, .int z4), (0, .ref x0), (1, .int x1), (2, .ref x2), (3, .int x3)] (by decide +kernel) rfl (by rfl) (by decide) rfl rfl ?_
        refine sm_goto (off := -44) 3 (by decide +kernel) (by decide) ?_
        exact sm_sub [2, 3, 4, 5, 0] rfl hf
      · have hf := hf.1 q8
        refine sm_iconst (i := 1) (x := 1) 43 (by decide +kernel) rfl rfl ?_
        exact sm_zret rfl (by decide +kernel) (by decide) hf
    · have hf := hf.2 q9
      refine sm_iconst (i := 0) (x := 0) 36 (by decide +kernel) rfl rfl ?_
      exact sm_zret rfl (by decide +kernel) (by decide) hf
theorem cD_sameNames {N d : Nat} {h : sm_H} {Q : Option Value → sm_H → Prop} {x0 : Nat} {x1 : Int32} {x2 : Nat} {x3 : Int32} (hf : fD_sameNames_0 N d h Q x0 x1 x2 x3) : sm_T N (d + 1) mm_D_sameNames [.ref x0, .int x1, .ref x2, .int x3] h Q := sm_meth (by decide +kernel) (fun _ => Nat.le_of_ble_eq_true rfl) (fun _ => rfl) (kD_sameNames_0 hf)
def fD_sameRange_0 (N d : Nat) (h : sm_H) (Q : Option Value → sm_H → Prop) (x0 : Nat) (x1 : Int32) (x2 : Int32) (x3 : Nat) (x4 : Int32) (x5 : Int32) : Prop := (((x2 - x1) = (x5 - x4) → sm_W N (d + 1) mm_D_sameRange 20 [(0, .ref x0), (1, .int x1), (3, .ref x3), (4, .int x4), (6, .int (x2 - x1)), (7, .int 0)] [] h Q) ∧ (¬ (x2 - x1) = (x5 - x4) → Q (some (.int 0)) h))
set_option maxRecDepth 20000 in
set_option maxHeartbeats 4000000 in
theorem kD_sameRange_0 {N d : Nat} {h : sm_H} {Q : Option Value → sm_H → Prop} {x0 : Nat} {x1 : Int32} {x2 : Int32} {x3 : Nat} {x4 : Int32} {x5 : Int32} (hf : fD_sameRange_0 N d h Q x0 x1 x2 x3 x4 x5) : sm_W N (d + 1) mm_D_sameRange 0 [(0, .ref x0), (1, .int x1), (2, .int x2), (3, .ref x3), (4, .int x4), (5, .int x5)] [] h Q := by
  unfold fD_sameRange_0 at hf
  refine sm_iload_n (k := 2) 1 2 (by decide +kernel) rfl rfl rfl ?_
  refine sm_iload_n (k := 1) 2 1 (by decide +kernel) rfl rfl rfl ?_
  refine sm_isub 3 (by decide +kernel) rfl ?_
  refine sm_istore (i := 6) 5 [(6, .int (x2 - x1)), (0, .ref x0), (1, .int x1), (2, .int x2), (3, .ref x3), (4, .int x4), (5, .int x5)] (by decide +kernel) (by decide) (by first | rfl | simp [sm_rfc]) rfl ?_
  refine sm_iload (i := 6) 7 0 (by decide +kernel) rfl rfl ?_
  refine sm_iload (i := 5) 9 6 (by decide +kernel) rfl rfl ?_
  refine sm_iload (i := 4) 11 5 (by decide +kernel) rfl rfl ?_
  refine sm_isub 12 (by decide +kernel) rfl ?_
  refine sm_icmp_eq (off := 5) 15 17 (by decide +kernel) (by decide) rfl (fun q1 => ?_) (fun q1 => ?_)
  · have hf := hf.1 q1
    refine sm_iconst (i := 0) (x := 0) 18 (by decide +kernel) rfl rfl ?_
    refine sm_istore (i := 7) 20 [(7, .int 0), (6, .int (x2 - x1)), (0, .ref x0), (1, .int x1), (2, .int x2), (3, .ref x3), (4, .int x4), (5, .int x5)] (by decide +kernel) (by decide) (by first | rfl | simp [sm_rfc]) rfl ?_
    exact sm_sub [2, 3, 5, 6, 1, 0] rfl hf
  · have hf := hf.2 q1
    refine sm_iconst (i := 0) (x := 0) 16 (by decide +kernel) rfl rfl ?_
    exact sm_zret rfl (by decide +kernel) (by decide) hf
def fD_sameRange_20 (N d : Nat) (h : sm_H) (Q : Option Value → sm_H → Prop) (x0 : Nat) (x1 : Int32) (x3 : Nat) (x4 : Int32) (x6 : Int32) (x7 : Int32) : Prop := ((x6 ≤ x7 → Q (some (.int 1)) h) ∧ (¬ x6 ≤ x7 → sm_V N d mm_B_at 0 x0 [.int (x1 + x7)] h (fun r2 h1 => ∃ z3 : Int32, r2 = some (.int z3) ∧ sm_V N d mm_B_at 0 x3 [.int (x4 + x7)] h1 (fun r5 h4 => ∃ z6 : Int32, r5 = some (.int z6) ∧ ((z3 = z6 → sm_W N (d + 1) mm_D_sameRange 20 [(0, .ref x0), (1, .int x1), (3, .ref x3), (4, .int x4), (6, .int x6), (7, .int (x7 + 1))] [] h4 Q) ∧ (¬ z3 = z6 → Q (some (.int 0)) h4))))))
set_option maxRecDepth 20000 in
set_option maxHeartbeats 4000000 in
theorem kD_sameRange_20 {N d : Nat} {h : sm_H} {Q : Option Value → sm_H → Prop} {x0 : Nat} {x1 : Int32} {x3 : Nat} {x4 : Int32} {x6 : Int32} {x7 : Int32} (hf : fD_sameRange_20 N d h Q x0 x1 x3 x4 x6 x7) : sm_W N (d + 1) mm_D_sameRange 20 [(0, .ref x0), (1, .int x1), (3, .ref x3), (4, .int x4), (6, .int x6), (7, .int x7)] [] h Q := by
  unfold fD_sameRange_20 at hf
  refine sm_iload (i := 7) 22 5 (by decide +kernel) rfl rfl ?_
  refine sm_iload (i := 6) 24 4 (by decide +kernel) rfl rfl ?_
  refine sm_icmp_ge (off := 31) 27 55 (by decide +kernel) (by decide) rfl (fun q8 => ?_) (fun q8 => ?_)
  · have hf := hf.1 q8
    refine sm_iconst (i := 1) (x := 1) 56 (by decide +kernel) rfl rfl ?_
    exact sm_zret rfl (by decide +kernel) (by decide) hf
  · have hf := hf.2 q8
    refine sm_aload_n (k := 0) 28 0 (by decide +kernel) rfl rfl rfl ?_
    refine sm_iload_n (k := 1) 29 1 (by decide +kernel) rfl rfl rfl ?_
    refine sm_iload (i := 7) 31 5 (by decide +kernel) rfl rfl ?_
    refine sm_iadd 32 (by decide +kernel) rfl ?_
    refine sm_callV (M2 := mm_B_at) (av := [.int (x1 + x7)]) (rest := []) 35 (by decide +kernel) ml_D_119 (Nat.le_refl _) rfl rfl (by first | exact Nat.le_of_ble_eq_true rfl | simp [sm_rfc, Value.category]) rfl hf ?_
    rintro r2 h1 ⟨z3, rfl, hf⟩
    change sm_W N (d + 1) mm_D_sameRange 35 [(0, .ref x0), (1, .int x1), (3, .ref x3), (4, .int x4), (6, .int x6), (7, .int x7)] [.int z3] h1 Q
    refine sm_aload_n (k := 3) 36 2 (by decide +kernel) rfl rfl rfl ?_
    refine sm_iload (i := 4) 38 3 (by decide +kernel) rfl rfl ?_
    refine sm_iload (i := 7) 40 5 (by decide +kernel) rfl rfl ?_
    refine sm_iadd 41 (by decide +kernel) rfl ?_
    refine sm_callV (M2 := mm_B_at) (av := [.int (x4 + x7)]) (rest := [.int z3]) 44 (by decide +kernel) ml_D_119 (Nat.le_refl _) rfl rfl (by first | exact Nat.le_of_ble_eq_true rfl | simp [sm_rfc, Value.category]) rfl hf ?_
    rintro r5 h4 ⟨z6, rfl, hf⟩
    change sm_W N (d + 1) mm_D_sameRange 44 [(0, .ref x0), (1, .int x1), (3, .ref x3), (4, .int x4), (6, .int x6), (7, .int x7)] [.int z6, .int z3] h4 Q
    refine sm_icmp_eq (off := 5) 47 49 (by decide +kernel) (by decide) rfl (fun q7 => ?_) (fun q7 => ?_)
    · have hf := hf.1 q7
      refine sm_iinc (i := 7) (j := 5) (z := 1) (y := x7 + 1) 52 [(7, .int (x7 + 1)), (0, .ref x0), (1, .int x1), (3, .ref x3), (4, .int x4), (6, .int x6)] (by decide +kernel) rfl (by rfl) (by decide) rfl rfl ?_
      refine sm_goto (off := -32) 20 (by decide +kernel) (by decide) ?_
      exact sm_sub [1, 2, 3, 4, 5, 0] rfl hf
    · have hf := hf.2 q7
      refine sm_iconst (i := 0) (x := 0) 48 (by decide +kernel) rfl rfl ?_
      exact sm_zret rfl (by decide +kernel) (by decide) hf
theorem cD_sameRange {N d : Nat} {h : sm_H} {Q : Option Value → sm_H → Prop} {x0 : Nat} {x1 : Int32} {x2 : Int32} {x3 : Nat} {x4 : Int32} {x5 : Int32} (hf : fD_sameRange_0 N d h Q x0 x1 x2 x3 x4 x5) : sm_T N (d + 1) mm_D_sameRange [.ref x0, .int x1, .int x2, .ref x3, .int x4, .int x5] h Q := sm_meth (by decide +kernel) (fun _ => Nat.le_of_ble_eq_true rfl) (fun _ => rfl) (kD_sameRange_0 hf)
