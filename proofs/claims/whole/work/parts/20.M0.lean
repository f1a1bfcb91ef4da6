def fM_at_0 (N d : Nat) (h : sm_H) (Q : Option Value → sm_H → Prop) (x0 : Nat) (x1 : Int32) : Prop := ∃ z1 : Nat, sm_g h x0 5 1 = some (.ref z1) ∧ ∃ z2 : Int32, sm_gi h z1 0 x1 = some z2 ∧ Q (some (.int (z2 &&& 255))) h
set_option maxRecDepth 20000 in
set_option maxHeartbeats 4000000 in
theorem kM_at_0 {N d : Nat} {h : sm_H} {Q : Option Value → sm_H → Prop} {x0 : Nat} {x1 : Int32} (hf : fM_at_0 N d h Q x0 x1) : sm_W N (d + 1) mm_M_at 0 [(0, .ref x0), (1, .int x1)] [] h Q := by
  unfold fM_at_0 at hf
  refine sm_aload_n (k := 0) 1 0 (by decide +kernel) rfl rfl rfl ?_
  obtain ⟨z1, ez1, hf⟩ := hf
  refine sm_get 4 (by decide +kernel) fl_M_7 ez1 rfl ?_
  refine sm_iload_n (k := 1) 5 1 (by decide +kernel) rfl rfl rfl ?_
  obtain ⟨z2, ez2, hf⟩ := hf
  refine sm_bald 6 (by decide +kernel) ez2 rfl ?_
  refine sm_sipush (i := 255) (x := 255) 9 (by decide +kernel) (by decide) rfl ?_
  refine sm_iand 10 (by decide +kernel) rfl ?_
  exact sm_iret rfl (by decide +kernel) hf
theorem cM_at {N d : Nat} {h : sm_H} {Q : Option Value → sm_H → Prop} {x0 : Nat} {x1 : Int32} (hb : ∃ fs, h[x0]? = some (.inr (5, fs))) (hf : fM_at_0 N d h Q x0 x1) : sm_V N (d + 1) mm_M_at 5 x0 [.int x1] h Q := ⟨hb, sm_meth (by decide +kernel) (fun _ => Nat.le_of_ble_eq_true rfl) (fun _ => rfl) (kM_at_0 hf)⟩
def fM_whole_0 (N d : Nat) (h : sm_H) (Q : Option Value → sm_H → Prop) (x0 : Nat) (x1 : Int32) : Prop := sm_V N d mm_M_at 5 x0 [.int x1] h (fun r2 h1 => ∃ z3 : Int32, r2 = some (.int z3) ∧ sm_V N d mm_M_at 5 x0 [.int (x1 + 1)] h1 (fun r5 h4 => ∃ z6 : Int32, r5 = some (.int z6) ∧ sm_V N d mm_M_at 5 x0 [.int (x1 + 2)] h4 (fun r8 h7 => ∃ z9 : Int32, r8 = some (.int z9) ∧ sm_V N d mm_M_at 5 x0 [.int (x1 + 3)] h7 (fun r11 h10 => ∃ z12 : Int32, r11 = some (.int z12) ∧ Q (some (.int (((z3 + (256 * z6)) + (65536 * z9)) + (16777216 * z12)))) h10))))
set_option maxRecDepth 20000 in
set_option maxHeartbeats 4000000 in
theorem kM_whole_0 {N d : Nat} {h : sm_H} {Q : Option Value → sm_H → Prop} {x0 : Nat} {x1 : Int32} (hf : fM_whole_0 N d h Q x0 x1) : sm_W N (d + 1) mm_M_whole 0 [(0, .ref x0), (1, .int x1)] [] h Q := by
  unfold fM_whole_0 at hf
  refine sm_aload_n (k := 0) 1 0 (by decide +kernel) rfl rfl rfl ?_
  refine sm_iload_n (k := 1) 2 1 (by decide +kernel) rfl rfl rfl ?_
  refine sm_callV (M2 := mm_M_at) (av := [.int x1]) (rest := []) 5 (by decide +kernel) ml_M_73 (Nat.le_refl _) rfl rfl (by first | exact Nat.le_of_ble_eq_true rfl | simp [sm_rfc, Value.category]) rfl hf ?_
  rintro r2 h1 ⟨z3, rfl, hf⟩
  change sm_W N (d + 1) mm_M_whole 5 [(0, .ref x0), (1, .int x1)] [.int z3] h1 Q
  refine sm_sipush (i := 256) (x := 256) 8 (by decide +kernel) (by decide) rfl ?_
  refine sm_aload_n (k := 0) 9 0 (by decide +kernel) rfl rfl rfl ?_
  refine sm_iload_n (k := 1) 10 1 (by decide +kernel) rfl rfl rfl ?_
  refine sm_iconst (i := 1) (x := 1) 11 (by decide +kernel) rfl rfl ?_
  refine sm_iadd 12 (by decide +kernel) rfl ?_
  refine sm_callV (M2 := mm_M_at) (av := [.int (x1 + 1)]) (rest := [.int 256, .int z3]) 15 (by decide +kernel) ml_M_73 (Nat.le_refl _) rfl rfl (by first | exact Nat.le_of_ble_eq_true rfl | simp [sm_rfc, Value.category]) rfl hf ?_
  rintro r5 h4 ⟨z6, rfl, hf⟩
  change sm_W N (d + 1) mm_M_whole 15 [(0, .ref x0), (1, .int x1)] [.int z6, .int 256, .int z3] h4 Q
  refine sm_imul 16 (by decide +kernel) rfl ?_
  refine sm_iadd 17 (by decide +kernel) rfl ?_
  refine sm_ldc (i := 77) (x := 65536) 19 (by decide +kernel) kc_M_77 rfl ?_
  refine sm_aload_n (k := 0) 20 0 (by decide +kernel) rfl rfl rfl ?_
  refine sm_iload_n (k := 1) 21 1 (by decide +kernel) rfl rfl rfl ?_
  refine sm_iconst (i := 2) (x := 2) 22 (by decide +kernel) rfl rfl ?_
  refine sm_iadd 23 (by decide +kernel) rfl ?_
  refine sm_callV (M2 := mm_M_at) (av := [.int (x1 + 2)]) (rest := [.int 65536, .int (z3 + (256 * z6))]) 26 (by decide +kernel) ml_M_73 (Nat.le_refl _) rfl rfl (by first | exact Nat.le_of_ble_eq_true rfl | simp [sm_rfc, Value.category]) rfl hf ?_
  rintro r8 h7 ⟨z9, rfl, hf⟩
  change sm_W N (d + 1) mm_M_whole 26 [(0, .ref x0), (1, .int x1)] [.int z9, .int 65536, .int (z3 + (256 * z6))] h7 Q
  refine sm_imul 27 (by decide +kernel) rfl ?_
  refine sm_iadd 28 (by decide +kernel) rfl ?_
  refine sm_ldc (i := 78) (x := 16777216) 30 (by decide +kernel) kc_M_78 rfl ?_
  refine sm_aload_n (k := 0) 31 0 (by decide +kernel) rfl rfl rfl ?_
  refine sm_iload_n (k := 1) 32 1 (by decide +kernel) rfl rfl rfl ?_
  refine sm_iconst (i := 3) (x := 3) 33 (by decide +kernel) rfl rfl ?_
  refine sm_iadd 34 (by decide +kernel) rfl ?_
  refine sm_callV (M2 := mm_M_at) (av := [.int (x1 + 3)]) (rest := [.int 16777216, .int ((z3 + (256 * z6)) + (65536 * z9))]) 37 (by decide +kernel) ml_M_73 (Nat.le_refl _) rfl rfl (by first | exact Nat.le_of_ble_eq_true rfl | simp [sm_rfc, Value.category]) rfl hf ?_
  rintro r11 h10 ⟨z12, rfl, hf⟩
  change sm_W N (d + 1) mm_M_whole 37 [(0, .ref x0), (1, .int x1)] [.int z12, .int 16777216, .int ((z3 + (256 * z6)) + (65536 * z9))] h10 Q
  refine sm_imul 38 (by decide +kernel) rfl ?_
  refine sm_iadd 39 (by decide +kernel) rfl ?_
  exact sm_iret rfl (by decide +kernel) hf
theorem cM_whole {N d : Nat} {h : sm_H} {Q : Option Value → sm_H → Prop} {x0 : Nat} {x1 : Int32} (hb : ∃ fs, h[x0]? = some (.inr (5, fs))) (hf : fM_whole_0 N d h Q x0 x1) : sm_V N (d + 1) mm_M_whole 5 x0 [.int x1] h Q := ⟨hb, sm_meth (by decide +kernel) (fun _ => Nat.le_of_ble_eq_true rfl) (fun _ => rfl) (kM_whole_0 hf)⟩
def fM_isSlot_0 (N d : Nat) (h : sm_H) (Q : Option Value → sm_H → Prop) (x0 : Int32) : Prop := ((x0 < 0 → Q (some (.int 0)) h) ∧ (¬ x0 < 0 → ((4 ≤ x0 → Q (some (.int 0)) h) ∧ (¬ 4 ≤ x0 → Q (some (.int 1)) h))))
set_option maxRecDepth 20000 in
set_option maxHeartbeats 4000000 in
theorem kM_isSlot_0 {N d : Nat} {h : sm_H} {Q : Option Value → sm_H → Prop} {x0 : Int32} (hf : fM_isSlot_0 N d h Q x0) : sm_W N (d + 1) mm_M_isSlot 0 [(0, .int x0)] [] h Q := by
  unfold fM_isSlot_0 at hf
  refine sm_iload_n (k := 0) 1 0 (by decide +kernel) rfl rfl rfl ?_
  refine sm_if_lt (off := 12) 4 13 (by decide +kernel) (by decide) rfl (fun q2 => ?_) (fun q2 => ?_)
  · have hf := hf.1 q2
    refine sm_iconst (i := 0) (x := 0) 14 (by decide +kernel) rfl rfl ?_
    exact sm_zret rfl (by decide +kernel) (by decide) hf
  · have hf := hf.2 q2
    refine sm_iload_n (k := 0) 5 0 (by decide +kernel) rfl rfl rfl ?_
    refine sm_iconst (i := 4) (x := 4) 6 (by decide +kernel) rfl rfl ?_
    refine sm_icmp_ge (off := 7) 9 13 (by decide +kernel) (by decide) rfl (fun q1 => ?_) (fun q1 => ?_)
    · have hf := hf.1 q1
      refine sm_iconst (i := 0) (x := 0) 14 (by decide +kernel) rfl rfl ?_
      exact sm_zret rfl (by decide +kernel) (by decide) hf
    · have hf := hf.2 q1
      refine sm_iconst (i := 1) (x := 1) 10 (by decide +kernel) rfl rfl ?_
      refine sm_goto (off := 4) 14 (by decide +kernel) (by decide) ?_
      exact sm_zret rfl (by decide +kernel) (by decide) hf
theorem cM_isSlot {N d : Nat} {h : sm_H} {Q : Option Value → sm_H → Prop} {x0 : Int32} (hf : fM_isSlot_0 N d h Q x0) : sm_T N (d + 1) mm_M_isSlot [.int x0] h Q := sm_meth (by decide +kernel) (fun _ => Nat.le_of_ble_eq_true rfl) (fun _ => rfl) (kM_isSlot_0 hf)
def fM_put_0 (N d : Nat) (h : sm_H) (Q : Option Value → sm_H → Prop) (x0 : Nat) (x1 : Int32) : Prop := sm_W N (d + 1) mm_M_put 3 [(0, .ref x0), (1, .int x1), (2, .int 24)] [] h Q
set_option maxRecDepth 20000 in
set_option maxHeartbeats 4000000 in
theorem kM_put_0 {N d : Nat} {h : sm_H} {Q : Option Value → sm_H → Prop} {x0 : Nat} {x1 : Int32} (hf : fM_put_0 N d h Q x0 x1) : sm_W N (d + 1) mm_M_put 0 [(0, .ref x0), (1, .int x1)] [] h Q := by
  unfold fM_put_0 at hf
  refine sm_bipush (i := 24) (x := 24) 2 (by decide +kernel) (by decide) rfl ?_
  refine sm_istore_n (k := 2) 3 [(2, .int 24), (0, .ref x0), (1, .int x1)] (by decide +kernel) rfl (by decide) (by first | rfl | simp [sm_rfc]) rfl ?_
  exact sm_sub [1, 2, 0] rfl hf
def fM_put_3 (N d : Nat) (h : sm_H) (Q : Option Value → sm_H → Prop) (x0 : Nat) (x1 : Int32) (x2 : Int32) : Prop := ((x2 < 0 → Q none h) ∧ (¬ x2 < 0 → ∃ z1 : Nat, sm_g h x0 5 1 = some (.ref z1) ∧ ∃ z2 : Int32, sm_g h x0 5 2 = some (.int z2) ∧ ∃ h3, sm_pb h z1 (10000 + z2) (Int8.toInt32 (Int32.toInt8 (x1 >>> (x2 &&& 31)))) = some h3 ∧ ∃ z4 : Int32, sm_g h3 x0 5 2 = some (.int z4) ∧ ∃ h5, sm_p h3 x0 5 2 (.int (z4 + 1)) = some h5 ∧ sm_W N (d + 1) mm_M_put 3 [(0, .ref x0), (1, .int x1), (2, .int (x2 + (-8)))] [] h5 Q))
set_option maxRecDepth 20000 in
set_option maxHeartbeats 4000000 in
theorem kM_put_3 {N d : Nat} {h : sm_H} {Q : Option Value → sm_H → Prop} {x0 : Nat} {x1 : Int32} {x2 : Int32} (hf : fM_put_3 N d h Q x0 x1 x2) : sm_W N (d + 1) mm_M_put 3 [(0, .ref x0), (1, .int x1), (2, .int x2)] [] h Q := by
  unfold fM_put_3 at hf
  refine sm_iload_n (k := 2) 4 2 (by decide +kernel) rfl rfl rfl ?_
  refine sm_if_lt (off := 36) 7 40 (by decide +kernel) (by decide) rfl (fun q6 => ?_) (fun q6 => ?_)
  · have hf := hf.1 q6
    exact sm_vret rfl (by decide +kernel) hf
  · have hf := hf.2 q6
    refine sm_aload_n (k := 0) 8 0 (by decide +kernel) rfl rfl rfl ?_
    obtain ⟨z1, ez1, hf⟩ := hf
    refine sm_get 11 (by decide +kernel) fl_M_7 ez1 rfl ?_
    refine sm_sipush (i := 10000) (x := 10000) 14 (by decide +kernel) (by decide) rfl ?_
    refine sm_aload_n (k := 0) 15 0 (by decide +kernel) rfl rfl rfl ?_
    obtain ⟨z2, ez2, hf⟩ := hf
    refine sm_get 18 (by decide +kernel) fl_M_79 ez2 rfl ?_
    refine sm_iadd 19 (by decide +kernel) rfl ?_
    refine sm_iload_n (k := 1) 20 1 (by decide +kernel) rfl rfl rfl ?_
    refine sm_iload_n (k := 2) 21 2 (by decide +kernel) rfl rfl rfl ?_
    refine sm_ishr 22 (by decide +kernel) rfl ?_
    refine sm_i2b 23 (by decide +kernel) rfl ?_
    obtain ⟨h3, eh3, hf⟩ := hf
    refine sm_bast 24 (by decide +kernel) eh3 rfl ?_
    refine sm_aload_n (k := 0) 25 0 (by decide +kernel) rfl rfl rfl ?_
    refine sm_dup 26 (by decide +kernel) (by first | rfl | simp [sm_rfc]) rfl ?_
    obtain ⟨z4, ez4, hf⟩ := hf
    refine sm_get 29 (by decide +kernel) fl_M_79 ez4 rfl ?_
    refine sm_iconst (i := 1) (x := 1) 30 (by decide +kernel) rfl rfl ?_
    refine sm_iadd 31 (by decide +kernel) rfl ?_
    obtain ⟨h5, eh5, hf⟩ := hf
    refine sm_put (ty := .int) 34 (by decide +kernel) fp_M_79 (fun _ => rfl) rfl rfl eh5 rfl ?_
    refine sm_iinc (i := 2) (j := 2) (z := -8) (y := x2 + (-8)) 37 [(2, .int (x2 + (-8))), (0, .ref x0), (1, .int x1)] (by decide +kernel) rfl (by rfl) (by decide) rfl rfl ?_
    refine sm_goto (off := -34) 3 (by decide +kernel) (by decide) ?_
    exact sm_sub [1, 2, 0] rfl hf
theorem cM_put {N d : Nat} {h : sm_H} {Q : Option Value → sm_H → Prop} {x0 : Nat} {x1 : Int32} (hb : ∃ fs, h[x0]? = some (.inr (5, fs))) (hf : fM_put_0 N d h Q x0 x1) : sm_V N (d + 1) mm_M_put 5 x0 [.int x1] h Q := ⟨hb, sm_meth (by decide +kernel) (fun _ => Nat.le_of_ble_eq_true rfl) (fun _ => rfl) (kM_put_0 hf)⟩
def fM_feed_0 (N d : Nat) (h : sm_H) (Q : Option Value → sm_H → Prop) (x0 : Nat) (x1 : Int32) (x2 : Int32) (x3 : Int32) (x4 : Int32) (x5 : Int32) : Prop := ∃ z1 : Int32, sm_g h x0 5 2 = some (.int z1) ∧ (((z1 + 20) ≤ 2000 → sm_V N d mm_M_put 5 x0 [.int x1] h (fun r3 h2 => r3 = none ∧ sm_V N d mm_M_put 5 x0 [.int x2] h2 (fun r5 h4 => r5 = none ∧ sm_V N d mm_M_put 5 x0 [.int x3] h4 (fun r7 h6 => r7 = none ∧ sm_V N d mm_M_put 5 x0 [.int x4] h6 (fun r9 h8 => r9 = none ∧ sm_V N d mm_M_put 5 x0 [.int x5] h8 (fun r11 h10 => r11 = none ∧ ∃ z12 : Int32, sm_g h10 x0 5 2 = some (.int z12) ∧ Q (some (.int z12)) h10)))))) ∧ (¬ (z1 + 20) ≤ 2000 → Q (some (.int (-1))) h))
set_option maxRecDepth 20000 in
set_option maxHeartbeats 4000000 in
theorem kM_feed_0 {N d : Nat} {h : sm_H} {Q : Option Value → sm_H → Prop} {x0 : Nat} {x1 : Int32} {x2 : Int32} {x3 : Int32} {x4 : Int32} {x5 : Int32} (hf : fM_feed_0 N d h Q x0 x1 x2 x3 x4 x5) : sm_W N (d + 1) mm_M_feed 0 [(0, .ref x0), (1, .int x1), (2, .int x2), (3, .int x3), (4, .int x4), (5, .int x5)] [] h Q := by
  unfold fM_feed_0 at hf
  refine sm_aload_n (k := 0) 1 0 (by decide +kernel) rfl rfl rfl ?_
  obtain ⟨z1, ez1, hf⟩ := hf
  refine sm_get 4 (by decide +kernel) fl_M_79 ez1 rfl ?_
  refine sm_bipush (i := 20) (x := 20) 6 (by decide +kernel) (by decide) rfl ?_
  refine sm_iadd 7 (by decide +kernel) rfl ?_
  refine sm_sipush (i := 2000) (x := 2000) 10 (by decide +kernel) (by decide) rfl ?_
  refine sm_icmp_le (off := 5) 13 15 (by decide +kernel) (by decide) rfl (fun q13 => ?_) (fun q13 => ?_)
  · have hf := hf.1 q13
    refine sm_aload_n (k := 0) 16 0 (by decide +kernel) rfl rfl rfl ?_
    refine sm_iload_n (k := 1) 17 1 (by decide +kernel) rfl rfl rfl ?_
    refine sm_callV (M2 := mm_M_put) (av := [.int x1]) (rest := []) 20 (by decide +kernel) ml_M_82 (Nat.le_refl _) rfl rfl (by first | exact Nat.le_of_ble_eq_true rfl | simp [sm_rfc, Value.category]) rfl hf ?_
    rintro r3 h2 ⟨rfl, hf⟩
    change sm_W N (d + 1) mm_M_feed 20 [(0, .ref x0), (1, .int x1), (2, .int x2), (3, .int x3), (4, .int x4), (5, .int x5)] [] h2 Q
    refine sm_aload_n (k := 0) 21 0 (by decide +kernel) rfl rfl rfl ?_
    refine sm_iload_n (k := 2) 22 2 (by decide +kernel) rfl rfl rfl ?_
    refine sm_callV (M2 := mm_M_put) (av := [.int x2]) (rest := []) 25 (by decide +kernel) ml_M_82 (Nat.le_refl _) rfl rfl (by first | exact Nat.le_of_ble_eq_true rfl | simp [sm_rfc, Value.category]) rfl hf ?_
    rintro r5 h4 ⟨rfl, hf⟩
    change sm_W N (d + 1) mm_M_feed 25 [(0, .ref x0), (1, .int x1), (2, .int x2), (3, .int x3), (4, .int x4), (5, .int x5)] [] h4 Q
    refine sm_aload_n (k := 0) 26 0 (by decide +kernel) rfl rfl rfl ?_
    refine sm_iload_n (k := 3) 27 3 (by decide +kernel) rfl rfl rfl ?_
    refine sm_callV (M2 := mm_M_put) (av := [.int x3]) (rest := []) 30 (by decide +kernel) ml_M_82 (Nat.le_refl _) rfl rfl (by first | exact Nat.le_of_ble_eq_true rfl | simp [sm_rfc, Value.category]) rfl hf ?_
    rintro r7 h6 ⟨rfl, hf⟩
    change sm_W N (d + 1) mm_M_feed 30 [(0, .ref x0), (1, .int x1), (2, .int x2), (3, .int x3), (4, .int x4), (5, .int x5)] [] h6 Q
    refine sm_aload_n (k := 0) 31 0 (by decide +kernel) rfl rfl rfl ?_
    refine sm_iload (i := 4) 33 4 (by decide +kernel) rfl rfl ?_
    refine sm_callV (M2 := mm_M_put) (av := [.int x4]) (rest := []) 36 (by decide +kernel) ml_M_82 (Nat.le_refl _) rfl rfl (by first | exact Nat.le_of_ble_eq_true rfl | simp [sm_rfc, Value.category]) rfl hf ?_
    rintro r9 h8 ⟨rfl, hf⟩
    change sm_W N (d + 1) mm_M_feed 36 [(0, .ref x0), (1, .int x1), (2, .int x2), (3, .int x3), (4, .int x4), (5, .int x5)] [] h8 Q
    refine sm_aload_n (k := 0) 37 0 (by decide +kernel) rfl rfl rfl ?_
    refine sm_iload (i := 5) 39 5 (by decide +kernel) rfl rfl ?_
    refine sm_callV (M2 := mm_M_put) (av := [.int x5]) (rest := []) 42 (by decide +kernel) ml_M_82 (Nat.le_refl _) rfl rfl (by first | exact Nat.le_of_ble_eq_true rfl | simp [sm_rfc, Value.category]) rfl hf ?_
    rintro r11 h10 ⟨rfl, hf⟩
    change sm_W N (d + 1) mm_M_feed 42 [(0, .ref x0), (1, .int x1), (2, .int x2), (3, .int x3), (4, .int x4), (5, .int x5)] [] h10 Q
    refine sm_aload_n (k := 0) 43 0 (by decide +kernel) rfl rfl rfl ?_
    obtain ⟨z12, ez12, hf⟩ := hf
    refine sm_get 46 (by decide +kernel) fl_M_79 ez12 rfl ?_
    exact sm_iret rfl (by decide +kernel) hf
  · have hf := hf.2 q13
    refine sm_iconst (i := -1) (x := (-1)) 14 (by decide +kernel) rfl rfl ?_
    exact sm_iret rfl (by decide +kernel) hf
theorem cM_feed {N d : Nat} {h : sm_H} {Q : Option Value → sm_H → Prop} {x0 : Nat} {x1 : Int32} {x2 : Int32} {x3 : Int32} {x4 : Int32} {x5 : Int32} (hb : ∃ fs, h[x0]? = some (.inr (5, fs))) (hf : fM_feed_0 N d h Q x0 x1 x2 x3 x4 x5) : sm_V N (d + 1) mm_M_feed 5 x0 [.int x1, .int x2, .int x3, .int x4, .int x5] h Q := ⟨hb, sm_meth (by decide +kernel) (fun _ => Nat.le_of_ble_eq_true rfl) (fun _ => rfl) (kM_feed_0 hf)⟩
def fM_character_0 (N d : Nat) (h : sm_H) (Q : Option Value → sm_H → Prop) (x0 : Nat) (x1 : Int32) (x2 : Int32) : Prop := sm_V N d mm_M_at 5 x0 [.int x1] h (fun r2 h1 => ∃ z3 : Int32, r2 = some (.int z3) ∧ ((128 ≤ z3 → ((192 ≤ z3 → ((224 ≤ z3 → ((240 ≤ z3 → ((248 ≤ z3 → sm_W N (d + 1) mm_M_character 60 [(0, .ref x0), (1, .int x1), (2, .int x2), (3, .int z3)] [.int 0] h1 Q) ∧ (¬ 248 ≤ z3 → sm_W N (d + 1) mm_M_character 60 [(0, .ref x0), (1, .int x1), (2, .int x2), (3, .int z3)] [.int 4] h1 Q))) ∧ (¬ 240 ≤ z3 → sm_W N (d + 1) mm_M_character 60 [(0, .ref x0), (1, .int x1), (2, .int x2), (3, .int z3)] [.int 3] h1 Q))) ∧ (¬ 224 ≤ z3 → sm_W N (d + 1) mm_M_character 60 [(0, .ref x0), (1, .int x1), (2, .int x2), (3, .int z3)] [.int 2] h1 Q))) ∧ (¬ 192 ≤ z3 → sm_W N (d + 1) mm_M_character 60 [(0, .ref x0), (1, .int x1), (2, .int x2), (3, .int z3)] [.int 0] h1 Q))) ∧ (¬ 128 ≤ z3 → Q (some (.int 1)) h1)))
set_option maxRecDepth 20000 in
set_option maxHeartbeats 4000000 in
theorem kM_character_0 {N d : Nat} {h : sm_H} {Q : Option Value → sm_H → Prop} {x0 : Nat} {x1 : Int32} {x2 : Int32} (hf : fM_character_0 N d h Q x0 x1 x2) : sm_W N (d + 1) mm_M_character 0 [(0, .ref x0), (1, .int x1), (2, .int x2)] [] h Q := by
  unfold fM_character_0 at hf
  refine sm_aload_n (k := 0) 1 0 (by decide +kernel) rfl rfl rfl ?_
  refine sm_iload_n (k := 1) 2 1 (by decide +kernel) rfl rfl rfl ?_
  refine sm_callV (M2 := mm_M_at) (av := [.int x1]) (rest := []) 5 (by decide +kernel) ml_M_73 (Nat.le_refl _) rfl rfl (by first | exact Nat.le_of_ble_eq_true rfl | simp [sm_rfc, Value.category]) rfl hf ?_
  rintro r2 h1 ⟨z3, rfl, hf⟩
  change sm_W N (d + 1) mm_M_character 5 [(0, .ref x0), (1, .int x1), (2, .int x2)] [.int z3] h1 Q
  refine sm_istore_n (k := 3) 6 [(3, .int z3), (0, .ref x0), (1, .int x1), (2, .int x2)] (by decide +kernel) rfl (by decide) (by first | rfl | simp [sm_rfc]) rfl ?_
  refine sm_iload_n (k := 3) 7 0 (by decide +kernel) rfl rfl rfl ?_
  refine sm_sipush (i := 128) (x := 128) 10 (by decide +kernel) (by decide) rfl ?_
  refine sm_icmp_ge (off := 5) 13 15 (by decide +kernel) (by decide) rfl (fun q8 => ?_) (fun q8 => ?_)
  · have hf := hf.1 q8
    refine sm_iload_n (k := 3) 16 0 (by decide +kernel) rfl rfl rfl ?_
    refine sm_sipush (i := 192) (x := 192) 19 (by decide +kernel) (by decide) rfl ?_
    refine sm_icmp_ge (off := 7) 22 26 (by decide +kernel) (by decide) rfl (fun q7 => ?_) (fun q7 => ?_)
    · have hf := hf.1 q7
      refine sm_iload_n (k := 3) 27 0 (by decide +kernel) rfl rfl rfl ?_
      refine sm_sipush (i := 224) (x := 224) 30 (by decide +kernel) (by decide) rfl ?_
      refine sm_icmp_ge (off := 7) 33 37 (by decide +kernel) (by decide) rfl (fun q6 => ?_) (fun q6 => ?_)
      · have hf := hf.1 q6
        refine sm_iload_n (k := 3) 38 0 (by decide +kernel) rfl rfl rfl ?_
        refine sm_sipush (i := 240) (x := 240) 41 (by decide +kernel) (by decide) rfl ?_
        refine sm_icmp_ge (off := 7) 44 48 (by decide +kernel) (by decide) rfl (fun q5 => ?_) (fun q5 => ?_)
        · have hf := hf.1 q5
          refine sm_iload_n (k := 3) 49 0 (by decide +kernel) rfl rfl rfl ?_
          refine sm_sipush (i := 248) (x := 248) 52 (by decide +kernel) (by decide) rfl ?_
          refine sm_icmp_ge (off := 7) 55 59 (by decide +kernel) (by decide) rfl (fun q4 => ?_) (fun q4 => ?_)
          · have hf := hf.1 q4
            refine sm_iconst (i := 0) (x := 0) 60 (by decide +kernel) rfl rfl ?_
            exact sm_sub [1, 2, 3, 0] rfl hf
          · have hf := hf.2 q4
            refine sm_iconst (i := 4) (x := 4) 56 (by decide +kernel) rfl rfl ?_
            refine sm_goto (off := 4) 60 (by decide +kernel) (by decide) ?_
            exact sm_sub [1, 2, 3, 0] rfl hf
        · have hf := hf.2 q5
          refine sm_iconst (i := 3) (x := 3) 45 (by decide +kernel) rfl rfl ?_
          refine sm_goto (off := 15) 60 (by decide +kernel) (by decide) ?_
          exact sm_sub [1, 2, 3, 0] rfl hf
      · have hf := hf.2 q6
        refine sm_iconst (i := 2) (x := 2) 34 (by decide +kernel) rfl rfl ?_
        refine sm_goto (off := 26) 60 (by decide +kernel) (by decide) ?_
        exact sm_sub [1, 2, 3, 0] rfl hf
    · have hf := hf.2 q7
      refine sm_iconst (i := 0) (x := 0) 23 (by decide +kernel) rfl rfl ?_
      refine sm_goto (off := 37) 60 (by decide +kernel) (by decide) ?_
      exact sm_sub [1, 2, 3, 0] rfl hf
  · have hf := hf.2 q8
    refine sm_iconst (i := 1) (x := 1) 14 (by decide +kernel) rfl rfl ?_
    exact sm_iret rfl (by decide +kernel) hf
def fM_character_60 (N d : Nat) (h : sm_H) (Q : Option Value → sm_H → Prop) (x0 : Nat) (x1 : Int32) (x2 : Int32) (x3 : Int32) (y0 : Int32) : Prop := ((y0 = 0 → Q (some (.int 0)) h) ∧ (¬ y0 = 0 → (((x1 + y0) ≤ x2 → ((y0 = 2 → sm_W N (d + 1) mm_M_character 110 [(0, .ref x0), (1, .int x1), (4, .int y0)] [.int (x3 - 192)] h Q) ∧ (¬ y0 = 2 → ((y0 = 3 → sm_W N (d + 1) mm_M_character 110 [(0, .ref x0), (1, .int x1), (4, .int y0)] [.int (x3 - 224)] h Q) ∧ (¬ y0 = 3 → sm_W N (d + 1) mm_M_character 110 [(0, .ref x0), (1, .int x1), (4, .int y0)] [.int (x3 - 240)] h Q))))) ∧ (¬ (x1 + y0) ≤ x2 → Q (some (.int 0)) h))))
set_option maxRecDepth 20000 in
set_option maxHeartbeats 4000000 in
theorem kM_character_60 {N d : Nat} {h : sm_H} {Q : Option Value → sm_H → Prop} {x0 : Nat} {x1 : Int32} {x2 : Int32} {x3 : Int32} {y0 : Int32} (hf : fM_character_60 N d h Q x0 x1 x2 x3 y0) : sm_W N (d + 1) mm_M_character 60 [(0, .ref x0), (1, .int x1), (2, .int x2), (3, .int x3)] [.int y0] h Q := by
  unfold fM_character_60 at hf
  refine sm_istore (i := 4) 62 [(4, .int y0), (0, .ref x0), (1, .int x1), (2, .int x2), (3, .int x3)] (by decide +kernel) (by decide) (by first | rfl | simp [sm_rfc]) rfl ?_
  refine sm_iload (i := 4) 64 0 (by decide +kernel) rfl rfl ?_
  refine sm_if_eq (off := 11) 67 75 (by decide +kernel) (by decide) rfl (fun q4 => ?_) (fun q4 => ?_)
  · have hf := hf.1 q4
    refine sm_iconst (i := 0) (x := 0) 76 (by decide +kernel) rfl rfl ?_
    exact sm_iret rfl (by decide +kernel) hf
  · have hf := hf.2 q4
    refine sm_iload_n (k := 1) 68 2 (by decide +kernel) rfl rfl rfl ?_
    refine sm_iload (i := 4) 70 0 (by decide +kernel) rfl rfl ?_
    refine sm_iadd 71 (by decide +kernel) rfl ?_
    refine sm_iload_n (k := 2) 72 3 (by decide +kernel) rfl rfl rfl ?_
    refine sm_icmp_le (off := 5) 75 77 (by decide +kernel) (by decide) rfl (fun q3 => ?_) (fun q3 => ?_)
    · have hf := hf.1 q3
      refine sm_iload (i := 4) 79 0 (by decide +kernel) rfl rfl ?_
      refine sm_iconst (i := 2) (x := 2) 80 (by decide +kernel) rfl rfl ?_
      refine sm_icmp_ne (off := 11) 83 91 (by decide +kernel) (by decide) rfl (fun q2 => ?_) (fun q2 => ?_)
      · have hf := hf.2 q2
        refine sm_iload (i := 4) 93 0 (by decide +kernel) rfl rfl ?_
        refine sm_iconst (i := 3) (x := 3) 94 (by decide +kernel) rfl rfl ?_
        refine sm_icmp_ne (off := 11) 97 105 (by decide +kernel) (by decide) rfl (fun q1 => ?_) (fun q1 => ?_)
        · have hf := hf.2 q1
          refine sm_iload_n (k := 3) 106 4 (by decide +kernel) rfl rfl rfl ?_
          refine sm_sipush (i := 240) (x := 240) 109 (by decide +kernel) (by decide) rfl ?_
          refine sm_isub 110 (by decide +kernel) rfl ?_
          exact sm_sub [1, 2, 0] rfl hf
        · have hf := hf.1 q1
          refine sm_iload_n (k := 3) 98 4 (by decide +kernel) rfl rfl rfl ?_
          refine sm_sipush (i := 224) (x := 224) 101 (by decide +kernel) (by decide) rfl ?_
          refine sm_isub 102 (by decide +kernel) rfl ?_
          refine sm_goto (off := 8) 110 (by decide +kernel) (by decide) ?_
          exact sm_sub [1, 2, 0] rfl hf
      · have hf := hf.1 q2
        refine sm_iload_n (k := 3) 84 4 (by decide +kernel) rfl rfl rfl ?_
        refine sm_sipush (i := 192) (x := 192) 87 (by decide +kernel) (by decide) rfl ?_
        refine sm_isub 88 (by decide +kernel) rfl ?_
        refine sm_goto (off := 22) 110 (by decide +kernel) (by decide) ?_
        exact sm_sub [1, 2, 0] rfl hf
    · have hf := hf.2 q3
      refine sm_iconst (i := 0) (x := 0) 76 (by decide +kernel) rfl rfl ?_
      exact sm_iret rfl (by decide +kernel) hf
def fM_character_110 (N d : Nat) (h : sm_H) (Q : Option Value → sm_H → Prop) (x0 : Nat) (x1 : Int32) (x4 : Int32) (y0 : Int32) : Prop := sm_W N (d + 1) mm_M_character 115 [(0, .ref x0), (1, .int x1), (4, .int x4), (5, .int y0), (6, .int 1)] [] h Q
set_option maxRecDepth 20000 in
set_option maxHeartbeats 4000000 in
theorem kM_character_110 {N d : Nat} {h : sm_H} {Q : Option Value → sm_H → Prop} {x0 : Nat} {x1 : Int32} {x4 : Int32} {y0 : Int32} (hf : fM_character_110 N d h Q x0 x1 x4 y0) : sm_W N (d + 1) mm_M_character 110 [(0, .ref x0), (1, .int x1), (4, .int x4)] [.int y0] h Q := by
  unfold fM_character_110 at hf
  refine sm_istore (i := 5) 112 [(5, .int y0), (0, .ref x0), (1, .int x1), (4, .int x4)] (by decide +kernel) (by decide) (by first | rfl | simp [sm_rfc]) rfl ?_
  refine sm_iconst (i := 1) (x := 1) 113 (by decide +kernel) rfl rfl ?_
  refine sm_istore (i := 6) 115 [(6, .int 1), (5, .int y0), (0, .ref x0), (1, .int x1), (4, .int x4)] (by decide +kernel) (by decide) (by first | rfl | simp [sm_rfc]) rfl ?_
  exact sm_sub [2, 3, 4, 1, 0] rfl hf
def fM_character_115 (N d : Nat) (h : sm_H) (Q : Option Value → sm_H → Prop) (x0 : Nat) (x1 : Int32) (x4 : Int32) (x5 : Int32) (x6 : Int32) : Prop := ((x4 ≤ x6 → ((x4 = 2 → ((x5 ≤ 127 → sm_W N (d + 1) mm_M_character 225 [(4, .int x4), (5, .int x5)] [.int 0] h Q) ∧ (¬ x5 ≤ 127 → sm_W N (d + 1) mm_M_character 225 [(4, .int x4), (5, .int x5)] [.int 1] h Q))) ∧ (¬ x4 = 2 → ((x4 = 3 → ((x5 ≤ 2047 → sm_W N (d + 1) mm_M_character 225 [(4, .int x4), (5, .int x5)] [.int 0] h Q) ∧ (¬ x5 ≤ 2047 → sm_W N (d + 1) mm_M_character 225 [(4, .int x4), (5, .int x5)] [.int 1] h Q))) ∧ (¬ x4 = 3 → ((x5 ≤ 65535 → sm_W N (d + 1) mm_M_character 225 [(4, .int x4), (5, .int x5)] [.int 0] h Q) ∧ (¬ x5 ≤ 65535 → sm_W N (d + 1) mm_M_character 225 [(4, .int x4), (5, .int x5)] [.int 1] h Q))))))) ∧ (¬ x4 ≤ x6 → sm_V N d mm_M_at 5 x0 [.int (x1 + x6)] h (fun r7 h6 => ∃ z8 : Int32, r7 = some (.int z8) ∧ ((z8 < 128 → Q (some (.int 0)) h6) ∧ (¬ z8 < 128 → ((z8 ≤ 191 → sm_W N (d + 1) mm_M_character 115 [(0, .ref x0), (1, .int x1), (4, .int x4), (5, .int (((64 * x5) + z8) - 128)), (6, .int (x6 + 1))] [] h6 Q) ∧ (¬ z8 ≤ 191 → Q (some (.int 0)) h6)))))))
set_option maxRecDepth 20000 in
set_option maxHeartbeats 4000000 in
theorem kM_character_115 {N d : Nat} {h : sm_H} {Q : Option Value → sm_H → Prop} {x0 : Nat} {x1 : Int32} {x4 : Int32} {x5 : Int32} {x6 : Int32} (hf : fM_character_115 N d h Q x0 x1 x4 x5 x6) : sm_W N (d + 1) mm_M_character 115 [(0, .ref x0), (1, .int x1), (4, .int x4), (5, .int x5), (6, .int x6)] [] h Q := by
  unfold fM_character_115 at hf
  refine sm_iload (i := 6) 117 4 (by decide +kernel) rfl rfl ?_
  refine sm_iload (i := 4) 119 2 (by decide +kernel) rfl rfl ?_
  refine sm_icmp_ge (off := 51) 122 170 (by decide +kernel) (by decide) rfl (fun q11 => ?_) (fun q11 => ?_)
  · have hf := hf.1 q11
    refine sm_iload (i := 4) 172 2 (by decide +kernel) rfl rfl ?_
    refine sm_iconst (i := 2) (x := 2) 173 (by decide +kernel) rfl rfl ?_
    refine sm_icmp_ne (off := 18) 176 191 (by decide +kernel) (by decide) rfl (fun q5 => ?_) (fun q5 => ?_)
    · have hf := hf.2 q5
      refine sm_iload (i := 4) 193 2 (by decide +kernel) rfl rfl ?_
      refine sm_iconst (i := 3) (x := 3) 194 (by decide +kernel) rfl rfl ?_
      refine sm_icmp_ne (off := 19) 197 213 (by decide +kernel) (by decide) rfl (fun q3 => ?_) (fun q3 => ?_)
      · have hf := hf.2 q3
        refine sm_iload (i := 5) 215 3 (by decide +kernel) rfl rfl ?_
        refine sm_ldc (i := 86) (x := 65535) 217 (by decide +kernel) kc_M_86 rfl ?_
        refine sm_icmp_le (off := 7) 220 224 (by decide +kernel) (by decide) rfl (fun q1 => ?_) (fun q1 => ?_)
        · have hf := hf.1 q1
          refine sm_iconst (i := 0) (x := 0) 225 (by decide +kernel) rfl rfl ?_
          exact sm_sub [2, 3] rfl hf
        · have hf := hf.2 q1
          refine sm_iconst (i := 1) (x := 1) 221 (by decide +kernel) rfl rfl ?_
          refine sm_goto (off := 4) 225 (by decide +kernel) (by decide) ?_
          exact sm_sub [2, 3] rfl hf
      · have hf := hf.1 q3
        refine sm_iload (i := 5) 199 3 (by decide +kernel) rfl rfl ?_
        refine sm_sipush (i := 2047) (x := 2047) 202 (by decide +kernel) (by decide) rfl ?_
        refine sm_icmp_le (off := 7) 205 209 (by decide +kernel) (by decide) rfl (fun q2 => ?_) (fun q2 => ?_)
        · have hf := hf.1 q2
          refine sm_iconst (i := 0) (x := 0) 210 (by decide +kernel) rfl rfl ?_
          refine sm_goto (off := 15) 225 (by decide +kernel) (by decide) ?_
          exact sm_sub [2, 3] rfl hf
        · have hf := hf.2 q2
          refine sm_iconst (i := 1) (x := 1) 206 (by decide +kernel) rfl rfl ?_
          refine sm_goto (off := 19) 225 (by decide +kernel) (by decide) ?_
          exact sm_sub [2, 3] rfl hf
    · have hf := hf.1 q5
      refine sm_iload (i := 5) 178 3 (by decide +kernel) rfl rfl ?_
      refine sm_bipush (i := 127) (x := 127) 180 (by decide +kernel) (by decide) rfl ?_
      refine sm_icmp_le (off := 7) 183 187 (by decide +kernel) (by decide) rfl (fun q4 => ?_) (fun q4 => ?_)
      · have hf := hf.1 q4
        refine sm_iconst (i := 0) (x := 0) 188 (by decide +kernel) rfl rfl ?_
        refine sm_goto (off := 37) 225 (by decide +kernel) (by decide) ?_
        exact sm_sub [2, 3] rfl hf
      · have hf := hf.2 q4
        refine sm_iconst (i := 1) (x := 1) 184 (by decide +kernel) rfl rfl ?_
        refine sm_goto (off := 41) 225 (by decide +kernel) (by decide) ?_
        exact sm_sub [2, 3] rfl hf
  · have hf := hf.2 q11
    refine sm_aload_n (k := 0) 123 0 (by decide +kernel) rfl rfl rfl ?_
    refine sm_iload_n (k := 1) 124 1 (by decide +kernel) rfl rfl rfl ?_
    refine sm_iload (i := 6) 126 4 (by decide +kernel) rfl rfl ?_
    refine sm_iadd 127 (by decide +kernel) rfl ?_
    refine sm_callV (M2 := mm_M_at) (av := [.int (x1 + x6)]) (rest := []) 130 (by decide +kernel) ml_M_73 (Nat.le_refl _) rfl rfl (by first | exact Nat.le_of_ble_eq_true rfl | simp [sm_rfc, Value.category]) rfl hf ?_
    rintro r7 h6 ⟨z8, rfl, hf⟩
    change sm_W N (d + 1) mm_M_character 130 [(0, .ref x0), (1, .int x1), (4, .int x4), (5, .int x5), (6, .int x6)] [.int z8] h6 Q
    refine sm_istore (i := 7) 132 [(7, .int z8), (0, .ref x0), (1, .int x1), (4, .int x4), (5, .int x5), (6, .int x6)] (by decide +kernel) (by decide) (by first | rfl | simp [sm_rfc]) rfl ?_
    refine sm_iload (i := 7) 134 0 (by decide +kernel) rfl rfl ?_
    refine sm_sipush (i := 128) (x := 128) 137 (by decide +kernel) (by decide) rfl ?_
    refine sm_icmp_lt (off := 11) 140 148 (by decide +kernel) (by decide) rfl (fun q10 => ?_) (fun q10 => ?_)
    · have hf := hf.1 q10
      refine sm_iconst (i := 0) (x := 0) 149 (by decide +kernel) rfl rfl ?_
      exact sm_iret rfl (by decide +kernel) hf
    · have hf := hf.2 q10
      refine sm_iload (i := 7) 142 0 (by decide +kernel) rfl rfl ?_
      refine sm_sipush (i := 191) (x := 191) 145 (by decide +kernel) (by decide) rfl ?_
      refine sm_icmp_le (off := 5) 148 150 (by decide +kernel) (by decide) rfl (fun q9 => ?_) (fun q9 => ?_)
      · have hf := hf.1 q9
        refine sm_bipush (i := 64) (x := 64) 152 (by decide +kernel) (by decide) rfl ?_
        refine sm_iload (i := 5) 154 4 (by decide +kernel) rfl rfl ?_
        refine sm_imul 155 (by decide +kernel) rfl ?_
        refine sm_iload (i := 7) 157 0 (by decide +kernel) rfl rfl ?_
        refine sm_iadd 158 (by decide +kernel) rfl ?_
        refine sm_sipush (i := 128) (x := 128) 161 (by decide +kernel) (by decide) rfl ?_
        refine sm_isub 162 (by decide +kernel) rfl ?_
        refine sm_istore (i := 5) 164 [(5, .int (((64 * x5) + z8) - 128)), (7, .int z8), (0, .ref x0), (1, .int x1), (4, .int x4), (6, .int x6)] (by decide +kernel) (by decide) (by first | rfl | simp [sm_rfc]) rfl ?_
        refine sm_iinc (i := 6) (j := 5) (z := 1) (y := x6 + 1) 167 [(6, .int (x6 + 1)), (5, .int (((64 * x5) + z8) - 128)), (7, .int z8), (0, .ref x0), (1, .int x1), (4, .int x4)] (by decide +kernel) rfl (by rfl) (by decide) rfl rfl ?_
        refine sm_goto (off := -52) 115 (by decide +kernel) (by decide) ?_
        exact sm_sub [3, 4, 5, 1, 0] rfl hf
      · have hf := hf.2 q9
        refine sm_iconst (i := 0) (x := 0) 149 (by decide +kernel) rfl rfl ?_
        exact sm_iret rfl (by decide +kernel) hf
def fM_character_225 (N d : Nat) (h : sm_H) (Q : Option Value → sm_H → Prop) (x4 : Int32) (x5 : Int32) (y0 : Int32) : Prop := ((y0 = 0 → Q (some (.int 0)) h) ∧ (¬ y0 = 0 → ((1114112 ≤ x5 → Q (some (.int 0)) h) ∧ (¬ 1114112 ≤ x5 → ((x5 < 55296 → sm_W N (d + 1) mm_M_character 253 [(4, .int x4)] [] h Q) ∧ (¬ x5 < 55296 → ((x5 ≤ 57343 → Q (some (.int 0)) h) ∧ (¬ x5 ≤ 57343 → sm_W N (d + 1) mm_M_character 253 [(4, .int x4)] [] h Q))))))))
set_option maxRecDepth 20000 in
set_option maxHeartbeats 4000000 in
theorem kM_character_225 {N d : Nat} {h : sm_H} {Q : Option Value → sm_H → Prop} {x4 : Int32} {x5 : Int32} {y0 : Int32} (hf : fM_character_225 N d h Q x4 x5 y0) : sm_W N (d + 1) mm_M_character 225 [(4, .int x4), (5, .int x5)] [.int y0] h Q := by
  unfold fM_character_225 at hf
  refine sm_istore (i := 6) 227 [(6, .int y0), (4, .int x4), (5, .int x5)] (by decide +kernel) (by decide) (by first | rfl | simp [sm_rfc]) rfl ?_
  refine sm_iload (i := 6) 229 0 (by decide +kernel) rfl rfl ?_
  refine sm_if_eq (off := 29) 232 258 (by decide +kernel) (by decide) rfl (fun q4 => ?_) (fun q4 => ?_)
  · have hf := hf.1 q4
    refine sm_iconst (i := 0) (x := 0) 259 (by decide +kernel) rfl rfl ?_
    exact sm_iret rfl (by decide +kernel) hf
  · have hf := hf.2 q4
    refine sm_iload (i := 5) 234 2 (by decide +kernel) rfl rfl ?_
    refine sm_ldc (i := 87) (x := 1114112) 236 (by decide +kernel) kc_M_87 rfl ?_
    refine sm_icmp_ge (off := 22) 239 258 (by decide +kernel) (by decide) rfl (fun q3 => ?_) (fun q3 => ?_)
    · have hf := hf.1 q3
      refine sm_iconst (i := 0) (x := 0) 259 (by decide +kernel) rfl rfl ?_
      exact sm_iret rfl (by decide +kernel) hf
    · have hf := hf.2 q3
      refine sm_iload (i := 5) 241 2 (by decide +kernel) rfl rfl ?_
      refine sm_ldc (i := 88) (x := 55296) 243 (by decide +kernel) kc_M_88 rfl ?_
      refine sm_icmp_lt (off := 10) 246 253 (by decide +kernel) (by decide) rfl (fun q2 => ?_) (fun q2 => ?_)
      · have hf := hf.1 q2
        exact sm_sub [1] rfl hf
      · have hf := hf.2 q2
        refine sm_iload (i := 5) 248 2 (by decide +kernel) rfl rfl ?_
        refine sm_ldc (i := 89) (x := 57343) 250 (by decide +kernel) kc_M_89 rfl ?_
        refine sm_icmp_le (off := 8) 253 258 (by decide +kernel) (by decide) rfl (fun q1 => ?_) (fun q1 => ?_)
        · have hf := hf.1 q1
          refine sm_iconst (i := 0) (x := 0) 259 (by decide +kernel) rfl rfl ?_
          exact sm_iret rfl (by decide +kernel) hf
        · have hf := hf.2 q1
          exact sm_sub [1] rfl hf
def fM_character_253 (N d : Nat) (h : sm_H) (Q : Option Value → sm_H → Prop) (x4 : Int32) : Prop := Q (some (.int x4)) h
set_option maxRecDepth 20000 in
set_option maxHeartbeats 4000000 in
theorem kM_character_253 {N d : Nat} {h : sm_H} {Q : Option Value → sm_H → Prop} {x4 : Int32} (hf : fM_character_253 N d h Q x4) : sm_W N (d + 1) mm_M_character 253 [(4, .int x4)] [] h Q := by
  unfold fM_character_253 at hf
  refine sm_iload (i := 4) 255 0 (by decide +kernel) rfl rfl ?_
  refine sm_goto (off := 4) 259 (by decide +kernel) (by decide) ?_
  exact sm_iret rfl (by decide +kernel) hf
theorem cM_character {N d : Nat} {h : sm_H} {Q : Option Value → sm_H → Prop} {x0 : Nat} {x1 : Int32} {x2 : Int32} (hb : ∃ fs, h[x0]? = some (.inr (5, fs))) (hf : fM_character_0 N d h Q x0 x1 x2) : sm_V N (d + 1) mm_M_character 5 x0 [.int x1, .int x2] h Q := ⟨hb, sm_meth (by decide +kernel) (fun _ => Nat.le_of_ble_eq_true rfl) (fun _ => rfl) (kM_character_0 hf)⟩
def fM_isText_0 (N d : Nat) (h : sm_H) (Q : Option Value → sm_H → Prop) (x0 : Nat) (x1 : Int32) (x2 : Int32) : Prop := sm_W N (d + 1) mm_M_isText 2 [(0, .ref x0), (2, .int x2), (3, .int x1)] [] h Q
set_option maxRecDepth 20000 in
set_option maxHeartbeats 4000000 in
theorem kM_isText_0 {N d : Nat} {h : sm_H} {Q : Option Value → sm_H → Prop} {x0 : Nat} {x1 : Int32} {x2 : Int32} (hf : fM_isText_0 N d h Q x0 x1 x2) : sm_W N (d + 1) mm_M_isText 0 [(0, .ref x0), (1, .int x1), (2, .int x2)] [] h Q := by
  unfold fM_isText_0 at hf
  refine sm_iload_n (k := 1) 1 1 (by decide +kernel) rfl rfl rfl ?_
  refine sm_istore_n (k := 3) 2 [(3, .int x1), (0, .ref x0), (1, .int x1), (2, .int x2)] (by decide +kernel) rfl (by decide) (by first | rfl | simp [sm_rfc]) rfl ?_
  exact sm_sub [1, 3, 0] rfl hf
def fM_isText_2 (N d : Nat) (h : sm_H) (Q : Option Value → sm_H → Prop) (x0 : Nat) (x2 : Int32) (x3 : Int32) : Prop := ((x2 ≤ x3 → Q (some (.int 1)) h) ∧ (¬ x2 ≤ x3 → sm_V N d mm_M_character 5 x0 [.int x3, .int x2] h (fun r2 h1 => ∃ z3 : Int32, r2 = some (.int z3) ∧ ((z3 = 0 → Q (some (.int 0)) h1) ∧ (¬ z3 = 0 → sm_W N (d + 1) mm_M_isText 2 [(0, .ref x0), (2, .int x2), (3, .int (x3 + z3))] [] h1 Q)))))
set_option maxRecDepth 20000 in
set_option maxHeartbeats 4000000 in
theorem kM_isText_2 {N d : Nat} {h : sm_H} {Q : Option Value → sm_H → Prop} {x0 : Nat} {x2 : Int32} {x3 : Int32} (hf : fM_isText_2 N d h Q x0 x2 x3) : sm_W N (d + 1) mm_M_isText 2 [(0, .ref x0), (2, .int x2), (3, .int x3)] [] h Q := by
  unfold fM_isText_2 at hf
  refine sm_iload_n (k := 3) 3 2 (by decide +kernel) rfl rfl rfl ?_
  refine sm_iload_n (k := 2) 4 1 (by decide +kernel) rfl rfl rfl ?_
  refine sm_icmp_ge (off := 26) 7 30 (by decide +kernel) (by decide) rfl (fun q5 => ?_) (fun q5 => ?_)
  · have hf := hf.1 q5
    refine sm_iconst (i := 1) (x := 1) 31 (by decide +kernel) rfl rfl ?_
    exact sm_zret rfl (by decide +kernel) (by decide) hf
  · have hf := hf.2 q5
    refine sm_aload_n (k := 0) 8 0 (by decide +kernel) rfl rfl rfl ?_
    refine sm_iload_n (k := 3) 9 2 (by decide +kernel) rfl rfl rfl ?_
    refine sm_iload_n (k := 2) 10 1 (by decide +kernel) rfl rfl rfl ?_
    refine sm_callV (M2 := mm_M_character) (av := [.int x3, .int x2]) (rest := []) 13 (by decide +kernel) ml_M_90 (Nat.le_refl _) rfl rfl (by first | exact Nat.le_of_ble_eq_true rfl | simp [sm_rfc, Value.category]) rfl hf ?_
    rintro r2 h1 ⟨z3, rfl, hf⟩
    change sm_W N (d + 1) mm_M_isText 13 [(0, .ref x0), (2, .int x2), (3, .int x3)] [.int z3] h1 Q
    refine sm_istore (i := 4) 15 [(4, .int z3), (0, .ref x0), (2, .int x2), (3, .int x3)] (by decide +kernel) (by decide) (by first | rfl | simp [sm_rfc]) rfl ?_
    refine sm_iload (i := 4) 17 0 (by decide +kernel) rfl rfl ?_
    refine sm_if_ne (off := 5) 20 22 (by decide +kernel) (by decide) rfl (fun q4 => ?_) (fun q4 => ?_)
    · have hf := hf.2 q4
      refine sm_iload_n (k := 3) 23 3 (by decide +kernel) rfl rfl rfl ?_
      refine sm_iload (i := 4) 25 0 (by decide +kernel) rfl rfl ?_
      refine sm_iadd 26 (by decide +kernel) rfl ?_
      refine sm_istore_n (k := 3) 27 [(3, .int (x3 + z3)), (4, .int z3), (0, .ref x0), (2, .int x2)] (by decide +kernel) rfl (by decide) (by first | rfl | simp [sm_rfc]) rfl ?_
      refine sm_goto (off := -25) 2 (by decide +kernel) (by decide) ?_
      exact sm_sub [2, 3, 0] rfl hf
    · have hf := hf.1 q4
      refine sm_iconst (i := 0) (x := 0) 21 (by decide +kernel) rfl rfl ?_
      exact sm_zret rfl (by decide +kernel) (by decide) hf
theorem cM_isText {N d : Nat} {h : sm_H} {Q : Option Value → sm_H → Prop} {x0 : Nat} {x1 : Int32} {x2 : Int32} (hb : ∃ fs, h[x0]? = some (.inr (5, fs))) (hf : fM_isText_0 N d h Q x0 x1 x2) : sm_V N (d + 1) mm_M_isText 5 x0 [.int x1, .int x2] h Q := ⟨hb, sm_meth (by decide +kernel) (fun _ => Nat.le_of_ble_eq_true rfl) (fun _ => rfl) (kM_isText_0 hf)⟩
def fM_make_0 (N d : Nat) (h : sm_H) (Q : Option Value → sm_H → Prop) (x0 : Nat) (x1 : Int32) : Prop := ∃ z1 : Nat, sm_g h x0 5 7 = some (.ref z1) ∧ ∃ z2 : Int32, sm_g h x0 5 6 = some (.int z2) ∧ ∃ h3, sm_pi h z1 z2 x1 = some h3 ∧ ∃ z4 : Nat, sm_g h3 x0 5 8 = some (.ref z4) ∧ ∃ z5 : Int32, sm_g h3 x0 5 6 = some (.int z5) ∧ ∃ h6, sm_pi h3 z4 z5 0 = some h6 ∧ ∃ z7 : Nat, sm_g h6 x0 5 9 = some (.ref z7) ∧ ∃ z8 : Int32, sm_g h6 x0 5 6 = some (.int z8) ∧ ∃ h9, sm_pi h6 z7 z8 0 = some h9 ∧ ∃ z10 : Nat, sm_g h9 x0 5 10 = some (.ref z10) ∧ ∃ z11 : Int32, sm_g h9 x0 5 6 = some (.int z11) ∧ ∃ h12, sm_pl h9 z10 z11 0 = some h12 ∧ ∃ z13 : Nat, sm_g h12 x0 5 11 = some (.ref z13) ∧ ∃ z14 : Int32, sm_g h12 x0 5 6 = some (.int z14) ∧ ∃ h15, sm_pi h12 z13 z14 0 = some h15 ∧ ∃ z16 : Nat, sm_g h15 x0 5 12 = some (.ref z16) ∧ ∃ z17 : Int32, sm_g h15 x0 5 6 = some (.int z17) ∧ ∃ h18, sm_pi h15 z16 z17 0 = some h18 ∧ ∃ z19 : Nat, sm_g h18 x0 5 13 = some (.ref z19) ∧ ∃ z20 : Int32, sm_g h18 x0 5 6 = some (.int z20) ∧ ∃ h21, sm_pi h18 z19 z20 (-1) = some h21 ∧ ∃ z22 : Nat, sm_g h21 x0 5 14 = some (.ref z22) ∧ ∃ z23 : Int32, sm_g h21 x0 5 6 = some (.int z23) ∧ ∃ h24, sm_pi h21 z22 z23 (-1) = some h24 ∧ ∃ z25 : Nat, sm_g h24 x0 5 15 = some (.ref z25) ∧ ∃ z26 : Int32, sm_g h24 x0 5 6 = some (.int z26) ∧ ∃ h27, sm_pi h24 z25 z26 (-1) = some h27 ∧ ∃ z28 : Int32, sm_g h27 x0 5 6 = some (.int z28) ∧ ∃ h29, sm_p h27 x0 5 6 (.int (z28 + 1)) = some h29 ∧ ∃ z30 : Int32, sm_g h29 x0 5 6 = some (.int z30) ∧ Q (some (.int (z30 - 1))) h29
set_option maxRecDepth 20000 in
set_option maxHeartbeats 4000000 in
theorem kM_make_0 {N d : Nat} {h : sm_H} {Q : Option Value → sm_H → Prop} {x0 : Nat} {x1 : Int32} (hf : fM_make_0 N d h Q x0 x1) : sm_W N (d + 1) mm_M_make 0 [(0, .ref x0), (1, .int x1)] [] h Q := by
  unfold fM_make_0 at hf
  refine sm_aload_n (k := 0) 1 0 (by decide +kernel) rfl rfl rfl ?_
  obtain ⟨z1, ez1, hf⟩ := hf
  refine sm_get 4 (by decide +kernel) fl_M_20 ez1 rfl ?_
  refine sm_aload_n (k := 0) 5 0 (by decide +kernel) rfl rfl rfl ?_
  obtain ⟨z2, ez2, hf⟩ := hf
  refine sm_get 8 (by decide +kernel) fl_M_94 ez2 rfl ?_
  refine sm_iload_n (k := 1) 9 1 (by decide +kernel) rfl rfl rfl ?_
  obtain ⟨h3, eh3, hf⟩ := hf
  refine sm_iast 10 (by decide +kernel) eh3 rfl ?_
  refine sm_aload_n (k := 0) 11 0 (by decide +kernel) rfl rfl rfl ?_
  obtain ⟨z4, ez4, hf⟩ := hf
  refine sm_get 14 (by decide +kernel) fl_M_24 ez4 rfl ?_
  refine sm_aload_n (k := 0) 15 0 (by decide +kernel) rfl rfl rfl ?_
  obtain ⟨z5, ez5, hf⟩ := hf
  refine sm_get 18 (by decide +kernel) fl_M_94 ez5 rfl ?_
  refine sm_iconst (i := 0) (x := 0) 19 (by decide +kernel) rfl rfl ?_
  obtain ⟨h6, eh6, hf⟩ := hf
  refine sm_iast 20 (by decide +kernel) eh6 rfl ?_
  refine sm_aload_n (k := 0) 21 0 (by decide +kernel) rfl rfl rfl ?_
  obtain ⟨z7, ez7, hf⟩ := hf
  refine sm_get 24 (by decide +kernel) fl_M_27 ez7 rfl ?_
  refine sm_aload_n (k := 0) 25 0 (by decide +kernel) rfl rfl rfl ?_
  obtain ⟨z8, ez8, hf⟩ := hf
  refine sm_get 28 (by decide +kernel) fl_M_94 ez8 rfl ?_
  refine sm_iconst (i := 0) (x := 0) 29 (by decide +kernel) rfl rfl ?_
  obtain ⟨h9, eh9, hf⟩ := hf
  refine sm_iast 30 (by decide +kernel) eh9 rfl ?_
  refine sm_aload_n (k := 0) 31 0 (by decide +kernel) rfl rfl rfl ?_
  obtain ⟨z10, ez10, hf⟩ := hf
  refine sm_get 34 (by decide +kernel) fl_M_30 ez10 rfl ?_
  refine sm_aload_n (k := 0) 35 0 (by decide +kernel) rfl rfl rfl ?_
  obtain ⟨z11, ez11, hf⟩ := hf
  refine sm_get 38 (by decide +kernel) fl_M_94 ez11 rfl ?_
  refine sm_lconst (i := 0) (x := 0) 39 (by decide +kernel) rfl rfl ?_
  obtain ⟨h12, eh12, hf⟩ := hf
  refine sm_last 40 (by decide +kernel) eh12 rfl ?_
  refine sm_aload_n (k := 0) 41 0 (by decide +kernel) rfl rfl rfl ?_
  obtain ⟨z13, ez13, hf⟩ := hf
  refine sm_get 44 (by decide +kernel) fl_M_34 ez13 rfl ?_
  refine sm_aload_n (k := 0) 45 0 (by decide +kernel) rfl rfl rfl ?_
  obtain ⟨z14, ez14, hf⟩ := hf
  refine sm_get 48 (by decide +kernel) fl_M_94 ez14 rfl ?_
  refine sm_iconst (i := 0) (x := 0) 49 (by decide +kernel) rfl rfl ?_
  obtain ⟨h15, eh15, hf⟩ := hf
  refine sm_iast 50 (by decide +kernel) eh15 rfl ?_
  refine sm_aload_n (k := 0) 51 0 (by decide +kernel) rfl rfl rfl ?_
  obtain ⟨z16, ez16, hf⟩ := hf
  refine sm_get 54 (by decide +kernel) fl_M_37 ez16 rfl ?_
  refine sm_aload_n (k := 0) 55 0 (by decide +kernel) rfl rfl rfl ?_
  obtain ⟨z17, ez17, hf⟩ := hf
  refine sm_get 58 (by decide +kernel) fl_M_94 ez17 rfl ?_
  refine sm_iconst (i := 0) (x := 0) 59 (by decide +kernel) rfl rfl ?_
  obtain ⟨h18, eh18, hf⟩ := hf
  refine sm_iast 60 (by decide +kernel) eh18 rfl ?_
  refine sm_aload_n (k := 0) 61 0 (by decide +kernel) rfl rfl rfl ?_
  obtain ⟨z19, ez19, hf⟩ := hf
  refine sm_get 64 (by decide +kernel) fl_M_40 ez19 rfl ?_
  refine sm_aload_n (k := 0) 65 0 (by decide +kernel) rfl rfl rfl ?_
  obtain ⟨z20, ez20, hf⟩ := hf
  refine sm_get 68 (by decide +kernel) fl_M_94 ez20 rfl ?_
  refine sm_iconst (i := -1) (x := (-1)) 69 (by decide +kernel) rfl rfl ?_
  obtain ⟨h21, eh21, hf⟩ := hf
  refine sm_iast 70 (by decide +kernel) eh21 rfl ?_
  refine sm_aload_n (k := 0) 71 0 (by decide +kernel) rfl rfl rfl ?_
  obtain ⟨z22, ez22, hf⟩ := hf
  refine sm_get 74 (by decide +kernel) fl_M_43 ez22 rfl ?_
  refine sm_aload_n (k := 0) 75 0 (by decide +kernel) rfl rfl rfl ?_
  obtain ⟨z23, ez23, hf⟩ := hf
  refine sm_get 78 (by decide +kernel) fl_M_94 ez23 rfl ?_
  refine sm_iconst (i := -1) (x := (-1)) 79 (by decide +kernel) rfl rfl ?_
  obtain ⟨h24, eh24, hf⟩ := hf
  refine sm_iast 80 (by decide +kernel) eh24 rfl ?_
  refine sm_aload_n (k := 0) 81 0 (by decide +kernel) rfl rfl rfl ?_
  obtain ⟨z25, ez25, hf⟩ := hf
  refine sm_get 84 (by decide +kernel) fl_M_46 ez25 rfl ?_
  refine sm_aload_n (k := 0) 85 0 (by decide +kernel) rfl rfl rfl ?_
  obtain ⟨z26, ez26, hf⟩ := hf
  refine sm_get 88 (by decide +kernel) fl_M_94 ez26 rfl ?_
  refine sm_iconst (i := -1) (x := (-1)) 89 (by decide +kernel) rfl rfl ?_
  obtain ⟨h27, eh27, hf⟩ := hf
  refine sm_iast 90 (by decide +kernel) eh27 rfl ?_
  refine sm_aload_n (k := 0) 91 0 (by decide +kernel) rfl rfl rfl ?_
  refine sm_dup 92 (by decide +kernel) (by first | rfl | simp [sm_rfc]) rfl ?_
  obtain ⟨z28, ez28, hf⟩ := hf
  refine sm_get 95 (by decide +kernel) fl_M_94 ez28 rfl ?_
  refine sm_iconst (i := 1) (x := 1) 96 (by decide +kernel) rfl rfl ?_
  refine sm_iadd 97 (by decide +kernel) rfl ?_
  obtain ⟨h29, eh29, hf⟩ := hf
  refine sm_put (ty := .int) 100 (by decide +kernel) fp_M_94 (fun _ => rfl) rfl rfl eh29 rfl ?_
  refine sm_aload_n (k := 0) 101 0 (by decide +kernel) rfl rfl rfl ?_
  obtain ⟨z30, ez30, hf⟩ := hf
  refine sm_get 104 (by decide +kernel) fl_M_94 ez30 rfl ?_
  refine sm_iconst (i := 1) (x := 1) 105 (by decide +kernel) rfl rfl ?_
  refine sm_isub 106 (by decide +kernel) rfl ?_
  exact sm_iret rfl (by decide +kernel) hf
theorem cM_make {N d : Nat} {h : sm_H} {Q : Option Value → sm_H → Prop} {x0 : Nat} {x1 : Int32} (hb : ∃ fs, h[x0]? = some (.inr (5, fs))) (hf : fM_make_0 N d h Q x0 x1) : sm_V N (d + 1) mm_M_make 5 x0 [.int x1] h Q := ⟨hb, sm_meth (by decide +kernel) (fun _ => Nat.le_of_ble_eq_true rfl) (fun _ => rfl) (kM_make_0 hf)⟩
def fM_append_0 (N d : Nat) (h : sm_H) (Q : Option Value → sm_H → Prop) (x0 : Nat) (x1 : Int32) (x2 : Int32) : Prop := ∃ z1 : Nat, sm_g h x0 5 14 = some (.ref z1) ∧ ∃ h2, sm_pi h z1 x2 (-1) = some h2 ∧ ∃ z3 : Nat, sm_g h2 x0 5 13 = some (.ref z3) ∧ ∃ z4 : Int32, sm_gi h2 z3 1 x1 = some z4 ∧ ((0 ≤ z4 → ∃ z5 : Nat, sm_g h2 x0 5 14 = some (.ref z5) ∧ ∃ z6 : Nat, sm_g h2 x0 5 15 = some (.ref z6) ∧ ∃ z7 : Int32, sm_gi h2 z6 1 x1 = some z7 ∧ ∃ h8, sm_pi h2 z5 z7 x2 = some h8 ∧ sm_W N (d + 1) mm_M_append 38 [(0, .ref x0), (1, .int x1), (2, .int x2)] [] h8 Q) ∧ (¬ 0 ≤ z4 → ∃ z9 : Nat, sm_g h2 x0 5 13 = some (.ref z9) ∧ ∃ h10, sm_pi h2 z9 x1 x2 = some h10 ∧ sm_W N (d + 1) mm_M_append 38 [(0, .ref x0), (1, .int x1), (2, .int x2)] [] h10 Q))
set_option maxRecDepth 20000 in
set_option maxHeartbeats 4000000 in
theorem kM_append_0 {N d : Nat} {h : sm_H} {Q : Option Value → sm_H → Prop} {x0 : Nat} {x1 : Int32} {x2 : Int32} (hf : fM_append_0 N d h Q x0 x1 x2) : sm_W N (d + 1) mm_M_append 0 [(0, .ref x0), (1, .int x1), (2, .int x2)] [] h Q := by
  unfold fM_append_0 at hf
  refine sm_aload_n (k := 0) 1 0 (by decide +kernel) rfl rfl rfl ?_
  obtain ⟨z1, ez1, hf⟩ := hf
  refine sm_get 4 (by decide +kernel) fl_M_43 ez1 rfl ?_
  refine sm_iload_n (k := 2) 5 2 (by decide +kernel) rfl rfl rfl ?_
  refine sm_iconst (i := -1) (x := (-1)) 6 (by decide +kernel) rfl rfl ?_
  obtain ⟨h2, eh2, hf⟩ := hf
  refine sm_iast 7 (by decide +kernel) eh2 rfl ?_
  refine sm_aload_n (k := 0) 8 0 (by decide +kernel) rfl rfl rfl ?_
  obtain ⟨z3, ez3, hf⟩ := hf
  refine sm_get 11 (by decide +kernel) fl_M_40 ez3 rfl ?_
  refine sm_iload_n (k := 1) 12 1 (by decide +kernel) rfl rfl rfl ?_
  obtain ⟨z4, ez4, hf⟩ := hf
  refine sm_iald 13 (by decide +kernel) ez4 rfl ?_
  refine sm_if_ge (off := 13) 16 26 (by decide +kernel) (by decide) rfl (fun q11 => ?_) (fun q11 => ?_)
  · have hf := hf.1 q11
    refine sm_aload_n (k := 0) 27 0 (by decide +kernel) rfl rfl rfl ?_
    obtain ⟨z5, ez5, hf⟩ := hf
    refine sm_get 30 (by decide +kernel) fl_M_43 ez5 rfl ?_
    refine sm_aload_n (k := 0) 31 0 (by decide +kernel) rfl rfl rfl ?_
    obtain ⟨z6, ez6, hf⟩ := hf
    refine sm_get 34 (by decide +kernel) fl_M_46 ez6 rfl ?_
    refine sm_iload_n (k := 1) 35 1 (by decide +kernel) rfl rfl rfl ?_
    obtain ⟨z7, ez7, hf⟩ := hf
    refine sm_iald 36 (by decide +kernel) ez7 rfl ?_
    refine sm_iload_n (k := 2) 37 2 (by decide +kernel) rfl rfl rfl ?_
    obtain ⟨h8, eh8, hf⟩ := hf
    refine sm_iast 38 (by decide +kernel) eh8 rfl ?_
    exact sm_sub [0, 1, 2] rfl hf
  · have hf := hf.2 q11
    refine sm_aload_n (k := 0) 17 0 (by decide +kernel) rfl rfl rfl ?_
    obtain ⟨z9, ez9, hf⟩ := hf
    refine sm_get 20 (by decide +kernel) fl_M_40 ez9 rfl ?_
    refine sm_iload_n (k := 1) 21 1 (by decide +kernel) rfl rfl rfl ?_
    refine sm_iload_n (k := 2) 22 2 (by decide +kernel) rfl rfl rfl ?_
    obtain ⟨h10, eh10, hf⟩ := hf
    refine sm_iast 23 (by decide +kernel) eh10 rfl ?_
    refine sm_goto (off := 15) 38 (by decide +kernel) (by decide) ?_
    exact sm_sub [0, 1, 2] rfl hf
def fM_append_38 (N d : Nat) (h : sm_H) (Q : Option Value → sm_H → Prop) (x0 : Nat) (x1 : Int32) (x2 : Int32) : Prop := ∃ z1 : Nat, sm_g h x0 5 15 = some (.ref z1) ∧ ∃ h2, sm_pi h z1 x1 x2 = some h2 ∧ Q none h2
set_option maxRecDepth 20000 in
set_option maxHeartbeats 4000000 in
theorem kM_append_38 {N d : Nat} {h : sm_H} {Q : Option Value → sm_H → Prop} {x0 : Nat} {x1 : Int32} {x2 : Int32} (hf : fM_append_38 N d h Q x0 x1 x2) : sm_W N (d + 1) mm_M_append 38 [(0, .ref x0), (1, .int x1), (2, .int x2)] [] h Q := by
  unfold fM_append_38 at hf
  refine sm_aload_n (k := 0) 39 0 (by decide +kernel) rfl rfl rfl ?_
  obtain ⟨z1, ez1, hf⟩ := hf
  refine sm_get 42 (by decide +kernel) fl_M_46 ez1 rfl ?_
  refine sm_iload_n (k := 1) 43 1 (by decide +kernel) rfl rfl rfl ?_
  refine sm_iload_n (k := 2) 44 2 (by decide +kernel) rfl rfl rfl ?_
  obtain ⟨h2, eh2, hf⟩ := hf
  refine sm_iast 45 (by decide +kernel) eh2 rfl ?_
  exact sm_vret rfl (by decide +kernel) hf
theorem cM_append {N d : Nat} {h : sm_H} {Q : Option Value → sm_H → Prop} {x0 : Nat} {x1 : Int32} {x2 : Int32} (hb : ∃ fs, h[x0]? = some (.inr (5, fs))) (hf : fM_append_0 N d h Q x0 x1 x2) : sm_V N (d + 1) mm_M_append 5 x0 [.int x1, .int x2] h Q := ⟨hb, sm_meth (by decide +kernel) (fun _ => Nat.le_of_ble_eq_true rfl) (fun _ => rfl) (kM_append_0 hf)⟩
def fM_isAlike_0 (N d : Nat) (h : sm_H) (Q : Option Value → sm_H → Prop) (x0 : Nat) (x1 : Int32) (x2 : Int32) (x3 : Int32) (x4 : Int32) : Prop := ((x2 = x4 → sm_W N (d + 1) mm_M_isAlike 11 [(0, .ref x0), (1, .int x1), (2, .int x2), (3, .int x3)] [.int 1] h Q) ∧ (¬ x2 = x4 → sm_W N (d + 1) mm_M_isAlike 11 [(0, .ref x0), (1, .int x1), (2, .int x2), (3, .int x3)] [.int 0] h Q))
set_option maxRecDepth 20000 in
set_option maxHeartbeats 4000000 in
theorem kM_isAlike_0 {N d : Nat} {h : sm_H} {Q : Option Value → sm_H → Prop} {x0 : Nat} {x1 : Int32} {x2 : Int32} {x3 : Int32} {x4 : Int32} (hf : fM_isAlike_0 N d h Q x0 x1 x2 x3 x4) : sm_W N (d + 1) mm_M_isAlike 0 [(0, .ref x0), (1, .int x1), (2, .int x2), (3, .int x3), (4, .int x4)] [] h Q := by
  unfold fM_isAlike_0 at hf
  refine sm_iload_n (k := 2) 1 2 (by decide +kernel) rfl rfl rfl ?_
  refine sm_iload (i := 4) 3 4 (by decide +kernel) rfl rfl ?_
  refine sm_icmp_ne (off := 7) 6 10 (by decide +kernel) (by decide) rfl (fun q1 => ?_) (fun q1 => ?_)
  · have hf := hf.2 q1
    refine sm_iconst (i := 0) (x := 0) 11 (by decide +kernel) rfl rfl ?_
    exact sm_sub [0, 1, 2, 3] rfl hf
  · have hf := hf.1 q1
    refine sm_iconst (i := 1) (x := 1) 7 (by decide +kernel) rfl rfl ?_
    refine sm_goto (off := 4) 11 (by decide +kernel) (by decide) ?_
    exact sm_sub [0, 1, 2, 3] rfl hf
def fM_isAlike_11 (N d : Nat) (h : sm_H) (Q : Option Value → sm_H → Prop) (x0 : Nat) (x1 : Int32) (x2 : Int32) (x3 : Int32) (y0 : Int32) : Prop := sm_W N (d + 1) mm_M_isAlike 16 [(0, .ref x0), (1, .int x1), (2, .int x2), (3, .int x3), (5, .int y0), (6, .int 0)] [] h Q
set_option maxRecDepth 20000 in
set_option maxHeartbeats 4000000 in
theorem kM_isAlike_11 {N d : Nat} {h : sm_H} {Q : Option Value → sm_H → Prop} {x0 : Nat} {x1 : Int32} {x2 : Int32} {x3 : Int32} {y0 : Int32} (hf : fM_isAlike_11 N d h Q x0 x1 x2 x3 y0) : sm_W N (d + 1) mm_M_isAlike 11 [(0, .ref x0), (1, .int x1), (2, .int x2), (3, .int x3)] [.int y0] h Q := by
  unfold fM_isAlike_11 at hf
  refine sm_istore (i := 5) 13 [(5, .int y0), (0, .ref x0), (1, .int x1), (2, .int x2), (3, .int x3)] (by decide +kernel) (by decide) (by first | rfl | simp [sm_rfc]) rfl ?_
  refine sm_iconst (i := 0) (x := 0) 14 (by decide +kernel) rfl rfl ?_
  refine sm_istore (i := 6) 16 [(6, .int 0), (5, .int y0), (0, .ref x0), (1, .int x1), (2, .int x2), (3, .int x3)] (by decide +kernel) (by decide) (by first | rfl | simp [sm_rfc]) rfl ?_
  exact sm_sub [2, 3, 4, 5, 1, 0] rfl hf
def fM_isAlike_16 (N d : Nat) (h : sm_H) (Q : Option Value → sm_H → Prop) (x0 : Nat) (x1 : Int32) (x2 : Int32) (x3 : Int32) (x5 : Int32) (x6 : Int32) : Prop := ((x2 ≤ x6 → ((x5 = 0 ∨ x5 = 1) ∧ Q (some (.int x5)) h)) ∧ (¬ x2 ≤ x6 → ((x5 = 0 → ((x5 = 0 ∨ x5 = 1) ∧ Q (some (.int x5)) h)) ∧ (¬ x5 = 0 → ∃ z1 : Nat, sm_g h x0 5 1 = some (.ref z1) ∧ ∃ z2 : Int32, sm_gi h z1 0 (x1 + x6) = some z2 ∧ ∃ z3 : Nat, sm_g h x0 5 1 = some (.ref z3) ∧ ∃ z4 : Int32, sm_gi h z3 0 (x3 + x6) = some z4 ∧ ((z2 = z4 → sm_W N (d + 1) mm_M_isAlike 53 [(0, .ref x0), (1, .int x1), (2, .int x2), (3, .int x3), (6, .int x6)] [.int 1] h Q) ∧ (¬ z2 = z4 → sm_W N (d + 1) mm_M_isAlike 53 [(0, .ref x0), (1, .int x1), (2, .int x2), (3, .int x3), (6, .int x6)] [.int 0] h Q))))))
set_option maxRecDepth 20000 in
set_option maxHeartbeats 4000000 in
theorem kM_isAlike_16 {N d : Nat} {h : sm_H} {Q : Option Value → sm_H → Prop} {x0 : Nat} {x1 : Int32} {x2 : Int32} {x3 : Int32} {x5 : Int32} {x6 : Int32} (hf : fM_isAlike_16 N d h Q x0 x1 x2 x3 x5 x6) : sm_W N (d + 1) mm_M_isAlike 16 [(0, .ref x0), (1, .int x1), (2, .int x2), (3, .int x3), (5, .int x5), (6, .int x6)] [] h Q := by
  unfold fM_isAlike_16 at hf
  refine sm_iload (i := 6) 18 5 (by decide +kernel) rfl rfl ?_
  refine sm_iload_n (k := 2) 19 2 (by decide +kernel) rfl rfl rfl ?_
  refine sm_icmp_ge (off := 42) 22 61 (by decide +kernel) (by decide) rfl (fun q7 => ?_) (fun q7 => ?_)
  · have hf := hf.1 q7
    refine sm_iload (i := 5) 63 4 (by decide +kernel) rfl rfl ?_
    exact sm_zret rfl (by decide +kernel) hf.1 hf.2
  · have hf := hf.2 q7
    refine sm_iload (i := 5) 24 4 (by decide +kernel) rfl rfl ?_
    refine sm_if_eq (off := 37) 27 61 (by decide +kernel) (by decide) rfl (fun q6 => ?_) (fun q6 => ?_)
    · have hf := hf.1 q6
      refine sm_iload (i := 5) 63 4 (by decide +kernel) rfl rfl ?_
      exact sm_zret rfl (by decide +kernel) hf.1 hf.2
    · have hf := hf.2 q6
      refine sm_aload_n (k := 0) 28 0 (by decide +kernel) rfl rfl rfl ?_
      obtain ⟨z1, ez1, hf⟩ := hf
      refine sm_get 31 (by decide +kernel) fl_M_7 ez1 rfl ?_
      refine sm_iload_n (k := 1) 32 1 (by decide +kernel) rfl rfl rfl ?_
      refine sm_iload (i := 6) 34 5 (by decide +kernel) rfl rfl ?_
      refine sm_iadd 35 (by decide +kernel) rfl ?_
      obtain ⟨z2, ez2, hf⟩ := hf
      refine sm_bald 36 (by decide +kernel) ez2 rfl ?_
      refine sm_aload_n (k := 0) 37 0 (by decide +kernel) rfl rfl rfl ?_
      obtain ⟨z3, ez3, hf⟩ := hf
      refine sm_get 40 (by decide +kernel) fl_M_7 ez3 rfl ?_
      refine sm_iload_n (k := 3) 41 3 (by decide +kernel) rfl rfl rfl ?_
      refine sm_iload (i := 6) 43 5 (by decide +kernel) rfl rfl ?_
      refine sm_iadd 44 (by decide +kernel) rfl ?_
      obtain ⟨z4, ez4, hf⟩ := hf
      refine sm_bald 45 (by decide +kernel) ez4 rfl ?_
      refine sm_icmp_ne (off := 7) 48 52 (by decide +kernel) (by decide) rfl (fun q5 => ?_) (fun q5 => ?_)
      · have hf := hf.2 q5
        refine sm_iconst (i := 0) (x := 0) 53 (by decide +kernel) rfl rfl ?_
        exact sm_sub [0, 1, 2, 3, 5] rfl hf
      · have hf := hf.1 q5
        refine sm_iconst (i := 1) (x := 1) 49 (by decide +kernel) rfl rfl ?_
        refine sm_goto (off := 4) 53 (by decide +kernel) (by decide) ?_
        exact sm_sub [0, 1, 2, 3, 5] rfl hf
def fM_isAlike_53 (N d : Nat) (h : sm_H) (Q : Option Value → sm_H → Prop) (x0 : Nat) (x1 : Int32) (x2 : Int32) (x3 : Int32) (x6 : Int32) (y0 : Int32) : Prop := sm_W N (d + 1) mm_M_isAlike 16 [(0, .ref x0), (1, .int x1), (2, .int x2), (3, .int x3), (5, .int y0), (6, .int (x6 + 1))] [] h Q
set_option maxRecDepth 20000 in
set_option maxHeartbeats 4000000 in
theorem kM_isAlike_53 {N d : Nat} {h : sm_H} {Q : Option Value → sm_H → Prop} {x0 : Nat} {x1 : Int32} {x2 : Int32} {x3 : Int32} {x6 : Int32} {y0 : Int32} (hf : fM_isAlike_53 N d h Q x0 x1 x2 x3 x6 y0) : sm_W N (d + 1) mm_M_isAlike 53 [(0, .ref x0), (1, .int x1), (2, .int x2), (3, .int x3), (6, .int x6)] [.int y0] h Q := by
  unfold fM_isAlike_53 at hf
  refine sm_istore (i := 5) 55 [(5, .int y0), (0, .ref x0), (1, .int x1), (2, .int x2), (3, .int x3), (6, .int x6)] (by decide +kernel) (by decide) (by first | rfl | simp [sm_rfc]) rfl ?_
  refine sm_iinc (i := 6) (j := 5) (z := 1) (y := x6 + 1) 58 [(6, .int (x6 + 1)), (5, .int y0), (0, .ref x0), (1, .int x1), (2, .int x2), (3, .int x3)] (by decide +kernel) rfl (by rfl) (by decide) rfl rfl ?_
  refine sm_goto (off := -42) 16 (by decide +kernel) (by decide) ?_
  exact sm_sub [2, 3, 4, 5, 1, 0] rfl hf
theorem cM_isAlike {N d : Nat} {h : sm_H} {Q : Option Value → sm_H → Prop} {x0 : Nat} {x1 : Int32} {x2 : Int32} {x3 : Int32} {x4 : Int32} (hb : ∃ fs, h[x0]? = some (.inr (5, fs))) (hf : fM_isAlike_0 N d h Q x0 x1 x2 x3 x4) : sm_V N (d + 1) mm_M_isAlike 5 x0 [.int x1, .int x2, .int x3, .int x4] h Q := ⟨hb, sm_meth (by decide +kernel) (fun _ => Nat.le_of_ble_eq_true rfl) (fun _ => rfl) (kM_isAlike_0 hf)⟩
def fM_named_0 (N d : Nat) (h : sm_H) (Q : Option Value → sm_H → Prop) (x0 : Nat) (x1 : Int32) (x2 : Int32) (x3 : Int32) : Prop := ∃ z1 : Nat, sm_g h x0 5 13 = some (.ref z1) ∧ ∃ z2 : Int32, sm_gi h z1 1 x1 = some z2 ∧ sm_W N (d + 1) mm_M_named 11 [(0, .ref x0), (2, .int x2), (3, .int x3), (4, .int (-1)), (5, .int z2)] [] h Q
set_option maxRecDepth 20000 in
set_option maxHeartbeats 4000000 in
theorem kM_named_0 {N d : Nat} {h : sm_H} {Q : Option Value → sm_H → Prop} {x0 : Nat} {x1 : Int32} {x2 : Int32} {x3 : Int32} (hf : fM_named_0 N d h Q x0 x1 x2 x3) : sm_W N (d + 1) mm_M_named 0 [(0, .ref x0), (1, .int x1), (2, .int x2), (3, .int x3)] [] h Q := by
  unfold fM_named_0 at hf
  refine sm_iconst (i := -1) (x := (-1)) 1 (by decide +kernel) rfl rfl ?_
  refine sm_istore (i := 4) 3 [(4, .int (-1)), (0, .ref x0), (1, .int x1), (2, .int x2), (3, .int x3)] (by decide +kernel) (by decide) (by first | rfl | simp [sm_rfc]) rfl ?_
  refine sm_aload_n (k := 0) 4 1 (by decide +kernel) rfl rfl rfl ?_
  obtain ⟨z1, ez1, hf⟩ := hf
  refine sm_get 7 (by decide +kernel) fl_M_40 ez1 rfl ?_
  refine sm_iload_n (k := 1) 8 2 (by decide +kernel) rfl rfl rfl ?_
  obtain ⟨z2, ez2, hf⟩ := hf
  refine sm_iald 9 (by decide +kernel) ez2 rfl ?_
  refine sm_istore (i := 5) 11 [(5, .int z2), (4, .int (-1)), (0, .ref x0), (1, .int x1), (2, .int x2), (3, .int x3)] (by decide +kernel) (by decide) (by first | rfl | simp [sm_rfc]) rfl ?_
  exact sm_sub [2, 4, 5, 1, 0] rfl hf
def fM_named_11 (N d : Nat) (h : sm_H) (Q : Option Value → sm_H → Prop) (x0 : Nat) (x2 : Int32) (x3 : Int32) (x4 : Int32) (x5 : Int32) : Prop := ((x5 < 0 → Q (some (.int x4)) h) ∧ (¬ x5 < 0 → ∃ z1 : Nat, sm_g h x0 5 8 = some (.ref z1) ∧ ∃ z2 : Int32, sm_gi h z1 1 x5 = some z2 ∧ ∃ z3 : Nat, sm_g h x0 5 9 = some (.ref z3) ∧ ∃ z4 : Int32, sm_gi h z3 1 x5 = some z4 ∧ sm_V N d mm_M_isAlike 5 x0 [.int z2, .int z4, .int x2, .int x3] h (fun r6 h5 => ∃ z7 : Int32, r6 = some (.int z7) ∧ ((z7 = 0 → sm_W N (d + 1) mm_M_named 46 [(0, .ref x0), (2, .int x2), (3, .int x3), (5, .int x5)] [.int x4] h5 Q) ∧ (¬ z7 = 0 → sm_W N (d + 1) mm_M_named 46 [(0, .ref x0), (2, .int x2), (3, .int x3), (5, .int x5)] [.int x5] h5 Q)))))
set_option maxRecDepth 20000 in
set_option maxHeartbeats 4000000 in
theorem kM_named_11 {N d : Nat} {h : sm_H} {Q : Option Value → sm_H → Prop} {x0 : Nat} {x2 : Int32} {x3 : Int32} {x4 : Int32} {x5 : Int32} (hf : fM_named_11 N d h Q x0 x2 x3 x4 x5) : sm_W N (d + 1) mm_M_named 11 [(0, .ref x0), (2, .int x2), (3, .int x3), (4, .int x4), (5, .int x5)] [] h Q := by
  unfold fM_named_11 at hf
  refine sm_iload (i := 5) 13 4 (by decide +kernel) rfl rfl ?_
  refine sm_if_lt (off := 47) 16 60 (by decide +kernel) (by decide) rfl (fun q9 => ?_) (fun q9 => ?_)
  · have hf := hf.1 q9
    refine sm_iload (i := 4) 62 3 (by decide +kernel) rfl rfl ?_
    exact sm_iret rfl (by decide +kernel) hf
  · have hf := hf.2 q9
    refine sm_aload_n (k := 0) 17 0 (by decide +kernel) rfl rfl rfl ?_
    refine sm_aload_n (k := 0) 18 0 (by decide +kernel) rfl rfl rfl ?_
    obtain ⟨z1, ez1, hf⟩ := hf
    refine sm_get 21 (by decide +kernel) fl_M_24 ez1 rfl ?_
    refine sm_iload (i := 5) 23 4 (by decide +kernel) rfl rfl ?_
    obtain ⟨z2, ez2, hf⟩ := hf
    refine sm_iald 24 (by decide +kernel) ez2 rfl ?_
    refine sm_aload_n (k := 0) 25 0 (by decide +kernel) rfl rfl rfl ?_
    obtain ⟨z3, ez3, hf⟩ := hf
    refine sm_get 28 (by decide +kernel) fl_M_27 ez3 rfl ?_
    refine sm_iload (i := 5) 30 4 (by decide +kernel) rfl rfl ?_
    obtain ⟨z4, ez4, hf⟩ := hf
    refine sm_iald 31 (by decide +kernel) ez4 rfl ?_
    refine sm_iload_n (k := 2) 32 1 (by decide +kernel) rfl rfl rfl ?_
    refine sm_iload_n (k := 3) 33 2 (by decide +kernel) rfl rfl rfl ?_
    refine sm_callV (M2 := mm_M_isAlike) (av := [.int z2, .int z4, .int x2, .int x3]) (rest := []) 36 (by decide +kernel) ml_M_97 (Nat.le_refl _) rfl rfl (by first | exact Nat.le_of_ble_eq_true rfl | simp [sm_rfc, Value.category]) rfl hf ?_
    rintro r6 h5 ⟨z7, rfl, hf⟩
    change sm_W N (d + 1) mm_M_named 36 [(0, .ref x0), (2, .int x2), (3, .int x3), (4, .int x4), (5, .int x5)] [.int z7] h5 Q
    refine sm_if_eq (off := 8) 39 44 (by decide +kernel) (by decide) rfl (fun q8 => ?_) (fun q8 => ?_)
    · have hf := hf.1 q8
      refine sm_iload (i := 4) 46 3 (by decide +kernel) rfl rfl ?_
      exact sm_sub [0, 1, 2, 4] rfl hf
    · have hf := hf.2 q8
      refine sm_iload (i := 5) 41 4 (by decide +kernel) rfl rfl ?_
      refine sm_goto (off := 5) 46 (by decide +kernel) (by decide) ?_
      exact sm_sub [0, 1, 2, 4] rfl hf
def fM_named_46 (N d : Nat) (h : sm_H) (Q : Option Value → sm_H → Prop) (x0 : Nat) (x2 : Int32) (x3 : Int32) (x5 : Int32) (y0 : Int32) : Prop := ∃ z1 : Nat, sm_g h x0 5 14 = some (.ref z1) ∧ ∃ z2 : Int32, sm_gi h z1 1 x5 = some z2 ∧ sm_W N (d + 1) mm_M_named 11 [(0, .ref x0), (2, .int x2), (3, .int x3), (4, .int y0), (5, .int z2)] [] h Q
set_option maxRecDepth 20000 in
set_option maxHeartbeats 4000000 in
theorem kM_named_46 {N d : Nat} {h : sm_H} {Q : Option Value → sm_H → Prop} {x0 : Nat} {x2 : Int32} {x3 : Int32} {x5 : Int32} {y0 : Int32} (hf : fM_named_46 N d h Q x0 x2 x3 x5 y0) : sm_W N (d + 1) mm_M_named 46 [(0, .ref x0), (2, .int x2), (3, .int x3), (5, .int x5)] [.int y0] h Q := by
  unfold fM_named_46 at hf
  refine sm_istore (i := 4) 48 [(4, .int y0), (0, .ref x0), (2, .int x2), (3, .int x3), (5, .int x5)] (by decide +kernel) (by decide) (by first | rfl | simp [sm_rfc]) rfl ?_
  refine sm_aload_n (k := 0) 49 1 (by decide +kernel) rfl rfl rfl ?_
  obtain ⟨z1, ez1, hf⟩ := hf
  refine sm_get 52 (by decide +kernel) fl_M_43 ez1 rfl ?_
  refine sm_iload (i := 5) 54 4 (by decide +kernel) rfl rfl ?_
  obtain ⟨z2, ez2, hf⟩ := hf
  refine sm_iald 55 (by decide +kernel) ez2 rfl ?_
  refine sm_istore (i := 5) 57 [(5, .int z2), (4, .int y0), (0, .ref x0), (2, .int x2), (3, .int x3)] (by decide +kernel) (by decide) (by first | rfl | simp [sm_rfc]) rfl ?_
  refine sm_goto (off := -46) 11 (by decide +kernel) (by decide) ?_
  exact sm_sub [2, 3, 4, 1, 0] rfl hf
theorem cM_named {N d : Nat} {h : sm_H} {Q : Option Value → sm_H → Prop} {x0 : Nat} {x1 : Int32} {x2 : Int32} {x3 : Int32} (hb : ∃ fs, h[x0]? = some (.inr (5, fs))) (hf : fM_named_0 N d h Q x0 x1 x2 x3) : sm_V N (d + 1) mm_M_named 5 x0 [.int x1, .int x2, .int x3] h Q := ⟨hb, sm_meth (by decide +kernel) (fun _ => Nat.le_of_ble_eq_true rfl) (fun _ => rfl) (kM_named_0 hf)⟩
def fM_countOf_0 (N d : Nat) (h : sm_H) (Q : Option Value → sm_H → Prop) (x0 : Nat) (x1 : Int32) : Prop := ∃ z1 : Nat, sm_g h x0 5 13 = some (.ref z1) ∧ ∃ z2 : Int32, sm_gi h z1 1 x1 = some z2 ∧ sm_W N (d + 1) mm_M_countOf 9 [(0, .ref x0), (2, .int 0), (3, .int z2)] [] h Q
set_option maxRecDepth 20000 in
set_option maxHeartbeats 4000000 in
theorem kM_countOf_0 {N d : Nat} {h : sm_H} {Q : Option Value → sm_H → Prop} {x0 : Nat} {x1 : Int32} (hf : fM_countOf_0 N d h Q x0 x1) : sm_W N (d + 1) mm_M_countOf 0 [(0, .ref x0), (1, .int x1)] [] h Q := by
  unfold fM_countOf_0 at hf
  refine sm_iconst (i := 0) (x := 0) 1 (by decide +kernel) rfl rfl ?_
  refine sm_istore_n (k := 2) 2 [(2, .int 0), (0, .ref x0), (1, .int x1)] (by decide +kernel) rfl (by decide) (by first | rfl | simp [sm_rfc]) rfl ?_
  refine sm_aload_n (k := 0) 3 1 (by decide +kernel) rfl rfl rfl ?_
  obtain ⟨z1, ez1, hf⟩ := hf
  refine sm_get 6 (by decide +kernel) fl_M_40 ez1 rfl ?_
  refine sm_iload_n (k := 1) 7 2 (by decide +kernel) rfl rfl rfl ?_
  obtain ⟨z2, ez2, hf⟩ := hf
  refine sm_iald 8 (by decide +kernel) ez2 rfl ?_
  refine sm_istore_n (k := 3) 9 [(3, .int z2), (2, .int 0), (0, .ref x0), (1, .int x1)] (by decide +kernel) rfl (by decide) (by first | rfl | simp [sm_rfc]) rfl ?_
  exact sm_sub [2, 1, 0] rfl hf
def fM_countOf_9 (N d : Nat) (h : sm_H) (Q : Option Value → sm_H → Prop) (x0 : Nat) (x2 : Int32) (x3 : Int32) : Prop := ((x3 < 0 → Q (some (.int x2)) h) ∧ (¬ x3 < 0 → ∃ z1 : Nat, sm_g h x0 5 14 = some (.ref z1) ∧ ∃ z2 : Int32, sm_gi h z1 1 x3 = some z2 ∧ sm_W N (d + 1) mm_M_countOf 9 [(0, .ref x0), (2, .int (x2 + 1)), (3, .int z2)] [] h Q))
set_option maxRecDepth 20000 in
set_option maxHeartbeats 4000000 in
theorem kM_countOf_9 {N d : Nat} {h : sm_H} {Q : Option Value → sm_H → Prop} {x0 : Nat} {x2 : Int32} {x3 : Int32} (hf : fM_countOf_9 N d h Q x0 x2 x3) : sm_W N (d + 1) mm_M_countOf 9 [(0, .ref x0), (2, .int x2), (3, .int x3)] [] h Q := by
  unfold fM_countOf_9 at hf
  refine sm_iload_n (k := 3) 10 2 (by decide +kernel) rfl rfl rfl ?_
  refine sm_if_lt (off := 16) 13 26 (by decide +kernel) (by decide) rfl (fun q3 => ?_) (fun q3 => ?_)
  · have hf := hf.1 q3
    refine sm_iload_n (k := 2) 27 1 (by decide +kernel) rfl rfl rfl ?_
    exact sm_iret rfl (by decide +kernel) hf
  · have hf := hf.2 q3
    refine sm_iinc (i := 2) (j := 1) (z := 1) (y := x2 + 1) 16 [(2, .int (x2 + 1)), (0, .ref x0), (3, .int x3)] (by decide +kernel) rfl (by rfl) (by decide) rfl rfl ?_
    refine sm_aload_n (k := 0) 17 1 (by decide +kernel) rfl rfl rfl ?_
    obtain ⟨z1, ez1, hf⟩ := hf
    refine sm_get 20 (by decide +kernel) fl_M_43 ez1 rfl ?_
    refine sm_iload_n (k := 3) 21 2 (by decide +kernel) rfl rfl rfl ?_
    obtain ⟨z2, ez2, hf⟩ := hf
    refine sm_iald 22 (by decide +kernel) ez2 rfl ?_
    refine sm_istore_n (k := 3) 23 [(3, .int z2), (2, .int (x2 + 1)), (0, .ref x0)] (by decide +kernel) rfl (by decide) (by first | rfl | simp [sm_rfc]) rfl ?_
    refine sm_goto (off := -14) 9 (by decide +kernel) (by decide) ?_
    exact sm_sub [2, 1, 0] rfl hf
theorem cM_countOf {N d : Nat} {h : sm_H} {Q : Option Value → sm_H → Prop} {x0 : Nat} {x1 : Int32} (hb : ∃ fs, h[x0]? = some (.inr (5, fs))) (hf : fM_countOf_0 N d h Q x0 x1) : sm_V N (d + 1) mm_M_countOf 5 x0 [.int x1] h Q := ⟨hb, sm_meth (by decide +kernel) (fun _ => Nat.le_of_ble_eq_true rfl) (fun _ => rfl) (kM_countOf_0 hf)⟩
def fM_numberAt_0 (N d : Nat) (h : sm_H) (Q : Option Value → sm_H → Prop) (x0 : Nat) (x1 : Int32) (x2 : Int32) : Prop := sm_W N (d + 1) mm_M_numberAt 5 [(0, .ref x0), (1, .int x1), (2, .int x2), (3, .int 0), (4, .int x1)] [] h Q
set_option maxRecDepth 20000 in
set_option maxHeartbeats 4000000 in
theorem kM_numberAt_0 {N d : Nat} {h : sm_H} {Q : Option Value → sm_H → Prop} {x0 : Nat} {x1 : Int32} {x2 : Int32} (hf : fM_numberAt_0 N d h Q x0 x1 x2) : sm_W N (d + 1) mm_M_numberAt 0 [(0, .ref x0), (1, .int x1), (2, .int x2)] [] h Q := by
  unfold fM_numberAt_0 at hf
  refine sm_iconst (i := 0) (x := 0) 1 (by decide +kernel) rfl rfl ?_
  refine sm_istore_n (k := 3) 2 [(3, .int 0), (0, .ref x0), (1, .int x1), (2, .int x2)] (by decide +kernel) rfl (by decide) (by first | rfl | simp [sm_rfc]) rfl ?_
  refine sm_iload_n (k := 1) 3 2 (by decide +kernel) rfl rfl rfl ?_
  refine sm_istore (i := 4) 5 [(4, .int x1), (3, .int 0), (0, .ref x0), (1, .int x1), (2, .int x2)] (by decide +kernel) (by decide) (by first | rfl | simp [sm_rfc]) rfl ?_
  exact sm_sub [2, 3, 4, 1, 0] rfl hf
def fM_numberAt_5 (N d : Nat) (h : sm_H) (Q : Option Value → sm_H → Prop) (x0 : Nat) (x1 : Int32) (x2 : Int32) (x3 : Int32) (x4 : Int32) : Prop := (((x1 + x2) ≤ x4 → ((x2 = 0 → sm_W N (d + 1) mm_M_numberAt 83 [] [] h Q) ∧ (¬ x2 = 0 → ((x2 ≤ 1 → Q (some (.int x3)) h) ∧ (¬ x2 ≤ 1 → sm_V N d mm_M_at 5 x0 [.int x1] h (fun r2 h1 => ∃ z3 : Int32, r2 = some (.int z3) ∧ ((z3 = 48 → sm_W N (d + 1) mm_M_numberAt 83 [] [] h1 Q) ∧ (¬ z3 = 48 → Q (some (.int x3)) h1)))))))) ∧ (¬ (x1 + x2) ≤ x4 → sm_V N d mm_M_at 5 x0 [.int x4] h (fun r8 h7 => ∃ z9 : Int32, r8 = some (.int z9) ∧ ((z9 < 48 → Q (some (.int (-1))) h7) ∧ (¬ z9 < 48 → sm_V N d mm_M_at 5 x0 [.int x4] h7 (fun r11 h10 => ∃ z12 : Int32, r11 = some (.int z12) ∧ ((57 < z12 → Q (some (.int (-1))) h10) ∧ (¬ 57 < z12 → ((x3 ≤ 10000000 → sm_V N d mm_M_at 5 x0 [.int x4] h10 (fun r14 h13 => ∃ z15 : Int32, r14 = some (.int z15) ∧ sm_W N (d + 1) mm_M_numberAt 5 [(0, .ref x0), (1, .int x1), (2, .int x2), (3, .int (((10 * x3) + z15) - 48)), (4, .int (x4 + 1))] [] h13 Q)) ∧ (¬ x3 ≤ 10000000 → Q (some (.int (-1))) h10))))))))))
set_option maxRecDepth 20000 in
set_option maxHeartbeats 4000000 in
theorem kM_numberAt_5 {N d : Nat} {h : sm_H} {Q : Option Value → sm_H → Prop} {x0 : Nat} {x1 : Int32} {x2 : Int32} {x3 : Int32} {x4 : Int32} (hf : fM_numberAt_5 N d h Q x0 x1 x2 x3 x4) : sm_W N (d + 1) mm_M_numberAt 5 [(0, .ref x0), (1, .int x1), (2, .int x2), (3, .int x3), (4, .int x4)] [] h Q := by
  unfold fM_numberAt_5 at hf
  refine sm_iload (i := 4) 7 4 (by decide +kernel) rfl rfl ?_
  refine sm_iload_n (k := 1) 8 1 (by decide +kernel) rfl rfl rfl ?_
  refine sm_iload_n (k := 2) 9 2 (by decide +kernel) rfl rfl rfl ?_
  refine sm_iadd 10 (by decide +kernel) rfl ?_
  refine sm_icmp_ge (off := 54) 13 64 (by decide +kernel) (by decide) rfl (fun q19 => ?_) (fun q19 => ?_)
  · have hf := hf.1 q19
    refine sm_iload_n (k := 2) 65 2 (by decide +kernel) rfl rfl rfl ?_
    refine sm_if_eq (off := 18) 68 83 (by decide +kernel) (by decide) rfl (fun q6 => ?_) (fun q6 => ?_)
    · have hf := hf.1 q6
      exact sm_sub [] rfl hf
    · have hf := hf.2 q6
      refine sm_iload_n (k := 2) 69 2 (by decide +kernel) rfl rfl rfl ?_
      refine sm_iconst (i := 1) (x := 1) 70 (by decide +kernel) rfl rfl ?_
      refine sm_icmp_le (off := 17) 73 87 (by decide +kernel) (by decide) rfl (fun q5 => ?_) (fun q5 => ?_)
      · have hf := hf.1 q5
        refine sm_iload_n (k := 3) 88 3 (by decide +kernel) rfl rfl rfl ?_
        exact sm_iret rfl (by decide +kernel) hf
      · have hf := hf.2 q5
        refine sm_aload_n (k := 0) 74 0 (by decide +kernel) rfl rfl rfl ?_
        refine sm_iload_n (k := 1) 75 1 (by decide +kernel) rfl rfl rfl ?_
        refine sm_callV (M2 := mm_M_at) (av := [.int x1]) (rest := []) 78 (by decide +kernel) ml_M_73 (Nat.le_refl _) rfl rfl (by first | exact Nat.le_of_ble_eq_true rfl | simp [sm_rfc, Value.category]) rfl hf ?_
        rintro r2 h1 ⟨z3, rfl, hf⟩
        change sm_W N (d + 1) mm_M_numberAt 78 [(0, .ref x0), (1, .int x1), (2, .int x2), (3, .int x3), (4, .int x4)] [.int z3] h1 Q
        refine sm_bipush (i := 48) (x := 48) 80 (by decide +kernel) (by decide) rfl ?_
        refine sm_icmp_ne (off := 7) 83 87 (by decide +kernel) (by decide) rfl (fun q4 => ?_) (fun q4 => ?_)
        · have hf := hf.2 q4
          refine sm_iload_n (k := 3) 88 3 (by decide +kernel) rfl rfl rfl ?_
          exact sm_iret rfl (by decide +kernel) hf
        · have hf := hf.1 q4
          exact sm_sub [] rfl hf
  · have hf := hf.2 q19
    refine sm_aload_n (k := 0) 14 0 (by decide +kernel) rfl rfl rfl ?_
    refine sm_iload (i := 4) 16 4 (by decide +kernel) rfl rfl ?_
    refine sm_callV (M2 := mm_M_at) (av := [.int x4]) (rest := []) 19 (by decide +kernel) ml_M_73 (Nat.le_refl _) rfl rfl (by first | exact Nat.le_of_ble_eq_true rfl | simp [sm_rfc, Value.category]) rfl hf ?_
    rintro r8 h7 ⟨z9, rfl, hf⟩
    change sm_W N (d + 1) mm_M_numberAt 19 [(0, .ref x0), (1, .int x1), (2, .int x2), (3, .int x3), (4, .int x4)] [.int z9] h7 Q
    refine sm_bipush (i := 48) (x := 48) 21 (by decide +kernel) (by decide) rfl ?_
    refine sm_icmp_lt (off := 20) 24 41 (by decide +kernel) (by decide) rfl (fun q18 => ?_) (fun q18 => ?_)
    · have hf := hf.1 q18
      refine sm_iconst (i := -1) (x := (-1)) 42 (by decide +kernel) rfl rfl ?_
      exact sm_iret rfl (by decide +kernel) hf
    · have hf := hf.2 q18
      refine sm_aload_n (k := 0) 25 0 (by decide +kernel) rfl rfl rfl ?_
      refine sm_iload (i := 4) 27 4 (by decide +kernel) rfl rfl ?_
      refine sm_callV (M2 := mm_M_at) (av := [.int x4]) (rest := []) 30 (by decide +kernel) ml_M_73 (Nat.le_refl _) rfl rfl (by first | exact Nat.le_of_ble_eq_true rfl | simp [sm_rfc, Value.category]) rfl hf ?_
      rintro r11 h10 ⟨z12, rfl, hf⟩
      change sm_W N (d + 1) mm_M_numberAt 30 [(0, .ref x0), (1, .int x1), (2, .int x2), (3, .int x3), (4, .int x4)] [.int z12] h10 Q
      refine sm_bipush (i := 57) (x := 57) 32 (by decide +kernel) (by decide) rfl ?_
      refine sm_icmp_gt (off := 9) 35 41 (by decide +kernel) (by decide) rfl (fun q17 => ?_) (fun q17 => ?_)
      · have hf := hf.1 q17
        refine sm_iconst (i := -1) (x := (-1)) 42 (by decide +kernel) rfl rfl ?_
        exact sm_iret rfl (by decide +kernel) hf
      · have hf := hf.2 q17
        refine sm_iload_n (k := 3) 36 3 (by decide +kernel) rfl rfl rfl ?_
        refine sm_ldc (i := 101) (x := 10000000) 38 (by decide +kernel) kc_M_101 rfl ?_
        refine sm_icmp_le (off := 5) 41 43 (by decide +kernel) (by decide) rfl (fun q16 => ?_) (fun q16 => ?_)
        · have hf := hf.1 q16
          refine sm_bipush (i := 10) (x := 10) 45 (by decide +kernel) (by decide) rfl ?_
          refine sm_iload_n (k := 3) 46 3 (by decide +kernel) rfl rfl rfl ?_
          refine sm_imul 47 (by decide +kernel) rfl ?_
          refine sm_aload_n (k := 0) 48 0 (by decide +kernel) rfl rfl rfl ?_
          refine sm_iload (i := 4) 50 4 (by decide +kernel) rfl rfl ?_
          refine sm_callV (M2 := mm_M_at) (av := [.int x4]) (rest := [.int (10 * x3)]) 53 (by decide +kernel) ml_M_73 (Nat.le_refl _) rfl rfl (by first | exact Nat.le_of_ble_eq_true rfl | simp [sm_rfc, Value.category]) rfl hf ?_
          rintro r14 h13 ⟨z15, rfl, hf⟩
          change sm_W N (d + 1) mm_M_numberAt 53 [(0, .ref x0), (1, .int x1), (2, .int x2), (3, .int x3), (4, .int x4)] [.int z15, .int (10 * x3)] h13 Q
          refine sm_iadd 54 (by decide +kernel) rfl ?_
          refine sm_bipush (i := 48) (x := 48) 56 (by decide +kernel) (by decide) rfl ?_
          refine sm_isub 57 (by decide +kernel) rfl ?_
          refine sm_istore_n (k := 3) 58 [(3, .int (((10 * x3) + z15) - 48)), (0, .ref x0), (1, .int x1), (2, .int x2), (4, .int x4)] (by decide +kernel) rfl (by decide) (by first | rfl | simp [sm_rfc]) rfl ?_
          refine sm_iinc (i := 4) (j := 4) (z := 1) (y := x4 + 1) 61 [(4, .int (x4 + 1)), (3, .int (((10 * x3) + z15) - 48)), (0, .ref x0), (1, .int x1), (2, .int x2)] (by decide +kernel) rfl (by rfl) (by decide) rfl rfl ?_
          refine sm_goto (off := -56) 5 (by decide +kernel) (by decide) ?_
          exact sm_sub [2, 3, 4, 1, 0] rfl hf
        · have hf := hf.2 q16
          refine sm_iconst (i := -1) (x := (-1)) 42 (by decide +kernel) rfl rfl ?_
          exact sm_iret rfl (by decide +kernel) hf
def fM_numberAt_83 (N d : Nat) (h : sm_H) (Q : Option Value → sm_H → Prop)  : Prop := Q (some (.int (-1))) h
set_option maxRecDepth 20000 in
set_option maxHeartbeats 4000000 in
theorem kM_numberAt_83 {N d : Nat} {h : sm_H} {Q : Option Value → sm_H → Prop}  (hf : fM_numberAt_83 N d h Q ) : sm_W N (d + 1) mm_M_numberAt 83 [] [] h Q := by
  unfold fM_numberAt_83 at hf
  refine sm_iconst (i := -1) (x := (-1)) 84 (by decide +kernel) rfl rfl ?_
  refine sm_goto (off := 4) 88 (by decide +kernel) (by decide) ?_
  exact sm_iret rfl (by decide +kernel) hf
theorem cM_numberAt {N d : Nat} {h : sm_H} {Q : Option Value → sm_H → Prop} {x0 : Nat} {x1 : Int32} {x2 : Int32} (hb : ∃ fs, h[x0]? = some (.inr (5, fs))) (hf : fM_numberAt_0 N d h Q x0 x1 x2) : sm_V N (d + 1) mm_M_numberAt 5 x0 [.int x1, .int x2] h Q := ⟨hb, sm_meth (by decide +kernel) (fun _ => Nat.le_of_ble_eq_true rfl) (fun _ => rfl) (kM_numberAt_0 hf)⟩
def fM_opens_0 (N d : Nat) (h : sm_H) (Q : Option Value → sm_H → Prop) (x0 : Nat) (x1 : Int32) (x2 : Int32) (x3 : Int32) (x4 : Int32) : Prop := (((x3 - x2) < 4 → Q (some (.int 0)) h) ∧ (¬ (x3 - x2) < 4 → ((x4 = 16 → Q (some (.int 0)) h) ∧ (¬ x4 = 16 → sm_V N d mm_M_whole 5 x0 [.int x2] h (fun r2 h1 => ∃ z3 : Int32, r2 = some (.int z3) ∧ ((z3 < 5 → Q (some (.int 0)) h1) ∧ (¬ z3 < 5 → (((x3 - x2) < z3 → Q (some (.int 0)) h1) ∧ (¬ (x3 - x2) < z3 → ∃ z4 : Nat, sm_g h1 x0 5 1 = some (.ref z4) ∧ ∃ z5 : Int32, sm_gi h1 z4 0 ((x2 + z3) - 1) = some z5 ∧ ((z5 = 0 → ∃ z6 : Nat, sm_g h1 x0 5 16 = some (.ref z6) ∧ ∃ h7, sm_pi h1 z6 x4 x1 = some h7 ∧ ∃ z8 : Nat, sm_g h7 x0 5 17 = some (.ref z8) ∧ ∃ h9, sm_pi h7 z8 x4 ((x2 + z3) - 1) = some h9 ∧ Q (some (.int 1)) h9) ∧ (¬ z5 = 0 → Q (some (.int 0)) h1)))))))))))
set_option maxRecDepth 20000 in
set_option maxHeartbeats 4000000 in
theorem kM_opens_0 {N d : Nat} {h : sm_H} {Q : Option Value → sm_H → Prop} {x0 : Nat} {x1 : Int32} {x2 : Int32} {x3 : Int32} {x4 : Int32} (hf : fM_opens_0 N d h Q x0 x1 x2 x3 x4) : sm_W N (d + 1) mm_M_opens 0 [(0, .ref x0), (1, .int x1), (2, .int x2), (3, .int x3), (4, .int x4)] [] h Q := by
  unfold fM_opens_0 at hf
  refine sm_iload_n (k := 3) 1 3 (by decide +kernel) rfl rfl rfl ?_
  refine sm_iload_n (k := 2) 2 2 (by decide +kernel) rfl rfl rfl ?_
  refine sm_isub 3 (by decide +kernel) rfl ?_
  refine sm_iconst (i := 4) (x := 4) 4 (by decide +kernel) rfl rfl ?_
  refine sm_icmp_lt (off := 10) 7 14 (by decide +kernel) (by decide) rfl (fun q14 => ?_) (fun q14 => ?_)
  · have hf := hf.1 q14
    refine sm_iconst (i := 0) (x := 0) 15 (by decide +kernel) rfl rfl ?_
    exact sm_zret rfl (by decide +kernel) (by decide) hf
  · have hf := hf.2 q14
    refine sm_iload (i := 4) 9 4 (by decide +kernel) rfl rfl ?_
    refine sm_bipush (i := 16) (x := 16) 11 (by decide +kernel) (by decide) rfl ?_
    refine sm_icmp_ne (off := 5) 14 16 (by decide +kernel) (by decide) rfl (fun q13 => ?_) (fun q13 => ?_)
    · have hf := hf.2 q13
      refine sm_aload_n (k := 0) 17 0 (by decide +kernel) rfl rfl rfl ?_
      refine sm_iload_n (k := 2) 18 2 (by decide +kernel) rfl rfl rfl ?_
      refine sm_callV (M2 := mm_M_whole) (av := [.int x2]) (rest := []) 21 (by decide +kernel) ml_M_102 (Nat.le_refl _) rfl rfl (by first | exact Nat.le_of_ble_eq_true rfl | simp [sm_rfc, Value.category]) rfl hf ?_
      rintro r2 h1 ⟨z3, rfl, hf⟩
      change sm_W N (d + 1) mm_M_opens 21 [(0, .ref x0), (1, .int x1), (2, .int x2), (3, .int x3), (4, .int x4)] [.int z3] h1 Q
      refine sm_istore (i := 5) 23 [(5, .int z3), (0, .ref x0), (1, .int x1), (2, .int x2), (3, .int x3), (4, .int x4)] (by decide +kernel) (by decide) (by first | rfl | simp [sm_rfc]) rfl ?_
      refine sm_iload (i := 5) 25 0 (by decide +kernel) rfl rfl ?_
      refine sm_iconst (i := 5) (x := 5) 26 (by decide +kernel) rfl rfl ?_
      refine sm_icmp_lt (off := 25) 29 51 (by decide +kernel) (by decide) rfl (fun q12 => ?_) (fun q12 => ?_)
      · have hf := hf.1 q12
        refine sm_iconst (i := 0) (x := 0) 52 (by decide +kernel) rfl rfl ?_
        exact sm_zret rfl (by decide +kernel) (by decide) hf
      · have hf := hf.2 q12
        refine sm_iload (i := 5) 31 0 (by decide +kernel) rfl rfl ?_
        refine sm_iload_n (k := 3) 32 4 (by decide +kernel) rfl rfl rfl ?_
        refine sm_iload_n (k := 2) 33 3 (by decide +kernel) rfl rfl rfl ?_
        refine sm_isub 34 (by decide +kernel) rfl ?_
        refine sm_icmp_gt (off := 17) 37 51 (by decide +kernel) (by decide) rfl (fun q11 => ?_) (fun q11 => ?_)
        · have hf := hf.1 q11
          refine sm_iconst (i := 0) (x := 0) 52 (by decide +kernel) rfl rfl ?_
          exact sm_zret rfl (by decide +kernel) (by decide) hf
        · have hf := hf.2 q11
          refine sm_aload_n (k := 0) 38 1 (by decide +kernel) rfl rfl rfl ?_
          obtain ⟨z4, ez4, hf⟩ := hf
          refine sm_get 41 (by decide +kernel) fl_M_7 ez4 rfl ?_
          refine sm_iload_n (k := 2) 42 3 (by decide +kernel) rfl rfl rfl ?_
          refine sm_iload (i := 5) 44 0 (by decide +kernel) rfl rfl ?_
          refine sm_iadd 45 (by decide +kernel) rfl ?_
          refine sm_iconst (i := 1) (x := 1) 46 (by decide +kernel) rfl rfl ?_
          refine sm_isub 47 (by decide +kernel) rfl ?_
          obtain ⟨z5, ez5, hf⟩ := hf
          refine sm_bald 48 (by decide +kernel) ez5 rfl ?_
          refine sm_if_eq (off := 5) 51 53 (by decide +kernel) (by decide) rfl (fun q10 => ?_) (fun q10 => ?_)
          · have hf := hf.1 q10
            refine sm_aload_n (k := 0) 54 1 (by decide +kernel) rfl rfl rfl ?_
            obtain ⟨z6, ez6, hf⟩ := hf
            refine sm_get 57 (by decide +kernel) fl_M_49 ez6 rfl ?_
            refine sm_iload (i := 4) 59 5 (by decide +kernel) rfl rfl ?_
            refine sm_iload_n (k := 1) 60 2 (by decide +kernel) rfl rfl rfl ?_
            obtain ⟨h7, eh7, hf⟩ := hf
            refine sm_iast 61 (by decide +kernel) eh7 rfl ?_
            refine sm_aload_n (k := 0) 62 1 (by decide +kernel) rfl rfl rfl ?_
            obtain ⟨z8, ez8, hf⟩ := hf
            refine sm_get 65 (by decide +kernel) fl_M_52 ez8 rfl ?_
            refine sm_iload (i := 4) 67 5 (by decide +kernel) rfl rfl ?_
            refine sm_iload_n (k := 2) 68 3 (by decide +kernel) rfl rfl rfl ?_
            refine sm_iload (i := 5) 70 0 (by decide +kernel) rfl rfl ?_
            refine sm_iadd 71 (by decide +kernel) rfl ?_
            refine sm_iconst (i := 1) (x := 1) 72 (by decide +kernel) rfl rfl ?_
            refine sm_isub 73 (by decide +kernel) rfl ?_
            obtain ⟨h9, eh9, hf⟩ := hf
            refine sm_iast 74 (by decide +kernel) eh9 rfl ?_
            refine sm_iconst (i := 1) (x := 1) 75 (by decide +kernel) rfl rfl ?_
            exact sm_zret rfl (by decide +kernel) (by decide) hf
          · have hf := hf.2 q10
            refine sm_iconst (i := 0) (x := 0) 52 (by decide +kernel) rfl rfl ?_
            exact sm_zret rfl (by decide +kernel) (by decide) hf
    · have hf := hf.1 q13
      refine sm_iconst (i := 0) (x := 0) 15 (by decide +kernel) rfl rfl ?_
      exact sm_zret rfl (by decide +kernel) (by decide) hf
theorem cM_opens {N d : Nat} {h : sm_H} {Q : Option Value → sm_H → Prop} {x0 : Nat} {x1 : Int32} {x2 : Int32} {x3 : Int32} {x4 : Int32} (hb : ∃ fs, h[x0]? = some (.inr (5, fs))) (hf : fM_opens_0 N d h Q x0 x1 x2 x3 x4) : sm_V N (d + 1) mm_M_opens 5 x0 [.int x1, .int x2, .int x3, .int x4] h Q := ⟨hb, sm_meth (by decide +kernel) (fun _ => Nat.le_of_ble_eq_true rfl) (fun _ => rfl) (kM_opens_0 hf)⟩
def fM_value_0 (N d : Nat) (h : sm_H) (Q : Option Value → sm_H → Prop) (x0 : Nat) (x1 : Int32) (x2 : Int32) (x3 : Int32) : Prop := ∃ z1 : Nat, sm_g h x0 5 7 = some (.ref z1) ∧ ∃ z2 : Int32, sm_gi h z1 1 x1 = some z2 ∧ ((z2 = 16 → sm_W N (d + 1) mm_M_value 43 [(0, .ref x0), (1, .int x1), (2, .int x2), (3, .int x3), (4, .int z2)] [.int 4] h Q) ∧ (¬ z2 = 16 → ((z2 = 18 → sm_W N (d + 1) mm_M_value 43 [(0, .ref x0), (1, .int x1), (2, .int x2), (3, .int x3), (4, .int z2)] [.int 8] h Q) ∧ (¬ z2 = 18 → ((z2 = 8 → sm_W N (d + 1) mm_M_value 43 [(0, .ref x0), (1, .int x1), (2, .int x2), (3, .int x3), (4, .int z2)] [.int 1] h Q) ∧ (¬ z2 = 8 → sm_W N (d + 1) mm_M_value 43 [(0, .ref x0), (1, .int x1), (2, .int x2), (3, .int x3), (4, .int z2)] [.int 0] h Q))))))
set_option maxRecDepth 20000 in
set_option maxHeartbeats 4000000 in
theorem kM_value_0 {N d : Nat} {h : sm_H} {Q : Option Value → sm_H → Prop} {x0 : Nat} {x1 : Int32} {x2 : Int32} {x3 : Int32} (hf : fM_value_0 N d h Q x0 x1 x2 x3) : sm_W N (d + 1) mm_M_value 0 [(0, .ref x0), (1, .int x1), (2, .int x2), (3, .int x3)] [] h Q := by
  unfold fM_value_0 at hf
  refine sm_aload_n (k := 0) 1 0 (by decide +kernel) rfl rfl rfl ?_
  obtain ⟨z1, ez1, hf⟩ := hf
  refine sm_get 4 (by decide +kernel) fl_M_20 ez1 rfl ?_
  refine sm_iload_n (k := 1) 5 1 (by decide +kernel) rfl rfl rfl ?_
  obtain ⟨z2, ez2, hf⟩ := hf
  refine sm_iald 6 (by decide +kernel) ez2 rfl ?_
  refine sm_istore (i := 4) 8 [(4, .int z2), (0, .ref x0), (1, .int x1), (2, .int x2), (3, .int x3)] (by decide +kernel) (by decide) (by first | rfl | simp [sm_rfc]) rfl ?_
  refine sm_iload (i := 4) 10 0 (by decide +kernel) rfl rfl ?_
  refine sm_bipush (i := 16) (x := 16) 12 (by decide +kernel) (by decide) rfl ?_
  refine sm_icmp_ne (off := 7) 15 19 (by decide +kernel) (by decide) rfl (fun q5 => ?_) (fun q5 => ?_)
  · have hf := hf.2 q5
    refine sm_iload (i := 4) 21 0 (by decide +kernel) rfl rfl ?_
    refine sm_bipush (i := 18) (x := 18) 23 (by decide +kernel) (by decide) rfl ?_
    refine sm_icmp_ne (off := 8) 26 31 (by decide +kernel) (by decide) rfl (fun q4 => ?_) (fun q4 => ?_)
    · have hf := hf.2 q4
      refine sm_iload (i := 4) 33 0 (by decide +kernel) rfl rfl ?_
      refine sm_bipush (i := 8) (x := 8) 35 (by decide +kernel) (by decide) rfl ?_
      refine sm_icmp_ne (off := 7) 38 42 (by decide +kernel) (by decide) rfl (fun q3 => ?_) (fun q3 => ?_)
      · have hf := hf.2 q3
        refine sm_iconst (i := 0) (x := 0) 43 (by decide +kernel) rfl rfl ?_
        exact sm_sub [1, 2, 3, 4, 0] rfl hf
      · have hf := hf.1 q3
        refine sm_iconst (i := 1) (x := 1) 39 (by decide +kernel) rfl rfl ?_
        refine sm_goto (off := 4) 43 (by decide +kernel) (by decide) ?_
        exact sm_sub [1, 2, 3, 4, 0] rfl hf
    · have hf := hf.1 q4
      refine sm_bipush (i := 8) (x := 8) 28 (by decide +kernel) (by decide) rfl ?_
      refine sm_goto (off := 15) 43 (by decide +kernel) (by decide) ?_
      exact sm_sub [1, 2, 3, 4, 0] rfl hf
  · have hf := hf.1 q5
    refine sm_iconst (i := 4) (x := 4) 16 (by decide +kernel) rfl rfl ?_
    refine sm_goto (off := 27) 43 (by decide +kernel) (by decide) ?_
    exact sm_sub [1, 2, 3, 4, 0] rfl hf
def fM_value_43 (N d : Nat) (h : sm_H) (Q : Option Value → sm_H → Prop) (x0 : Nat) (x1 : Int32) (x2 : Int32) (x3 : Int32) (x4 : Int32) (y0 : Int32) : Prop := ((x4 = 2 → (((x3 - x2) < 5 → Q (some (.int (-1))) h) ∧ (¬ (x3 - x2) < 5 → sm_V N d mm_M_whole 5 x0 [.int x2] h (fun r8 h7 => ∃ z9 : Int32, r8 = some (.int z9) ∧ ((z9 < 1 → Q (some (.int (-1))) h7) ∧ (¬ z9 < 1 → sm_V N d mm_M_whole 5 x0 [.int x2] h7 (fun r11 h10 => ∃ z12 : Int32, r11 = some (.int z12) ∧ ((((x3 - x2) - 4) < z12 → Q (some (.int (-1))) h10) ∧ (¬ ((x3 - x2) - 4) < z12 → ∃ z13 : Nat, sm_g h10 x0 5 1 = some (.ref z13) ∧ sm_V N d mm_M_whole 5 x0 [.int x2] h10 (fun r15 h14 => ∃ z16 : Int32, r15 = some (.int z16) ∧ ∃ z17 : Int32, sm_gi h14 z13 0 ((x2 + 3) + z16) = some z17 ∧ ((z17 = 0 → sm_V N d mm_M_whole 5 x0 [.int x2] h14 (fun r19 h18 => ∃ z20 : Int32, r19 = some (.int z20) ∧ sm_V N d mm_M_isText 5 x0 [.int (x2 + 4), .int ((x2 + 3) + z20)] h18 (fun r22 h21 => ∃ z23 : Int32, r22 = some (.int z23) ∧ ((z23 = 0 → Q (some (.int (-1))) h21) ∧ (¬ z23 = 0 → ∃ z24 : Nat, sm_g h21 x0 5 11 = some (.ref z24) ∧ ∃ h25, sm_pi h21 z24 x1 (x2 + 4) = some h25 ∧ ∃ z26 : Nat, sm_g h25 x0 5 12 = some (.ref z26) ∧ sm_V N d mm_M_whole 5 x0 [.int x2] h25 (fun r28 h27 => ∃ z29 : Int32, r28 = some (.int z29) ∧ ∃ h30, sm_pi h27 z26 x1 (z29 - 1) = some h30 ∧ sm_V N d mm_M_whole 5 x0 [.int x2] h30 (fun r32 h31 => ∃ z33 : Int32, r32 = some (.int z33) ∧ Q (some (.int ((x2 + 4) + z33))) h31))))))) ∧ (¬ z17 = 0 → Q (some (.int (-1))) h14)))))))))))) ∧ (¬ x4 = 2 → (((x3 - x2) < y0 → Q (some (.int (-1))) h) ∧ (¬ (x3 - x2) < y0 → ((x4 = 8 → sm_V N d mm_M_at 5 x0 [.int x2] h (fun r2 h1 => ∃ z3 : Int32, r2 = some (.int z3) ∧ ((z3 ≤ 1 → sm_W N (d + 1) mm_M_value 176 [(0, .ref x0), (1, .int x1), (2, .int x2), (4, .int x4), (5, .int y0)] [] h1 Q) ∧ (¬ z3 ≤ 1 → Q (some (.int (-1))) h1)))) ∧ (¬ x4 = 8 → sm_W N (d + 1) mm_M_value 176 [(0, .ref x0), (1, .int x1), (2, .int x2), (4, .int x4), (5, .int y0)] [] h Q))))))
set_option maxRecDepth 20000 in
set_option maxHeartbeats 4000000 in
theorem kM_value_43 {N d : Nat} {h : sm_H} {Q : Option Value → sm_H → Prop} {x0 : Nat} {x1 : Int32} {x2 : Int32} {x3 : Int32} {x4 : Int32} {y0 : Int32} (hf : fM_value_43 N d h Q x0 x1 x2 x3 x4 y0) : sm_W N (d + 1) mm_M_value 43 [(0, .ref x0), (1, .int x1), (2, .int x2), (3, .int x3), (4, .int x4)] [.int y0] h Q := by
  unfold fM_value_43 at hf
  refine sm_istore (i := 5) 45 [(5, .int y0), (0, .ref x0), (1, .int x1), (2, .int x2), (3, .int x3), (4, .int x4)] (by decide +kernel) (by decide) (by first | rfl | simp [sm_rfc]) rfl ?_
  refine sm_iload (i := 4) 47 5 (by decide +kernel) rfl rfl ?_
  refine sm_iconst (i := 2) (x := 2) 48 (by decide +kernel) rfl rfl ?_
  refine sm_icmp_ne (off := 102) 51 150 (by decide +kernel) (by decide) rfl (fun q39 => ?_) (fun q39 => ?_)
  · have hf := hf.2 q39
    refine sm_iload_n (k := 3) 151 4 (by decide +kernel) rfl rfl rfl ?_
    refine sm_iload_n (k := 2) 152 3 (by decide +kernel) rfl rfl rfl ?_
    refine sm_isub 153 (by decide +kernel) rfl ?_
    refine sm_iload (i := 5) 155 0 (by decide +kernel) rfl rfl ?_
    refine sm_icmp_lt (off := 19) 158 174 (by decide +kernel) (by decide) rfl (fun q6 => ?_) (fun q6 => ?_)
    · have hf := hf.1 q6
      refine sm_iconst (i := -1) (x := (-1)) 175 (by decide +kernel) rfl rfl ?_
      exact sm_iret rfl (by decide +kernel) hf
    · have hf := hf.2 q6
      refine sm_iload (i := 4) 160 5 (by decide +kernel) rfl rfl ?_
      refine sm_bipush (i := 8) (x := 8) 162 (by decide +kernel) (by decide) rfl ?_
      refine sm_icmp_ne (off := 14) 165 176 (by decide +kernel) (by decide) rfl (fun q5 => ?_) (fun q5 => ?_)
      · have hf := hf.2 q5
        exact sm_sub [1, 2, 3, 5, 0] rfl hf
      · have hf := hf.1 q5
        refine sm_aload_n (k := 0) 166 1 (by decide +kernel) rfl rfl rfl ?_
        refine sm_iload_n (k := 2) 167 3 (by decide +kernel) rfl rfl rfl ?_
        refine sm_callV (M2 := mm_M_at) (av := [.int x2]) (rest := []) 170 (by decide +kernel) ml_M_73 (Nat.le_refl _) rfl rfl (by first | exact Nat.le_of_ble_eq_true rfl | simp [sm_rfc, Value.category]) rfl hf ?_
        rintro r2 h1 ⟨z3, rfl, hf⟩
        change sm_W N (d + 1) mm_M_value 170 [(5, .int y0), (0, .ref x0), (1, .int x1), (2, .int x2), (3, .int x3), (4, .int x4)] [.int z3] h1 Q
        refine sm_iconst (i := 1) (x := 1) 171 (by decide +kernel) rfl rfl ?_
        refine sm_icmp_le (off := 5) 174 176 (by decide +kernel) (by decide) rfl (fun q4 => ?_) (fun q4 => ?_)
        · have hf := hf.1 q4
          exact sm_sub [1, 2, 3, 5, 0] rfl hf
        · have hf := hf.2 q4
          refine sm_iconst (i := -1) (x := (-1)) 175 (by decide +kernel) rfl rfl ?_
          exact sm_iret rfl (by decide +kernel) hf
  · have hf := hf.1 q39
    refine sm_iload_n (k := 3) 52 4 (by decide +kernel) rfl rfl rfl ?_
    refine sm_iload_n (k := 2) 53 3 (by decide +kernel) rfl rfl rfl ?_
    refine sm_isub 54 (by decide +kernel) rfl ?_
    refine sm_iconst (i := 5) (x := 5) 55 (by decide +kernel) rfl rfl ?_
    refine sm_icmp_lt (off := 61) 58 116 (by decide +kernel) (by decide) rfl (fun q38 => ?_) (fun q38 => ?_)
    · have hf := hf.1 q38
      refine sm_iconst (i := -1) (x := (-1)) 117 (by decide +kernel) rfl rfl ?_
      exact sm_iret rfl (by decide +kernel) hf
    · have hf := hf.2 q38
      refine sm_aload_n (k := 0) 59 1 (by decide +kernel) rfl rfl rfl ?_
      refine sm_iload_n (k := 2) 60 3 (by decide +kernel) rfl rfl rfl ?_
      refine sm_callV (M2 := mm_M_whole) (av := [.int x2]) (rest := []) 63 (by decide +kernel) ml_M_102 (Nat.le_refl _) rfl rfl (by first | exact Nat.le_of_ble_eq_true rfl | simp [sm_rfc, Value.category]) rfl hf ?_
      rintro r8 h7 ⟨z9, rfl, hf⟩
      change sm_W N (d + 1) mm_M_value 63 [(5, .int y0), (0, .ref x0), (1, .int x1), (2, .int x2), (3, .int x3), (4, .int x4)] [.int z9] h7 Q
      refine sm_iconst (i := 1) (x := 1) 64 (by decide +kernel) rfl rfl ?_
      refine sm_icmp_lt (off := 52) 67 116 (by decide +kernel) (by decide) rfl (fun q37 => ?_) (fun q37 => ?_)
      · have hf := hf.1 q37
        refine sm_iconst (i := -1) (x := (-1)) 117 (by decide +kernel) rfl rfl ?_
        exact sm_iret rfl (by decide +kernel) hf
      · have hf := hf.2 q37
        refine sm_aload_n (k := 0) 68 1 (by decide +kernel) rfl rfl rfl ?_
        refine sm_iload_n (k := 2) 69 3 (by decide +kernel) rfl rfl rfl ?_
        refine sm_callV (M2 := mm_M_whole) (av := [.int x2]) (rest := []) 72 (by decide +kernel) ml_M_102 (Nat.le_refl _) rfl rfl (by first | exact Nat.le_of_ble_eq_true rfl | simp [sm_rfc, Value.category]) rfl hf ?_
        rintro r11 h10 ⟨z12, rfl, hf⟩
        change sm_W N (d + 1) mm_M_value 72 [(5, .int y0), (0, .ref x0), (1, .int x1), (2, .int x2), (3, .int x3), (4, .int x4)] [.int z12] h10 Q
        refine sm_iload_n (k := 3) 73 4 (by decide +kernel) rfl rfl rfl ?_
        refine sm_iload_n (k := 2) 74 3 (by decide +kernel) rfl rfl rfl ?_
        refine sm_isub 75 (by decide +kernel) rfl ?_
        refine sm_iconst (i := 4) (x := 4) 76 (by decide +kernel) rfl rfl ?_
        refine sm_isub 77 (by decide +kernel) rfl ?_
        refine sm_icmp_gt (off := 39) 80 116 (by decide +kernel) (by decide) rfl (fun q36 => ?_) (fun q36 => ?_)
        · have hf := hf.1 q36
          refine sm_iconst (i := -1) (x := (-1)) 117 (by decide +kernel) rfl rfl ?_
          exact sm_iret rfl (by decide +kernel) hf
        · have hf := hf.2 q36
          refine sm_aload_n (k := 0) 81 1 (by decide +kernel) rfl rfl rfl ?_
          obtain ⟨z13, ez13, hf⟩ := hf
          refine sm_get 84 (by decide +kernel) fl_M_7 ez13 rfl ?_
          refine sm_iload_n (k := 2) 85 3 (by decide +kernel) rfl rfl rfl ?_
          refine sm_iconst (i := 3) (x := 3) 86 (by decide +kernel) rfl rfl ?_
          refine sm_iadd 87 (by decide +kernel) rfl ?_
          refine sm_aload_n (k := 0) 88 1 (by decide +kernel) rfl rfl rfl ?_
          refine sm_iload_n (k := 2) 89 3 (by decide +kernel) rfl rfl rfl ?_
          refine sm_callV (M2 := mm_M_whole) (av := [.int x2]) (rest := [.int (x2 + 3), .ref z13]) 92 (by decide +kernel) ml_M_102 (Nat.le_refl _) rfl rfl (by first | exact Nat.le_of_ble_eq_true rfl | simp [sm_rfc, Value.category]) rfl hf ?_
          rintro r15 h14 ⟨z16, rfl, hf⟩
          change sm_W N (d + 1) mm_M_value 92 [(5, .int y0), (0, .ref x0), (1, .int x1), (2, .int x2), (3, .int x3), (4, .int x4)] [.int z16, .int (x2 + 3), .ref z13] h14 Q
          refine sm_iadd 93 (by decide +kernel) rfl ?_
          obtain ⟨z17, ez17, hf⟩ := hf
          refine sm_bald 94 (by decide +kernel) ez17 rfl ?_
          refine sm_if_ne (off := 22) 97 116 (by decide +kernel) (by decide) rfl (fun q35 => ?_) (fun q35 => ?_)
          · have hf := hf.2 q35
            refine sm_iconst (i := -1) (x := (-1)) 117 (by decide +kernel) rfl rfl ?_
            exact sm_iret rfl (by decide +kernel) hf
          · have hf := hf.1 q35
            refine sm_aload_n (k := 0) 98 1 (by decide +kernel) rfl rfl rfl ?_
            refine sm_iload_n (k := 2) 99 3 (by decide +kernel) rfl rfl rfl ?_
            refine sm_iconst (i := 4) (x := 4) 100 (by decide +kernel) rfl rfl ?_
            refine sm_iadd 101 (by decide +kernel) rfl ?_
            refine sm_iload_n (k := 2) 102 3 (by decide +kernel) rfl rfl rfl ?_
            refine sm_iconst (i := 3) (x := 3) 103 (by decide +kernel) rfl rfl ?_
            refine sm_iadd 104 (by decide +kernel) rfl ?_
            refine sm_aload_n (k := 0) 105 1 (by decide +kernel) rfl rfl rfl ?_
            refine sm_iload_n (k := 2) 106 3 (by decide +kernel) rfl rfl rfl ?_
            refine sm_callV (M2 := mm_M_whole) (av := [.int x2]) (rest := [.int (x2 + 3), .int (x2 + 4), .ref x0]) 109 (by decide +kernel) ml_M_102 (Nat.le_refl _) rfl rfl (by first | exact Nat.le_of_ble_eq_true rfl | simp [sm_rfc, Value.category]) rfl hf ?_
            rintro r19 h18 ⟨z20, rfl, hf⟩
            change sm_W N (d + 1) mm_M_value 109 [(5, .int y0), (0, .ref x0), (1, .int x1), (2, .int x2), (3, .int x3), (4, .int x4)] [.int z20, .int (x2 + 3), .int (x2 + 4), .ref x0] h18 Q
            refine sm_iadd 110 (by decide +kernel) rfl ?_
            refine sm_callV (M2 := mm_M_isText) (av := [.int (x2 + 4), .int ((x2 + 3) + z20)]) (rest := []) 113 (by decide +kernel) ml_M_105 (Nat.le_refl _) rfl rfl (by first | exact Nat.le_of_ble_eq_true rfl | simp [sm_rfc, Value.category]) rfl hf ?_
            rintro r22 h21 ⟨z23, rfl, hf⟩
            change sm_W N (d + 1) mm_M_value 113 [(5, .int y0), (0, .ref x0), (1, .int x1), (2, .int x2), (3, .int x3), (4, .int x4)] [.int z23] h21 Q
            refine sm_if_ne (off := 5) 116 118 (by decide +kernel) (by decide) rfl (fun q34 => ?_) (fun q34 => ?_)
            · have hf := hf.2 q34
              refine sm_aload_n (k := 0) 119 1 (by decide +kernel) rfl rfl rfl ?_
              obtain ⟨z24, ez24, hf⟩ := hf
              refine sm_get 122 (by decide +kernel) fl_M_34 ez24 rfl ?_
              refine sm_iload_n (k := 1) 123 2 (by decide +kernel) rfl rfl rfl ?_
              refine sm_iload_n (k := 2) 124 3 (by decide +kernel) rfl rfl rfl ?_
              refine sm_iconst (i := 4) (x := 4) 125 (by decide +kernel) rfl rfl ?_
              refine sm_iadd 126 (by decide +kernel) rfl ?_
              obtain ⟨h25, eh25, hf⟩ := hf
              refine sm_iast 127 (by decide +kernel) eh25 rfl ?_
              refine sm_aload_n (k := 0) 128 1 (by decide +kernel) rfl rfl rfl ?_
              obtain ⟨z26, ez26, hf⟩ := hf
              refine sm_get 131 (by decide +kernel) fl_M_37 ez26 rfl ?_
              refine sm_iload_n (k := 1) 132 2 (by decide +kernel) rfl rfl rfl ?_
              refine sm_aload_n (k := 0) 133 1 (by decide +kernel) rfl rfl rfl ?_
              refine sm_iload_n (k := 2) 134 3 (by decide +kernel) rfl rfl rfl ?_
              refine sm_callV (M2 := mm_M_whole) (av := [.int x2]) (rest := [.int x1, .ref z26]) 137 (by decide +kernel) ml_M_102 (Nat.le_refl _) rfl rfl (by first | exact Nat.le_of_ble_eq_true rfl | simp [sm_rfc, Value.category]) rfl hf ?_
              rintro r28 h27 ⟨z29, rfl, hf⟩
              change sm_W N (d + 1) mm_M_value 137 [(5, .int y0), (0, .ref x0), (1, .int x1), (2, .int x2), (3, .int x3), (4, .int x4)] [.int z29, .int x1, .ref z26] h27 Q
              refine sm_iconst (i := 1) (x := 1) 138 (by decide +kernel) rfl rfl ?_
              refine sm_isub 139 (by decide +kernel) rfl ?_
              obtain ⟨h30, eh30, hf⟩ := hf
              refine sm_iast 140 (by decide +kernel) eh30 rfl ?_
              refine sm_iload_n (k := 2) 141 3 (by decide +kernel) rfl rfl rfl ?_
              refine sm_iconst (i := 4) (x := 4) 142 (by decide +kernel) rfl rfl ?_
              refine sm_iadd 143 (by decide +kernel) rfl ?_
              refine sm_aload_n (k := 0) 144 1 (by decide +kernel) rfl rfl rfl ?_
              refine sm_iload_n (k := 2) 145 3 (by decide +kernel) rfl rfl rfl ?_
              refine sm_callV (M2 := mm_M_whole) (av := [.int x2]) (rest := [.int (x2 + 4)]) 148 (by decide +kernel) ml_M_102 (Nat.le_refl _) rfl rfl (by first | exact Nat.le_of_ble_eq_true rfl | simp [sm_rfc, Value.category]) rfl hf ?_
              rintro r32 h31 ⟨z33, rfl, hf⟩
              change sm_W N (d + 1) mm_M_value 148 [(5, .int y0), (0, .ref x0), (1, .int x1), (2, .int x2), (3, .int x3), (4, .int x4)] [.int z33, .int (x2 + 4)] h31 Q
              refine sm_iadd 149 (by decide +kernel) rfl ?_
              exact sm_iret rfl (by decide +kernel) hf
            · have hf := hf.1 q34
              refine sm_iconst (i := -1) (x := (-1)) 117 (by decide +kernel) rfl rfl ?_
              exact sm_iret rfl (by decide +kernel) hf
def fM_value_176 (N d : Nat) (h : sm_H) (Q : Option Value → sm_H → Prop) (x0 : Nat) (x1 : Int32) (x2 : Int32) (x4 : Int32) (x5 : Int32) : Prop := ∃ z1 : Nat, sm_g h x0 5 10 = some (.ref z1) ∧ ((x4 = 16 → sm_V N d mm_M_whole 5 x0 [.int x2] h (fun r14 h13 => ∃ z15 : Int32, r14 = some (.int z15) ∧ sm_W N (d + 1) mm_M_value 247 [(2, .int x2), (5, .int x5)] [.long (Int32.toInt64 z15), .int x1, .ref z1] h13 Q)) ∧ (¬ x4 = 16 → ((x4 = 18 → sm_V N d mm_M_whole 5 x0 [.int (x2 + 4)] h (fun r7 h6 => ∃ z8 : Int32, r7 = some (.int z8) ∧ sm_V N d mm_M_whole 5 x0 [.int x2] h6 (fun r10 h9 => ∃ z11 : Int32, r10 = some (.int z11) ∧ sm_W N (d + 1) mm_M_value 247 [(2, .int x2), (5, .int x5)] [.long (((Int32.toInt64 z8) * 4294967296) + ((Int32.toInt64 z11) &&& 4294967295)), .int x1, .ref z1] h9 Q))) ∧ (¬ x4 = 18 → ((x4 = 8 → sm_V N d mm_M_at 5 x0 [.int x2] h (fun r3 h2 => ∃ z4 : Int32, r3 = some (.int z4) ∧ sm_W N (d + 1) mm_M_value 247 [(2, .int x2), (5, .int x5)] [.long (Int32.toInt64 z4), .int x1, .ref z1] h2 Q)) ∧ (¬ x4 = 8 → sm_W N (d + 1) mm_M_value 247 [(2, .int x2), (5, .int x5)] [.long 0, .int x1, .ref z1] h Q))))))
set_option maxRecDepth 20000 in
set_option maxHeartbeats 4000000 in
theorem kM_value_176 {N d : Nat} {h : sm_H} {Q : Option Value → sm_H → Prop} {x0 : Nat} {x1 : Int32} {x2 : Int32} {x4 : Int32} {x5 : Int32} (hf : fM_value_176 N d h Q x0 x1 x2 x4 x5) : sm_W N (d + 1) mm_M_value 176 [(0, .ref x0), (1, .int x1), (2, .int x2), (4, .int x4), (5, .int x5)] [] h Q := by
  unfold fM_value_176 at hf
  refine sm_aload_n (k := 0) 177 0 (by decide +kernel) rfl rfl rfl ?_
  obtain ⟨z1, ez1, hf⟩ := hf
  refine sm_get 180 (by decide +kernel) fl_M_30 ez1 rfl ?_
  refine sm_iload_n (k := 1) 181 1 (by decide +kernel) rfl rfl rfl ?_
  refine sm_iload (i := 4) 183 3 (by decide +kernel) rfl rfl ?_
  refine sm_bipush (i := 16) (x := 16) 185 (by decide +kernel) (by decide) rfl ?_
  refine sm_icmp_ne (off := 12) 188 197 (by decide +kernel) (by decide) rfl (fun q16 => ?_) (fun q16 => ?_)
  · have hf := hf.2 q16
    refine sm_iload (i := 4) 199 3 (by decide +kernel) rfl rfl ?_
    refine sm_bipush (i := 18) (x := 18) 201 (by decide +kernel) (by decide) rfl ?_
    refine sm_icmp_ne (off := 29) 204 230 (by decide +kernel) (by decide) rfl (fun q12 => ?_) (fun q12 => ?_)
    · have hf := hf.2 q12
      refine sm_iload (i := 4) 232 3 (by decide +kernel) rfl rfl ?_
      refine sm_bipush (i := 8) (x := 8) 234 (by decide +kernel) (by decide) rfl ?_
      refine sm_icmp_ne (off := 12) 237 246 (by decide +kernel) (by decide) rfl (fun q5 => ?_) (fun q5 => ?_)
      · have hf := hf.2 q5
        refine sm_lconst (i := 0) (x := 0) 247 (by decide +kernel) rfl rfl ?_
        exact sm_sub [2, 4] rfl hf
      · have hf := hf.1 q5
        refine sm_aload_n (k := 0) 238 0 (by decide +kernel) rfl rfl rfl ?_
        refine sm_iload_n (k := 2) 239 2 (by decide +kernel) rfl rfl rfl ?_
        refine sm_callV (M2 := mm_M_at) (av := [.int x2]) (rest := [.int x1, .ref z1]) 242 (by decide +kernel) ml_M_73 (Nat.le_refl _) rfl rfl (by first | exact Nat.le_of_ble_eq_true rfl | simp [sm_rfc, Value.category]) rfl hf ?_
        rintro r3 h2 ⟨z4, rfl, hf⟩
        change sm_W N (d + 1) mm_M_value 242 [(0, .ref x0), (1, .int x1), (2, .int x2), (4, .int x4), (5, .int x5)] [.int z4, .int x1, .ref z1] h2 Q
        refine sm_i2l 243 (by decide +kernel) rfl ?_
        refine sm_goto (off := 4) 247 (by decide +kernel) (by decide) ?_
        exact sm_sub [2, 4] rfl hf
    · have hf := hf.1 q12
      refine sm_aload_n (k := 0) 205 0 (by decide +kernel) rfl rfl rfl ?_
      refine sm_iload_n (k := 2) 206 2 (by decide +kernel) rfl rfl rfl ?_
      refine sm_iconst (i := 4) (x := 4) 207 (by decide +kernel) rfl rfl ?_
      refine sm_iadd 208 (by decide +kernel) rfl ?_
      refine sm_callV (M2 := mm_M_whole) (av := [.int (x2 + 4)]) (rest := [.int x1, .ref z1]) 211 (by decide +kernel) ml_M_102 (Nat.le_refl _) rfl rfl (by first | exact Nat.le_of_ble_eq_true rfl | simp [sm_rfc, Value.category]) rfl hf ?_
      rintro r7 h6 ⟨z8, rfl, hf⟩
      change sm_W N (d + 1) mm_M_value 211 [(0, .ref x0), (1, .int x1), (2, .int x2), (4, .int x4), (5, .int x5)] [.int z8, .int x1, .ref z1] h6 Q
      refine sm_i2l 212 (by decide +kernel) rfl ?_
      refine sm_ldc2 (i := 109) (x := 4294967296) 215 (by decide +kernel) kc_M_109 rfl ?_
      refine sm_lmul 216 (by decide +kernel) rfl ?_
      refine sm_aload_n (k := 0) 217 0 (by decide +kernel) rfl rfl rfl ?_
      refine sm_iload_n (k := 2) 218 2 (by decide +kernel) rfl rfl rfl ?_
      refine sm_callV (M2 := mm_M_whole) (av := [.int x2]) (rest := [.long ((Int32.toInt64 z8) * 4294967296), .int x1, .ref z1]) 221 (by decide +kernel) ml_M_102 (Nat.le_refl _) rfl rfl (by first | exact Nat.le_of_ble_eq_true rfl | simp [sm_rfc, Value.category]) rfl hf ?_
      rintro r10 h9 ⟨z11, rfl, hf⟩
      change sm_W N (d + 1) mm_M_value 221 [(0, .ref x0), (1, .int x1), (2, .int x2), (4, .int x4), (5, .int x5)] [.int z11, .long ((Int32.toInt64 z8) * 4294967296), .int x1, .ref z1] h9 Q
      refine sm_i2l 222 (by decide +kernel) rfl ?_
      refine sm_ldc2 (i := 111) (x := 4294967295) 225 (by decide +kernel) kc_M_111 rfl ?_
      refine sm_land 226 (by decide +kernel) rfl ?_
      refine sm_ladd 227 (by decide +kernel) rfl ?_
      refine sm_goto (off := 20) 247 (by decide +kernel) (by decide) ?_
      exact sm_sub [2, 4] rfl hf
  · have hf := hf.1 q16
    refine sm_aload_n (k := 0) 189 0 (by decide +kernel) rfl rfl rfl ?_
    refine sm_iload_n (k := 2) 190 2 (by decide +kernel) rfl rfl rfl ?_
    refine sm_callV (M2 := mm_M_whole) (av := [.int x2]) (rest := [.int x1, .ref z1]) 193 (by decide +kernel) ml_M_102 (Nat.le_refl _) rfl rfl (by first | exact Nat.le_of_ble_eq_true rfl | simp [sm_rfc, Value.category]) rfl hf ?_
    rintro r14 h13 ⟨z15, rfl, hf⟩
    change sm_W N (d + 1) mm_M_value 193 [(0, .ref x0), (1, .int x1), (2, .int x2), (4, .int x4), (5, .int x5)] [.int z15, .int x1, .ref z1] h13 Q
    refine sm_i2l 194 (by decide +kernel) rfl ?_
    refine sm_goto (off := 53) 247 (by decide +kernel) (by decide) ?_
    exact sm_sub [2, 4] rfl hf
def fM_value_247 (N d : Nat) (h : sm_H) (Q : Option Value → sm_H → Prop) (x2 : Int32) (x5 : Int32) (y0 : Int64) (y1 : Int32) (y2 : Nat) : Prop := ∃ h1, sm_pl h y2 y1 y0 = some h1 ∧ Q (some (.int (x2 + x5))) h1
set_option maxRecDepth 20000 in
set_option maxHeartbeats 4000000 in
theorem kM_value_247 {N d : Nat} {h : sm_H} {Q : Option Value → sm_H → Prop} {x2 : Int32} {x5 : Int32} {y0 : Int64} {y1 : Int32} {y2 : Nat} (hf : fM_value_247 N d h Q x2 x5 y0 y1 y2) : sm_W N (d + 1) mm_M_value 247 [(2, .int x2), (5, .int x5)] [.long y0, .int y1, .ref y2] h Q := by
  unfold fM_value_247 at hf
  obtain ⟨h1, eh1, hf⟩ := hf
  refine sm_last 248 (by decide +kernel) eh1 rfl ?_
  refine sm_iload_n (k := 2) 249 0 (by decide +kernel) rfl rfl rfl ?_
  refine sm_iload (i := 5) 251 1 (by decide +kernel) rfl rfl ?_
  refine sm_iadd 252 (by decide +kernel) rfl ?_
  exact sm_iret rfl (by decide +kernel) hf
theorem cM_value {N d : Nat} {h : sm_H} {Q : Option Value → sm_H → Prop} {x0 : Nat} {x1 : Int32} {x2 : Int32} {x3 : Int32} (hb : ∃ fs, h[x0]? = some (.inr (5, fs))) (hf : fM_value_0 N d h Q x0 x1 x2 x3) : sm_V N (d + 1) mm_M_value 5 x0 [.int x1, .int x2, .int x3] h Q := ⟨hb, sm_meth (by decide +kernel) (fun _ => Nat.le_of_ble_eq_true rfl) (fun _ => rfl) (kM_value_0 hf)⟩
