def fB_at_0 (N d : Nat) (h : sm_H) (Q : Option Value → sm_H → Prop) (x0 : Nat) (x1 : Int32) : Prop := ((x1 < 0 → Q (some (.int 0)) h) ∧ (¬ x1 < 0 → ∃ z1 : Int32, sm_g h x0 0 1 = some (.int z1) ∧ ((z1 ≤ x1 → Q (some (.int 0)) h) ∧ (¬ z1 ≤ x1 → ∃ z2 : Nat, sm_g h x0 0 0 = some (.ref z2) ∧ ∃ z3 : Int32, sm_gi h z2 0 x1 = some z3 ∧ Q (some (.int (z3 &&& 255))) h))))
set_option maxRecDepth 20000 in
set_option maxHeartbeats 4000000 in
theorem kB_at_0 {N d : Nat} {h : sm_H} {Q : Option Value → sm_H → Prop} {x0 : Nat} {x1 : Int32} (hf : fB_at_0 N d h Q x0 x1) : sm_W N (d + 1) mm_B_at 0 [(0, .ref x0), (1, .int x1)] [] h Q := by
  unfold fB_at_0 at hf
  refine sm_iload_n (k := 1) 1 1 (by decide +kernel) rfl rfl rfl ?_
  refine sm_if_lt (off := 24) 4 25 (by decide +kernel) (by decide) rfl (fun q5 => ?_) (fun q5 => ?_)
  · have hf := hf.1 q5
    refine sm_iconst (i := 0) (x := 0) 26 (by decide +kernel) rfl rfl ?_
    exact sm_iret rfl (by decide +kernel) hf
  · have hf := hf.2 q5
    refine sm_iload_n (k := 1) 5 1 (by decide +kernel) rfl rfl rfl ?_
    refine sm_aload_n (k := 0) 6 0 (by decide +kernel) rfl rfl rfl ?_
    obtain ⟨z1, ez1, hf⟩ := hf
    refine sm_get 9 (by decide +kernel) fl_B_9 ez1 rfl ?_
    refine sm_icmp_ge (off := 16) 12 25 (by decide +kernel) (by decide) rfl (fun q4 => ?_) (fun q4 => ?_)
    · have hf := hf.1 q4
      refine sm_iconst (i := 0) (x := 0) 26 (by decide +kernel) rfl rfl ?_
      exact sm_iret rfl (by decide +kernel) hf
    · have hf := hf.2 q4
      refine sm_aload_n (k := 0) 13 0 (by decide +kernel) rfl rfl rfl ?_
      obtain ⟨z2, ez2, hf⟩ := hf
      refine sm_get 16 (by decide +kernel) fl_B_21 ez2 rfl ?_
      refine sm_iload_n (k := 1) 17 1 (by decide +kernel) rfl rfl rfl ?_
      obtain ⟨z3, ez3, hf⟩ := hf
      refine sm_bald 18 (by decide +kernel) ez3 rfl ?_
      refine sm_sipush (i := 255) (x := 255) 21 (by decide +kernel) (by decide) rfl ?_
      refine sm_iand 22 (by decide +kernel) rfl ?_
      refine sm_goto (off := 4) 26 (by decide +kernel) (by decide) ?_
      exact sm_iret rfl (by decide +kernel) hf
theorem cB_at {N d : Nat} {h : sm_H} {Q : Option Value → sm_H → Prop} {x0 : Nat} {x1 : Int32} (hb : ∃ fs, h[x0]? = some (.inr (0, fs))) (hf : fB_at_0 N d h Q x0 x1) : sm_V N (d + 1) mm_B_at 0 x0 [.int x1] h Q := ⟨hb, sm_meth (by decide +kernel) (fun _ => Nat.le_of_ble_eq_true rfl) (fun _ => rfl) (kB_at_0 hf)⟩
def fB_put_0 (N d : Nat) (h : sm_H) (Q : Option Value → sm_H → Prop) (x0 : Nat) (x1 : Int32) (x2 : Int32) : Prop := ((x1 < 0 → Q none h) ∧ (¬ x1 < 0 → ∃ z1 : Int32, sm_g h x0 0 1 = some (.int z1) ∧ ((z1 ≤ x1 → Q none h) ∧ (¬ z1 ≤ x1 → ∃ z2 : Nat, sm_g h x0 0 0 = some (.ref z2) ∧ ∃ h3, sm_pb h z2 x1 (Int8.toInt32 (Int32.toInt8 x2)) = some h3 ∧ Q none h3))))
set_option maxRecDepth 20000 in
set_option maxHeartbeats 4000000 in
theorem kB_put_0 {N d : Nat} {h : sm_H} {Q : Option Value → sm_H → Prop} {x0 : Nat} {x1 : Int32} {x2 : Int32} (hf : fB_put_0 N d h Q x0 x1 x2) : sm_W N (d + 1) mm_B_put 0 [(0, .ref x0), (1, .int x1), (2, .int x2)] [] h Q := by
  unfold fB_put_0 at hf
  refine sm_iload_n (k := 1) 1 1 (by decide +kernel) rfl rfl rfl ?_
  refine sm_if_lt (off := 19) 4 20 (by decide +kernel) (by decide) rfl (fun q5 => ?_) (fun q5 => ?_)
  · have hf := hf.1 q5
    exact sm_vret rfl (by decide +kernel) hf
  · have hf := hf.2 q5
    refine sm_iload_n (k := 1) 5 1 (by decide +kernel) rfl rfl rfl ?_
    refine sm_aload_n (k := 0) 6 0 (by decide +kernel) rfl rfl rfl ?_
    obtain ⟨z1, ez1, hf⟩ := hf
    refine sm_get 9 (by decide +kernel) fl_B_9 ez1 rfl ?_
    refine sm_icmp_ge (off := 11) 12 20 (by decide +kernel) (by decide) rfl (fun q4 => ?_) (fun q4 => ?_)
    · have hf := hf.1 q4
      exact sm_vret rfl (by decide +kernel) hf
    · have hf := hf.2 q4
      refine sm_aload_n (k := 0) 13 0 (by decide +kernel) rfl rfl rfl ?_
      obtain ⟨z2, ez2, hf⟩ := hf
      refine sm_get 16 (by decide +kernel) fl_B_21 ez2 rfl ?_
      refine sm_iload_n (k := 1) 17 1 (by decide +kernel) rfl rfl rfl ?_
      refine sm_iload_n (k := 2) 18 2 (by decide +kernel) rfl rfl rfl ?_
      refine sm_i2b 19 (by decide +kernel) rfl ?_
      obtain ⟨h3, eh3, hf⟩ := hf
      refine sm_bast 20 (by decide +kernel) eh3 rfl ?_
      exact sm_vret rfl (by decide +kernel) hf
theorem cB_put {N d : Nat} {h : sm_H} {Q : Option Value → sm_H → Prop} {x0 : Nat} {x1 : Int32} {x2 : Int32} (hb : ∃ fs, h[x0]? = some (.inr (0, fs))) (hf : fB_put_0 N d h Q x0 x1 x2) : sm_V N (d + 1) mm_B_put 0 x0 [.int x1, .int x2] h Q := ⟨hb, sm_meth (by decide +kernel) (fun _ => Nat.le_of_ble_eq_true rfl) (fun _ => rfl) (kB_put_0 hf)⟩
def fB_intAt_0 (N d : Nat) (h : sm_H) (Q : Option Value → sm_H → Prop) (x0 : Nat) (x1 : Int32) : Prop := ((x1 < 0 → Q (some (.int 0)) h) ∧ (¬ x1 < 0 → ∃ z1 : Int32, sm_g h x0 0 1 = some (.int z1) ∧ ((x1 ≤ (z1 - 4) → ∃ z2 : Nat, sm_g h x0 0 0 = some (.ref z2) ∧ ∃ z3 : Int32, sm_gi h z2 0 x1 = some z3 ∧ ∃ z4 : Nat, sm_g h x0 0 0 = some (.ref z4) ∧ ∃ z5 : Int32, sm_gi h z4 0 (x1 + 1) = some z5 ∧ ∃ z6 : Nat, sm_g h x0 0 0 = some (.ref z6) ∧ ∃ z7 : Int32, sm_gi h z6 0 (x1 + 2) = some z7 ∧ ∃ z8 : Nat, sm_g h x0 0 0 = some (.ref z8) ∧ ∃ z9 : Int32, sm_gi h z8 0 (x1 + 3) = some z9 ∧ Q (some (.int ((((z3 &&& 255) ||| ((z5 &&& 255) <<< ((8 : Int32) &&& 31))) ||| ((z7 &&& 255) <<< ((16 : Int32) &&& 31))) ||| ((z9 &&& 255) <<< ((24 : Int32) &&& 31))))) h) ∧ (¬ x1 ≤ (z1 - 4) → Q (some (.int 0)) h))))
set_option maxRecDepth 20000 in
set_option maxHeartbeats 4000000 in
theorem kB_intAt_0 {N d : Nat} {h : sm_H} {Q : Option Value → sm_H → Prop} {x0 : Nat} {x1 : Int32} (hf : fB_intAt_0 N d h Q x0 x1) : sm_W N (d + 1) mm_B_intAt 0 [(0, .ref x0), (1, .int x1)] [] h Q := by
  unfold fB_intAt_0 at hf
  refine sm_iload_n (k := 1) 1 1 (by decide +kernel) rfl rfl rfl ?_
  refine sm_if_lt (off := 13) 4 14 (by decide +kernel) (by decide) rfl (fun q11 => ?_) (fun q11 => ?_)
  · have hf := hf.1 q11
    refine sm_iconst (i := 0) (x := 0) 15 (by decide +kernel) rfl rfl ?_
    exact sm_iret rfl (by decide +kernel) hf
  · have hf := hf.2 q11
    refine sm_iload_n (k := 1) 5 1 (by decide +kernel) rfl rfl rfl ?_
    refine sm_aload_n (k := 0) 6 0 (by decide +kernel) rfl rfl rfl ?_
    obtain ⟨z1, ez1, hf⟩ := hf
    refine sm_get 9 (by decide +kernel) fl_B_9 ez1 rfl ?_
    refine sm_iconst (i := 4) (x := 4) 10 (by decide +kernel) rfl rfl ?_
    refine sm_isub 11 (by decide +kernel) rfl ?_
    refine sm_icmp_le (off := 5) 14 16 (by decide +kernel) (by decide) rfl (fun q10 => ?_) (fun q10 => ?_)
    · have hf := hf.1 q10
      refine sm_aload_n (k := 0) 17 0 (by decide +kernel) rfl rfl rfl ?_
      obtain ⟨z2, ez2, hf⟩ := hf
      refine sm_get 20 (by decide +kernel) fl_B_21 ez2 rfl ?_
      refine sm_iload_n (k := 1) 21 1 (by decide +kernel) rfl rfl rfl ?_
      obtain ⟨z3, ez3, hf⟩ := hf
      refine sm_bald 22 (by decide +kernel) ez3 rfl ?_
      refine sm_sipush (i := 255) (x := 255) 25 (by decide +kernel) (by decide) rfl ?_
      refine sm_iand 26 (by decide +kernel) rfl ?_
      refine sm_aload_n (k := 0) 27 0 (by decide +kernel) rfl rfl rfl ?_
      obtain ⟨z4, ez4, hf⟩ := hf
      refine sm_get 30 (by decide +kernel) fl_B_21 ez4 rfl ?_
      refine sm_iload_n (k := 1) 31 1 (by decide +kernel) rfl rfl rfl ?_
      refine sm_iconst (i := 1) (x := 1) 32 (by decide +kernel) rfl rfl ?_
      refine sm_iadd 33 (by decide +kernel) rfl ?_
      obtain ⟨z5, ez5, hf⟩ := hf
      refine sm_bald 34 (by decide +kernel) ez5 rfl ?_
      refine sm_sipush (i := 255) (x := 255) 37 (by decide +kernel) (by decide) rfl ?_
      refine sm_iand 38 (by decide +kernel) rfl ?_
      refine sm_bipush (i := 8) (x := 8) 40 (by decide +kernel) (by decide) rfl ?_
      refine sm_ishl 41 (by decide +kernel) rfl ?_
      refine sm_ior 42 (by decide +kernel) rfl ?_
      refine sm_istore_n (k := 2) 43 [(2, .int ((z3 &&& 255) ||| ((z5 &&& 255) <<< ((8 : Int32) &&& 31)))), (0, .ref x0), (1, .int x1)] (by decide +kernel) rfl (by decide) (by first | rfl | simp [sm_rfc]) rfl ?_
      refine sm_iload_n (k := 2) 44 0 (by decide +kernel) rfl rfl rfl ?_
      refine sm_aload_n (k := 0) 45 1 (by decide +kernel) rfl rfl rfl ?_
      obtain ⟨z6, ez6, hf⟩ := hf
      refine sm_get 48 (by decide +kernel) fl_B_21 ez6 rfl ?_
      refine sm_iload_n (k := 1) 49 2 (by decide +kernel) rfl rfl rfl ?_
      refine sm_iconst (i := 2) (x := 2) 50 (by decide +kernel) rfl rfl ?_
      refine sm_iadd 51 (by decide +kernel) rfl ?_
      obtain ⟨z7, ez7, hf⟩ := hf
      refine sm_bald 52 (by decide +kernel) ez7 rfl ?_
      refine sm_sipush (i := 255) (x := 255) 55 (by decide +kernel) (by decide) rfl ?_
      refine sm_iand 56 (by decide +kernel) rfl ?_
      refine sm_bipush (i := 16) (x := 16) 58 (by decide +kernel) (by decide) rfl ?_
      refine sm_ishl 59 (by decide +kernel) rfl ?_
      refine sm_ior 60 (by decide +kernel) rfl ?_
      refine sm_aload_n (k := 0) 61 1 (by decide +kernel) rfl rfl rfl ?_
      obtain ⟨z8, ez8, hf⟩ := hf
      refine sm_get 64 (by decide +kernel) fl_B_21 ez8 rfl ?_
      refine sm_iload_n (k := 1) 65 2 (by decide +kernel) rfl rfl rfl ?_
      refine sm_iconst (i := 3) (x := 3) 66 (by decide +kernel) rfl rfl ?_
      refine sm_iadd 67 (by decide +kernel) rfl ?_
      obtain ⟨z9, ez9, hf⟩ := hf
      refine sm_bald 68 (by decide +kernel) ez9 rfl ?_
      refine sm_sipush (i := 255) (x := 255) 71 (by decide +kernel) (by decide) rfl ?_
      refine sm_iand 72 (by decide +kernel) rfl ?_
      refine sm_bipush (i := 24) (x := 24) 74 (by decide +kernel) (by decide) rfl ?_
      refine sm_ishl 75 (by decide +kernel) rfl ?_
      refine sm_ior 76 (by decide +kernel) rfl ?_
      exact sm_iret rfl (by decide +kernel) hf
    · have hf := hf.2 q10
      refine sm_iconst (i := 0) (x := 0) 15 (by decide +kernel) rfl rfl ?_
      exact sm_iret rfl (by decide +kernel) hf
theorem cB_intAt {N d : Nat} {h : sm_H} {Q : Option Value → sm_H → Prop} {x0 : Nat} {x1 : Int32} (hb : ∃ fs, h[x0]? = some (.inr (0, fs))) (hf : fB_intAt_0 N d h Q x0 x1) : sm_V N (d + 1) mm_B_intAt 0 x0 [.int x1] h Q := ⟨hb, sm_meth (by decide +kernel) (fun _ => Nat.le_of_ble_eq_true rfl) (fun _ => rfl) (kB_intAt_0 hf)⟩
def fB_longAt_0 (N d : Nat) (h : sm_H) (Q : Option Value → sm_H → Prop) (x0 : Nat) (x1 : Int32) : Prop := sm_V N d mm_B_intAt 0 x0 [.int (x1 + 4)] h (fun r2 h1 => ∃ z3 : Int32, r2 = some (.int z3) ∧ sm_V N d mm_B_intAt 0 x0 [.int x1] h1 (fun r5 h4 => ∃ z6 : Int32, r5 = some (.int z6) ∧ Q (some (.long (((Int32.toInt64 z3) <<< (Int32.toInt64 (32 : Int32) &&& 63)) ||| ((Int32.toInt64 z6) &&& 4294967295)))) h4))
set_option maxRecDepth 20000 in
set_option maxHeartbeats 4000000 in
theorem kB_longAt_0 {N d : Nat} {h : sm_H} {Q : Option Value → sm_H → Prop} {x0 : Nat} {x1 : Int32} (hf : fB_longAt_0 N d h Q x0 x1) : sm_W N (d + 1) mm_B_longAt 0 [(0, .ref x0), (1, .int x1)] [] h Q := by
  unfold fB_longAt_0 at hf
  refine sm_aload_n (k := 0) 1 0 (by decide +kernel) rfl rfl rfl ?_
  refine sm_iload_n (k := 1) 2 1 (by decide +kernel) rfl rfl rfl ?_
  refine sm_iconst (i := 4) (x := 4) 3 (by decide +kernel) rfl rfl ?_
  refine sm_iadd 4 (by decide +kernel) rfl ?_
  refine sm_callV (M2 := mm_B_intAt) (av := [.int (x1 + 4)]) (rest := []) 7 (by decide +kernel) ml_B_25 (Nat.le_refl _) rfl rfl (by first | exact Nat.le_of_ble_eq_true rfl | simp [sm_rfc, Value.category]) rfl hf ?_
  rintro r2 h1 ⟨z3, rfl, hf⟩
  change sm_W N (d + 1) mm_B_longAt 7 [(0, .ref x0), (1, .int x1)] [.int z3] h1 Q
  refine sm_i2l 8 (by decide +kernel) rfl ?_
  refine sm_bipush (i := 32) (x := 32) 10 (by decide +kernel) (by decide) rfl ?_
  refine sm_lshl 11 (by decide +kernel) rfl ?_
  refine sm_aload_n (k := 0) 12 0 (by decide +kernel) rfl rfl rfl ?_
  refine sm_iload_n (k := 1) 13 1 (by decide +kernel) rfl rfl rfl ?_
  refine sm_callV (M2 := mm_B_intAt) (av := [.int x1]) (rest := [.long ((Int32.toInt64 z3) <<< (Int32.toInt64 (32 : Int32) &&& 63))]) 16 (by decide +kernel) ml_B_25 (Nat.le_refl _) rfl rfl (by first | exact Nat.le_of_ble_eq_true rfl | simp [sm_rfc, Value.category]) rfl hf ?_
  rintro r5 h4 ⟨z6, rfl, hf⟩
  change sm_W N (d + 1) mm_B_longAt 16 [(0, .ref x0), (1, .int x1)] [.int z6, .long ((Int32.toInt64 z3) <<< (Int32.toInt64 (32 : Int32) &&& 63))] h4 Q
  refine sm_i2l 17 (by decide +kernel) rfl ?_
  refine sm_ldc2 (i := 29) (x := 4294967295) 20 (by decide +kernel) kc_B_29 rfl ?_
  refine sm_land 21 (by decide +kernel) rfl ?_
  refine sm_lor 22 (by decide +kernel) rfl ?_
  exact sm_lret rfl (by decide +kernel) hf
theorem cB_longAt {N d : Nat} {h : sm_H} {Q : Option Value → sm_H → Prop} {x0 : Nat} {x1 : Int32} (hb : ∃ fs, h[x0]? = some (.inr (0, fs))) (hf : fB_longAt_0 N d h Q x0 x1) : sm_V N (d + 1) mm_B_longAt 0 x0 [.int x1] h Q := ⟨hb, sm_meth (by decide +kernel) (fun _ => Nat.le_of_ble_eq_true rfl) (fun _ => rfl) (kB_longAt_0 hf)⟩
def fB_putInt_0 (N d : Nat) (h : sm_H) (Q : Option Value → sm_H → Prop) (x0 : Nat) (x1 : Int32) (x2 : Int32) : Prop := sm_W N (d + 1) mm_B_putInt 2 [(0, .ref x0), (1, .int x1), (2, .int x2), (3, .int 0)] [] h Q
set_option maxRecDepth 20000 in
set_option maxHeartbeats 4000000 in
theorem kB_putInt_0 {N d : Nat} {h : sm_H} {Q : Option Value → sm_H → Prop} {x0 : Nat} {x1 : Int32} {x2 : Int32} (hf : fB_putInt_0 N d h Q x0 x1 x2) : sm_W N (d + 1) mm_B_putInt 0 [(0, .ref x0), (1, .int x1), (2, .int x2)] [] h Q := by
  unfold fB_putInt_0 at hf
  refine sm_iconst (i := 0) (x := 0) 1 (by decide +kernel) rfl rfl ?_
  refine sm_istore_n (k := 3) 2 [(3, .int 0), (0, .ref x0), (1, .int x1), (2, .int x2)] (by decide +kernel) rfl (by decide) (by first | rfl | simp [sm_rfc]) rfl ?_
  exact sm_sub [1, 2, 3, 0] rfl hf
def fB_putInt_2 (N d : Nat) (h : sm_H) (Q : Option Value → sm_H → Prop) (x0 : Nat) (x1 : Int32) (x2 : Int32) (x3 : Int32) : Prop := ((4 ≤ x3 → Q none h) ∧ (¬ 4 ≤ x3 → sm_V N d mm_B_put 0 x0 [.int (x1 + x3), .int (x2 >>> ((8 * x3) &&& 31))] h (fun r2 h1 => r2 = none ∧ sm_W N (d + 1) mm_B_putInt 2 [(0, .ref x0), (1, .int x1), (2, .int x2), (3, .int (x3 + 1))] [] h1 Q)))
set_option maxRecDepth 20000 in
set_option maxHeartbeats 4000000 in
theorem kB_putInt_2 {N d : Nat} {h : sm_H} {Q : Option Value → sm_H → Prop} {x0 : Nat} {x1 : Int32} {x2 : Int32} {x3 : Int32} (hf : fB_putInt_2 N d h Q x0 x1 x2 x3) : sm_W N (d + 1) mm_B_putInt 2 [(0, .ref x0), (1, .int x1), (2, .int x2), (3, .int x3)] [] h Q := by
  unfold fB_putInt_2 at hf
  refine sm_iload_n (k := 3) 3 3 (by decide +kernel) rfl rfl rfl ?_
  refine sm_iconst (i := 4) (x := 4) 4 (by decide +kernel) rfl rfl ?_
  refine sm_icmp_ge (off := 22) 7 26 (by decide +kernel) (by decide) rfl (fun q3 => ?_) (fun q3 => ?_)
  · have hf := hf.1 q3
    exact sm_vret rfl (by decide +kernel) hf
  · have hf := hf.2 q3
    refine sm_aload_n (k := 0) 8 0 (by decide +kernel) rfl rfl rfl ?_
    refine sm_iload_n (k := 1) 9 1 (by decide +kernel) rfl rfl rfl ?_
    refine sm_iload_n (k := 3) 10 3 (by decide +kernel) rfl rfl rfl ?_
    refine sm_iadd 11 (by decide +kernel) rfl ?_
    refine sm_iload_n (k := 2) 12 2 (by decide +kernel) rfl rfl rfl ?_
    refine sm_bipush (i := 8) (x := 8) 14 (by decide +kernel) (by decide) rfl ?_
    refine sm_iload_n (k := 3) 15 3 (by decide +kernel) rfl rfl rfl ?_
    refine sm_imul 16 (by decide +kernel) rfl ?_
    refine sm_ishr 17 (by decide +kernel) rfl ?_
    refine sm_callV (M2 := mm_B_put) (av := [.int (x1 + x3), .int (x2 >>> ((8 * x3) &&& 31))]) (rest := []) 20 (by decide +kernel) ml_B_31 (Nat.le_refl _) rfl rfl (by first | exact Nat.le_of_ble_eq_true rfl | simp [sm_rfc, Value.category]) rfl hf ?_
    rintro r2 h1 ⟨rfl, hf⟩
    change sm_W N (d + 1) mm_B_putInt 20 [(0, .ref x0), (1, .int x1), (2, .int x2), (3, .int x3)] [] h1 Q
    refine sm_iinc (i := 3) (j := 3) (z := 1) (y := x3 + 1) 23 [(3, .int (x3 + 1)), (0, .ref x0), (1, .int x1), (2, .int x2)] (by decide +kernel) rfl (by rfl) (by decide) rfl rfl ?_
    refine sm_goto (off := -21) 2 (by decide +kernel) (by decide) ?_
    exact sm_sub [1, 2, 3, 0] rfl hf
theorem cB_putInt {N d : Nat} {h : sm_H} {Q : Option Value → sm_H → Prop} {x0 : Nat} {x1 : Int32} {x2 : Int32} (hb : ∃ fs, h[x0]? = some (.inr (0, fs))) (hf : fB_putInt_0 N d h Q x0 x1 x2) : sm_V N (d + 1) mm_B_putInt 0 x0 [.int x1, .int x2] h Q := ⟨hb, sm_meth (by decide +kernel) (fun _ => Nat.le_of_ble_eq_true rfl) (fun _ => rfl) (kB_putInt_0 hf)⟩
def fB_add_0 (N d : Nat) (h : sm_H) (Q : Option Value → sm_H → Prop) (x0 : Nat) (x1 : Int32) : Prop := ∃ z1 : Int32, sm_g h x0 0 1 = some (.int z1) ∧ ∃ z2 : Nat, sm_g h x0 0 0 = some (.ref z2) ∧ ∃ z3 : Int32, sm_n h z2 = some z3 ∧ ((z3 ≤ z1 → Q none h) ∧ (¬ z3 ≤ z1 → ∃ z4 : Nat, sm_g h x0 0 0 = some (.ref z4) ∧ ∃ z5 : Int32, sm_g h x0 0 1 = some (.int z5) ∧ ∃ h6, sm_pb h z4 z5 (Int8.toInt32 (Int32.toInt8 x1)) = some h6 ∧ ∃ z7 : Int32, sm_g h6 x0 0 1 = some (.int z7) ∧ ∃ h8, sm_p h6 x0 0 1 (.int (z7 + 1)) = some h8 ∧ Q none h8))
set_option maxRecDepth 20000 in
set_option maxHeartbeats 4000000 in
theorem kB_add_0 {N d : Nat} {h : sm_H} {Q : Option Value → sm_H → Prop} {x0 : Nat} {x1 : Int32} (hf : fB_add_0 N d h Q x0 x1) : sm_W N (d + 1) mm_B_add 0 [(0, .ref x0), (1, .int x1)] [] h Q := by
  unfold fB_add_0 at hf
  refine sm_aload_n (k := 0) 1 0 (by decide +kernel) rfl rfl rfl ?_
  obtain ⟨z1, ez1, hf⟩ := hf
  refine sm_get 4 (by decide +kernel) fl_B_9 ez1 rfl ?_
  refine sm_aload_n (k := 0) 5 0 (by decide +kernel) rfl rfl rfl ?_
  obtain ⟨z2, ez2, hf⟩ := hf
  refine sm_get 8 (by decide +kernel) fl_B_21 ez2 rfl ?_
  obtain ⟨z3, ez3, hf⟩ := hf
  refine sm_alen 9 (by decide +kernel) ez3 rfl ?_
  refine sm_icmp_ge (off := 24) 12 33 (by decide +kernel) (by decide) rfl (fun q9 => ?_) (fun q9 => ?_)
  · have hf := hf.1 q9
    exact sm_vret rfl (by decide +kernel) hf
  · have hf := hf.2 q9
    refine sm_aload_n (k := 0) 13 0 (by decide +kernel) rfl rfl rfl ?_
    obtain ⟨z4, ez4, hf⟩ := hf
    refine sm_get 16 (by decide +kernel) fl_B_21 ez4 rfl ?_
    refine sm_aload_n (k := 0) 17 0 (by decide +kernel) rfl rfl rfl ?_
    obtain ⟨z5, ez5, hf⟩ := hf
    refine sm_get 20 (by decide +kernel) fl_B_9 ez5 rfl ?_
    refine sm_iload_n (k := 1) 21 1 (by decide +kernel) rfl rfl rfl ?_
    refine sm_i2b 22 (by decide +kernel) rfl ?_
    obtain ⟨h6, eh6, hf⟩ := hf
    refine sm_bast 23 (by decide +kernel) eh6 rfl ?_
    refine sm_aload_n (k := 0) 24 0 (by decide +kernel) rfl rfl rfl ?_
    refine sm_dup 25 (by decide +kernel) (by first | rfl | simp [sm_rfc]) rfl ?_
    obtain ⟨z7, ez7, hf⟩ := hf
    refine sm_get 28 (by decide +kernel) fl_B_9 ez7 rfl ?_
    refine sm_iconst (i := 1) (x := 1) 29 (by decide +kernel) rfl rfl ?_
    refine sm_iadd 30 (by decide +kernel) rfl ?_
    obtain ⟨h8, eh8, hf⟩ := hf
    refine sm_put (ty := .int) 33 (by decide +kernel) fp_B_9 (fun _ => rfl) rfl rfl eh8 rfl ?_
    exact sm_vret rfl (by decide +kernel) hf
theorem cB_add {N d : Nat} {h : sm_H} {Q : Option Value → sm_H → Prop} {x0 : Nat} {x1 : Int32} (hb : ∃ fs, h[x0]? = some (.inr (0, fs))) (hf : fB_add_0 N d h Q x0 x1) : sm_V N (d + 1) mm_B_add 0 x0 [.int x1] h Q := ⟨hb, sm_meth (by decide +kernel) (fun _ => Nat.le_of_ble_eq_true rfl) (fun _ => rfl) (kB_add_0 hf)⟩
def fB_addHighestFirst_0 (N d : Nat) (h : sm_H) (Q : Option Value → sm_H → Prop) (x0 : Nat) (x1 : Int32) : Prop := sm_W N (d + 1) mm_B_addHighestFirst 3 [(0, .ref x0), (1, .int x1), (2, .int 24)] [] h Q
set_option maxRecDepth 20000 in
set_option maxHeartbeats 4000000 in
theorem kB_addHighestFirst_0 {N d : Nat} {h : sm_H} {Q : Option Value → sm_H → Prop} {x0 : Nat} {x1 : Int32} (hf : fB_addHighestFirst_0 N d h Q x0 x1) : sm_W N (d + 1) mm_B_addHighestFirst 0 [(0, .ref x0), (1, .int x1)] [] h Q := by
  unfold fB_addHighestFirst_0 at hf
  refine sm_bipush (i := 24) (x := 24) 2 (by decide +kernel) (by decide) rfl ?_
  refine sm_istore_n (k := 2) 3 [(2, .int 24), (0, .ref x0), (1, .int x1)] (by decide +kernel) rfl (by decide) (by first | rfl | simp [sm_rfc]) rfl ?_
  exact sm_sub [1, 2, 0] rfl hf
def fB_addHighestFirst_3 (N d : Nat) (h : sm_H) (Q : Option Value → sm_H → Prop) (x0 : Nat) (x1 : Int32) (x2 : Int32) : Prop := ((x2 < 0 → Q none h) ∧ (¬ x2 < 0 → sm_V N d mm_B_add 0 x0 [.int (x1 >>> (x2 &&& 31))] h (fun r2 h1 => r2 = none ∧ sm_W N (d + 1) mm_B_addHighestFirst 3 [(0, .ref x0), (1, .int x1), (2, .int (x2 + (-8)))] [] h1 Q)))
set_option maxRecDepth 20000 in
set_option maxHeartbeats 4000000 in
theorem kB_addHighestFirst_3 {N d : Nat} {h : sm_H} {Q : Option Value → sm_H → Prop} {x0 : Nat} {x1 : Int32} {x2 : Int32} (hf : fB_addHighestFirst_3 N d h Q x0 x1 x2) : sm_W N (d + 1) mm_B_addHighestFirst 3 [(0, .ref x0), (1, .int x1), (2, .int x2)] [] h Q := by
  unfold fB_addHighestFirst_3 at hf
  refine sm_iload_n (k := 2) 4 2 (by decide +kernel) rfl rfl rfl ?_
  refine sm_if_lt (off := 16) 7 20 (by decide +kernel) (by decide) rfl (fun q3 => ?_) (fun q3 => ?_)
  · have hf := hf.1 q3
    exact sm_vret rfl (by decide +kernel) hf
  · have hf := hf.2 q3
    refine sm_aload_n (k := 0) 8 0 (by decide +kernel) rfl rfl rfl ?_
    refine sm_iload_n (k := 1) 9 1 (by decide +kernel) rfl rfl rfl ?_
    refine sm_iload_n (k := 2) 10 2 (by decide +kernel) rfl rfl rfl ?_
    refine sm_ishr 11 (by decide +kernel) rfl ?_
    refine sm_callV (M2 := mm_B_add) (av := [.int (x1 >>> (x2 &&& 31))]) (rest := []) 14 (by decide +kernel) ml_B_35 (Nat.le_refl _) rfl rfl (by first | exact Nat.le_of_ble_eq_true rfl | simp [sm_rfc, Value.category]) rfl hf ?_
    rintro r2 h1 ⟨rfl, hf⟩
    change sm_W N (d + 1) mm_B_addHighestFirst 14 [(0, .ref x0), (1, .int x1), (2, .int x2)] [] h1 Q
    refine sm_iinc (i := 2) (j := 2) (z := -8) (y := x2 + (-8)) 17 [(2, .int (x2 + (-8))), (0, .ref x0), (1, .int x1)] (by decide +kernel) rfl (by rfl) (by decide) rfl rfl ?_
    refine sm_goto (off := -14) 3 (by decide +kernel) (by decide) ?_
    exact sm_sub [1, 2, 0] rfl hf
theorem cB_addHighestFirst {N d : Nat} {h : sm_H} {Q : Option Value → sm_H → Prop} {x0 : Nat} {x1 : Int32} (hb : ∃ fs, h[x0]? = some (.inr (0, fs))) (hf : fB_addHighestFirst_0 N d h Q x0 x1) : sm_V N (d + 1) mm_B_addHighestFirst 0 x0 [.int x1] h Q := ⟨hb, sm_meth (by decide +kernel) (fun _ => Nat.le_of_ble_eq_true rfl) (fun _ => rfl) (kB_addHighestFirst_0 hf)⟩
def fB_becomeEmptyDocument_0 (N d : Nat) (h : sm_H) (Q : Option Value → sm_H → Prop) (x0 : Nat) : Prop := ∃ h1, sm_p h x0 0 1 (.int 0) = some h1 ∧ sm_V N d mm_B_add 0 x0 [.int 5] h1 (fun r3 h2 => r3 = none ∧ sm_W N (d + 1) mm_B_becomeEmptyDocument 12 [(0, .ref x0), (1, .int 1)] [] h2 Q)
set_option maxRecDepth 20000 in
set_option maxHeartbeats 4000000 in
theorem kB_becomeEmptyDocument_0 {N d : Nat} {h : sm_H} {Q : Option Value → sm_H → Prop} {x0 : Nat} (hf : fB_becomeEmptyDocument_0 N d h Q x0) : sm_W N (d + 1) mm_B_becomeEmptyDocument 0 [(0, .ref x0)] [] h Q := by
  unfold fB_becomeEmptyDocument_0 at hf
  refine sm_aload_n (k := 0) 1 0 (by decide +kernel) rfl rfl rfl ?_
  refine sm_iconst (i := 0) (x := 0) 2 (by decide +kernel) rfl rfl ?_
  obtain ⟨h1, eh1, hf⟩ := hf
  refine sm_put (ty := .int) 5 (by decide +kernel) fp_B_9 (fun _ => rfl) rfl rfl eh1 rfl ?_
  refine sm_aload_n (k := 0) 6 0 (by decide +kernel) rfl rfl rfl ?_
  refine sm_iconst (i := 5) (x := 5) 7 (by decide +kernel) rfl rfl ?_
  refine sm_callV (M2 := mm_B_add) (av := [.int 5]) (rest := []) 10 (by decide +kernel) ml_B_35 (Nat.le_refl _) rfl rfl (by first | exact Nat.le_of_ble_eq_true rfl | simp [sm_rfc, Value.category]) rfl hf ?_
  rintro r3 h2 ⟨rfl, hf⟩
  change sm_W N (d + 1) mm_B_becomeEmptyDocument 10 [(0, .ref x0)] [] h2 Q
  refine sm_iconst (i := 1) (x := 1) 11 (by decide +kernel) rfl rfl ?_
  refine sm_istore_n (k := 1) 12 [(1, .int 1), (0, .ref x0)] (by decide +kernel) rfl (by decide) (by first | rfl | simp [sm_rfc]) rfl ?_
  exact sm_sub [1, 0] rfl hf
def fB_becomeEmptyDocument_12 (N d : Nat) (h : sm_H) (Q : Option Value → sm_H → Prop) (x0 : Nat) (x1 : Int32) : Prop := ((5 ≤ x1 → Q none h) ∧ (¬ 5 ≤ x1 → sm_V N d mm_B_add 0 x0 [.int 0] h (fun r2 h1 => r2 = none ∧ sm_W N (d + 1) mm_B_becomeEmptyDocument 12 [(0, .ref x0), (1, .int (x1 + 1))] [] h1 Q)))
set_option maxRecDepth 20000 in
set_option maxHeartbeats 4000000 in
theorem kB_becomeEmptyDocument_12 {N d : Nat} {h : sm_H} {Q : Option Value → sm_H → Prop} {x0 : Nat} {x1 : Int32} (hf : fB_becomeEmptyDocument_12 N d h Q x0 x1) : sm_W N (d + 1) mm_B_becomeEmptyDocument 12 [(0, .ref x0), (1, .int x1)] [] h Q := by
  unfold fB_becomeEmptyDocument_12 at hf
  refine sm_iload_n (k := 1) 13 1 (by decide +kernel) rfl rfl rfl ?_
  refine sm_iconst (i := 5) (x := 5) 14 (by decide +kernel) rfl rfl ?_
  refine sm_icmp_ge (off := 14) 17 28 (by decide +kernel) (by decide) rfl (fun q3 => ?_) (fun q3 => ?_)
  · have hf := hf.1 q3
    exact sm_vret rfl (by decide +kernel) hf
  · have hf := hf.2 q3
    refine sm_aload_n (k := 0) 18 0 (by decide +kernel) rfl rfl rfl ?_
    refine sm_iconst (i := 0) (x := 0) 19 (by decide +kernel) rfl rfl ?_
    refine sm_callV (M2 := mm_B_add) (av := [.int 0]) (rest := []) 22 (by decide +kernel) ml_B_35 (Nat.le_refl _) rfl rfl (by first | exact Nat.le_of_ble_eq_true rfl | simp [sm_rfc, Value.category]) rfl hf ?_
    rintro r2 h1 ⟨rfl, hf⟩
    change sm_W N (d + 1) mm_B_becomeEmptyDocument 22 [(0, .ref x0), (1, .int x1)] [] h1 Q
    refine sm_iinc (i := 1) (j := 1) (z := 1) (y := x1 + 1) 25 [(1, .int (x1 + 1)), (0, .ref x0)] (by decide +kernel) rfl (by rfl) (by decide) rfl rfl ?_
    refine sm_goto (off := -13) 12 (by decide +kernel) (by decide) ?_
    exact sm_sub [1, 0] rfl hf
theorem cB_becomeEmptyDocument {N d : Nat} {h : sm_H} {Q : Option Value → sm_H → Prop} {x0 : Nat} (hb : ∃ fs, h[x0]? = some (.inr (0, fs))) (hf : fB_becomeEmptyDocument_0 N d h Q x0) : sm_V N (d + 1) mm_B_becomeEmptyDocument 0 x0 [] h Q := ⟨hb, sm_meth (by decide +kernel) (fun _ => Nat.le_of_ble_eq_true rfl) (fun _ => rfl) (kB_becomeEmptyDocument_0 hf)⟩
def fB_becomeNumber_0 (N d : Nat) (h : sm_H) (Q : Option Value → sm_H → Prop) (x0 : Nat) (x1 : Int64) : Prop := ∃ h1, sm_p h x0 0 1 (.int 0) = some h1 ∧ sm_W N (d + 1) mm_B_becomeNumber 7 [(0, .ref x0), (1, .long x1), (3, .int 0)] [] h1 Q
set_option maxRecDepth 20000 in
set_option maxHeartbeats 4000000 in
theorem kB_becomeNumber_0 {N d : Nat} {h : sm_H} {Q : Option Value → sm_H → Prop} {x0 : Nat} {x1 : Int64} (hf : fB_becomeNumber_0 N d h Q x0 x1) : sm_W N (d + 1) mm_B_becomeNumber 0 [(0, .ref x0), (1, .long x1)] [] h Q := by
  unfold fB_becomeNumber_0 at hf
  refine sm_aload_n (k := 0) 1 0 (by decide +kernel) rfl rfl rfl ?_
  refine sm_iconst (i := 0) (x := 0) 2 (by decide +kernel) rfl rfl ?_
  obtain ⟨h1, eh1, hf⟩ := hf
  refine sm_put (ty := .int) 5 (by decide +kernel) fp_B_9 (fun _ => rfl) rfl rfl eh1 rfl ?_
  refine sm_iconst (i := 0) (x := 0) 6 (by decide +kernel) rfl rfl ?_
  refine sm_istore_n (k := 3) 7 [(3, .int 0), (0, .ref x0), (1, .long x1)] (by decide +kernel) rfl (by decide) (by first | rfl | simp [sm_rfc]) rfl ?_
  exact sm_sub [1, 2, 0] rfl hf
def fB_becomeNumber_7 (N d : Nat) (h : sm_H) (Q : Option Value → sm_H → Prop) (x0 : Nat) (x1 : Int64) (x3 : Int32) : Prop := ((64 ≤ x3 → Q none h) ∧ (¬ 64 ≤ x3 → sm_V N d mm_B_add 0 x0 [.int (Int64.toInt32 (x1 >>> (Int32.toInt64 x3 &&& 63)))] h (fun r2 h1 => r2 = none ∧ sm_W N (d + 1) mm_B_becomeNumber 7 [(0, .ref x0), (1, .long x1), (3, .int (x3 + 8))] [] h1 Q)))
set_option maxRecDepth 20000 in
set_option maxHeartbeats 4000000 in
theorem kB_becomeNumber_7 {N d : Nat} {h : sm_H} {Q : Option Value → sm_H → Prop} {x0 : Nat} {x1 : Int64} {x3 : Int32} (hf : fB_becomeNumber_7 N d h Q x0 x1 x3) : sm_W N (d + 1) mm_B_becomeNumber 7 [(0, .ref x0), (1, .long x1), (3, .int x3)] [] h Q := by
  unfold fB_becomeNumber_7 at hf
  refine sm_iload_n (k := 3) 8 2 (by decide +kernel) rfl rfl rfl ?_
  refine sm_bipush (i := 64) (x := 64) 10 (by decide +kernel) (by decide) rfl ?_
  refine sm_icmp_ge (off := 17) 13 27 (by decide +kernel) (by decide) rfl (fun q3 => ?_) (fun q3 => ?_)
  · have hf := hf.1 q3
    exact sm_vret rfl (by decide +kernel) hf
  · have hf := hf.2 q3
    refine sm_aload_n (k := 0) 14 0 (by decide +kernel) rfl rfl rfl ?_
    refine sm_lload_n (k := 1) 15 1 (by decide +kernel) rfl rfl rfl ?_
    refine sm_iload_n (k := 3) 16 2 (by decide +kernel) rfl rfl rfl ?_
    refine sm_lshr 17 (by decide +kernel) rfl ?_
    refine sm_l2i 18 (by decide +kernel) rfl ?_
    refine sm_callV (M2 := mm_B_add) (av := [.int (Int64.toInt32 (x1 >>> (Int32.toInt64 x3 &&& 63)))]) (rest := []) 21 (by decide +kernel) ml_B_35 (Nat.le_refl _) rfl rfl (by first | exact Nat.le_of_ble_eq_true rfl | simp [sm_rfc, Value.category]) rfl hf ?_
    rintro r2 h1 ⟨rfl, hf⟩
    change sm_W N (d + 1) mm_B_becomeNumber 21 [(0, .ref x0), (1, .long x1), (3, .int x3)] [] h1 Q
    refine sm_iinc (i := 3) (j := 2) (z := 8) (y := x3 + 8) 24 [(3, .int (x3 + 8)), (0, .ref x0), (1, .long x1)] (by decide +kernel) rfl (by rfl) (by decide) rfl rfl ?_
    refine sm_goto (off := -17) 7 (by decide +kernel) (by decide) ?_
    exact sm_sub [1, 2, 0] rfl hf
theorem cB_becomeNumber {N d : Nat} {h : sm_H} {Q : Option Value → sm_H → Prop} {x0 : Nat} {x1 : Int64} (hb : ∃ fs, h[x0]? = some (.inr (0, fs))) (hf : fB_becomeNumber_0 N d h Q x0 x1) : sm_V N (d + 1) mm_B_becomeNumber 0 x0 [.long x1] h Q := ⟨hb, sm_meth (by decide +kernel) (fun _ => Nat.le_of_ble_eq_true rfl) (fun _ => rfl) (kB_becomeNumber_0 hf)⟩
def fB_becomeDigits_0 (N d : Nat) (h : sm_H) (Q : Option Value → sm_H → Prop) (x0 : Nat) (x1 : Int32) : Prop := sm_W N (d + 1) mm_B_becomeDigits 4 [(0, .ref x0), (1, .int x1), (2, .int 1), (3, .int 1)] [] h Q
set_option maxRecDepth 20000 in
set_option maxHeartbeats 4000000 in
theorem kB_becomeDigits_0 {N d : Nat} {h : sm_H} {Q : Option Value → sm_H → Prop} {x0 : Nat} {x1 : Int32} (hf : fB_becomeDigits_0 N d h Q x0 x1) : sm_W N (d + 1) mm_B_becomeDigits 0 [(0, .ref x0), (1, .int x1)] [] h Q := by
  unfold fB_becomeDigits_0 at hf
  refine sm_iconst (i := 1) (x := 1) 1 (by decide +kernel) rfl rfl ?_
  refine sm_istore_n (k := 2) 2 [(2, .int 1), (0, .ref x0), (1, .int x1)] (by decide +kernel) rfl (by decide) (by first | rfl | simp [sm_rfc]) rfl ?_
  refine sm_iconst (i := 1) (x := 1) 3 (by decide +kernel) rfl rfl ?_
  refine sm_istore_n (k := 3) 4 [(3, .int 1), (2, .int 1), (0, .ref x0), (1, .int x1)] (by decide +kernel) rfl (by decide) (by first | rfl | simp [sm_rfc]) rfl ?_
  exact sm_sub [2, 3, 1, 0] rfl hf
def fB_becomeDigits_4 (N d : Nat) (h : sm_H) (Q : Option Value → sm_H → Prop) (x0 : Nat) (x1 : Int32) (x2 : Int32) (x3 : Int32) : Prop := ((10 ≤ x3 → sm_W N (d + 1) mm_B_becomeDigits 29 [(0, .ref x0), (1, .int x1), (2, .int x2)] [] h Q) ∧ (¬ 10 ≤ x3 → (((x1 / 10) < x2 → sm_W N (d + 1) mm_B_becomeDigits 29 [(0, .ref x0), (1, .int x1), (2, .int x2)] [] h Q) ∧ (¬ (x1 / 10) < x2 → sm_W N (d + 1) mm_B_becomeDigits 4 [(0, .ref x0), (1, .int x1), (2, .int (x2 * 10)), (3, .int (x3 + 1))] [] h Q))))
set_option maxRecDepth 20000 in
set_option maxHeartbeats 4000000 in
theorem kB_becomeDigits_4 {N d : Nat} {h : sm_H} {Q : Option Value → sm_H → Prop} {x0 : Nat} {x1 : Int32} {x2 : Int32} {x3 : Int32} (hf : fB_becomeDigits_4 N d h Q x0 x1 x2 x3) : sm_W N (d + 1) mm_B_becomeDigits 4 [(0, .ref x0), (1, .int x1), (2, .int x2), (3, .int x3)] [] h Q := by
  unfold fB_becomeDigits_4 at hf
  refine sm_iload_n (k := 3) 5 3 (by decide +kernel) rfl rfl rfl ?_
  refine sm_bipush (i := 10) (x := 10) 7 (by decide +kernel) (by decide) rfl ?_
  refine sm_icmp_ge (off := 22) 10 29 (by decide +kernel) (by decide) rfl (fun q2 => ?_) (fun q2 => ?_)
  · have hf := hf.1 q2
    exact sm_sub [0, 1, 2] rfl hf
  · have hf := hf.2 q2
    refine sm_iload_n (k := 1) 11 1 (by decide +kernel) rfl rfl rfl ?_
    refine sm_bipush (i := 10) (x := 10) 13 (by decide +kernel) (by decide) rfl ?_
    refine sm_idiv 14 (by decide +kernel) (by decide) rfl ?_
    refine sm_iload_n (k := 2) 15 2 (by decide +kernel) rfl rfl rfl ?_
    refine sm_icmp_lt (off := 14) 18 29 (by decide +kernel) (by decide) rfl (fun q1 => ?_) (fun q1 => ?_)
    · have hf := hf.1 q1
      exact sm_sub [0, 1, 2] rfl hf
    · have hf := hf.2 q1
      refine sm_iload_n (k := 2) 19 2 (by decide +kernel) rfl rfl rfl ?_
      refine sm_bipush (i := 10) (x := 10) 21 (by decide +kernel) (by decide) rfl ?_
      refine sm_imul 22 (by decide +kernel) rfl ?_
      refine sm_istore_n (k := 2) 23 [(2, .int (x2 * 10)), (0, .ref x0), (1, .int x1), (3, .int x3)] (by decide +kernel) rfl (by decide) (by first | rfl | simp [sm_rfc]) rfl ?_
      refine sm_iinc (i := 3) (j := 3) (z := 1) (y := x3 + 1) 26 [(3, .int (x3 + 1)), (2, .int (x2 * 10)), (0, .ref x0), (1, .int x1)] (by decide +kernel) rfl (by rfl) (by decide) rfl rfl ?_
      refine sm_goto (off := -22) 4 (by decide +kernel) (by decide) ?_
      exact sm_sub [2, 3, 1, 0] rfl hf
def fB_becomeDigits_29 (N d : Nat) (h : sm_H) (Q : Option Value → sm_H → Prop) (x0 : Nat) (x1 : Int32) (x2 : Int32) : Prop := ∃ h1, sm_p h x0 0 1 (.int 0) = some h1 ∧ sm_W N (d + 1) mm_B_becomeDigits 36 [(0, .ref x0), (1, .int x1), (2, .int x2), (3, .int 0)] [] h1 Q
set_option maxRecDepth 20000 in
set_option maxHeartbeats 4000000 in
theorem kB_becomeDigits_29 {N d : Nat} {h : sm_H} {Q : Option Value → sm_H → Prop} {x0 : Nat} {x1 : Int32} {x2 : Int32} (hf : fB_becomeDigits_29 N d h Q x0 x1 x2) : sm_W N (d + 1) mm_B_becomeDigits 29 [(0, .ref x0), (1, .int x1), (2, .int x2)] [] h Q := by
  unfold fB_becomeDigits_29 at hf
  refine sm_aload_n (k := 0) 30 0 (by decide +kernel) rfl rfl rfl ?_
  refine sm_iconst (i := 0) (x := 0) 31 (by decide +kernel) rfl rfl ?_
  obtain ⟨h1, eh1, hf⟩ := hf
  refine sm_put (ty := .int) 34 (by decide +kernel) fp_B_9 (fun _ => rfl) rfl rfl eh1 rfl ?_
  refine sm_iconst (i := 0) (x := 0) 35 (by decide +kernel) rfl rfl ?_
  refine sm_istore_n (k := 3) 36 [(3, .int 0), (0, .ref x0), (1, .int x1), (2, .int x2)] (by decide +kernel) rfl (by decide) (by first | rfl | simp [sm_rfc]) rfl ?_
  exact sm_sub [1, 2, 3, 0] rfl hf
def fB_becomeDigits_36 (N d : Nat) (h : sm_H) (Q : Option Value → sm_H → Prop) (x0 : Nat) (x1 : Int32) (x2 : Int32) (x3 : Int32) : Prop := ((10 ≤ x3 → Q none h) ∧ (¬ 10 ≤ x3 → ((x2 ≤ 0 → Q none h) ∧ (¬ x2 ≤ 0 → ¬ x2 = 0 ∧ sm_V N d mm_B_add 0 x0 [.int (48 + ((x1 / x2) - (x1 / x2) / 10 * 10))] h (fun r3 h2 => r3 = none ∧ sm_W N (d + 1) mm_B_becomeDigits 36 [(0, .ref x0), (1, .int x1), (2, .int (x2 / 10)), (3, .int (x3 + 1))] [] h2 Q)))))
set_option maxRecDepth 20000 in
set_option maxHeartbeats 4000000 in
theorem kB_becomeDigits_36 {N d : Nat} {h : sm_H} {Q : Option Value → sm_H → Prop} {x0 : Nat} {x1 : Int32} {x2 : Int32} {x3 : Int32} (hf : fB_becomeDigits_36 N d h Q x0 x1 x2 x3) : sm_W N (d + 1) mm_B_becomeDigits 36 [(0, .ref x0), (1, .int x1), (2, .int x2), (3, .int x3)] [] h Q := by
  unfold fB_becomeDigits_36 at hf
  refine sm_iload_n (k := 3) 37 3 (by decide +kernel) rfl rfl rfl ?_
  refine sm_bipush (i := 10) (x := 10) 39 (by decide +kernel) (by decide) rfl ?_
  refine sm_icmp_ge (off := 31) 42 70 (by decide +kernel) (by decide) rfl (fun q5 => ?_) (fun q5 => ?_)
  · have hf := hf.1 q5
    exact sm_vret rfl (by decide +kernel) hf
  · have hf := hf.2 q5
    refine sm_iload_n (k := 2) 43 2 (by decide +kernel) rfl rfl rfl ?_
    refine sm_if_le (off := 27) 46 70 (by decide +kernel) (by decide) rfl (fun q4 => ?_) (fun q4 => ?_)
    · have hf := hf.1 q4
      exact sm_vret rfl (by decide +kernel) hf
    · have hf := hf.2 q4
      refine sm_aload_n (k := 0) 47 0 (by decide +kernel) rfl rfl rfl ?_
      refine sm_bipush (i := 48) (x := 48) 49 (by decide +kernel) (by decide) rfl ?_
      refine sm_iload_n (k := 1) 50 1 (by decide +kernel) rfl rfl rfl ?_
      refine sm_iload_n (k := 2) 51 2 (by decide +kernel) rfl rfl rfl ?_
      obtain ⟨q1, hf⟩ := hf
      refine sm_idiv 52 (by decide +kernel) q1 rfl ?_
      refine sm_bipush (i := 10) (x := 10) 54 (by decide +kernel) (by decide) rfl ?_
      refine sm_irem 55 (by decide +kernel) (by decide) rfl ?_
      refine sm_iadd 56 (by decide +kernel) rfl ?_
      refine sm_callV (M2 := mm_B_add) (av := [.int (48 + ((x1 / x2) - (x1 / x2) / 10 * 10))]) (rest := []) 59 (by decide +kernel) ml_B_35 (Nat.le_refl _) rfl rfl (by first | exact Nat.le_of_ble_eq_true rfl | simp [sm_rfc, Value.category]) rfl hf ?_
      rintro r3 h2 ⟨rfl, hf⟩
      change sm_W N (d + 1) mm_B_becomeDigits 59 [(0, .ref x0), (1, .int x1), (2, .int x2), (3, .int x3)] [] h2 Q
      refine sm_iload_n (k := 2) 60 2 (by decide +kernel) rfl rfl rfl ?_
      refine sm_bipush (i := 10) (x := 10) 62 (by decide +kernel) (by decide) rfl ?_
      refine sm_idiv 63 (by decide +kernel) (by decide) rfl ?_
      refine sm_istore_n (k := 2) 64 [(2, .int (x2 / 10)), (0, .ref x0), (1, .int x1), (3, .int x3)] (by decide +kernel) rfl (by decide) (by first | rfl | simp [sm_rfc]) rfl ?_
      refine sm_iinc (i := 3) (j := 3) (z := 1) (y := x3 + 1) 67 [(3, .int (x3 + 1)), (2, .int (x2 / 10)), (0, .ref x0), (1, .int x1)] (by decide +kernel) rfl (by rfl) (by decide) rfl rfl ?_
      refine sm_goto (off := -31) 36 (by decide +kernel) (by decide) ?_
      exact sm_sub [2, 3, 1, 0] rfl hf
theorem cB_becomeDigits {N d : Nat} {h : sm_H} {Q : Option Value → sm_H → Prop} {x0 : Nat} {x1 : Int32} (hb : ∃ fs, h[x0]? = some (.inr (0, fs))) (hf : fB_becomeDigits_0 N d h Q x0 x1) : sm_V N (d + 1) mm_B_becomeDigits 0 x0 [.int x1] h Q := ⟨hb, sm_meth (by decide +kernel) (fun _ => Nat.le_of_ble_eq_true rfl) (fun _ => rfl) (kB_becomeDigits_0 hf)⟩
def fB_become_0 (N d : Nat) (h : sm_H) (Q : Option Value → sm_H → Prop) (x0 : Nat) (x1 : Nat) (x2 : Int32) : Prop := ((x2 < 0 → Q none h) ∧ (¬ x2 < 0 → ∃ z1 : Int32, sm_g h x1 0 1 = some (.int z1) ∧ ((z1 < x2 → Q none h) ∧ (¬ z1 < x2 → ∃ z2 : Nat, sm_g h x0 0 0 = some (.ref z2) ∧ ∃ z3 : Int32, sm_n h z2 = some z3 ∧ ((z3 < x2 → Q none h) ∧ (¬ z3 < x2 → ∃ z4 : Nat, sm_g h x1 0 0 = some (.ref z4) ∧ ∃ z5 : Nat, sm_g h x0 0 0 = some (.ref z5) ∧ ∃ h6, sm_cp h z4 0 z5 0 x2 h6 ∧ ∃ h7, sm_p h6 x0 0 1 (.int x2) = some h7 ∧ Q none h7))))))
set_option maxRecDepth 20000 in
set_option maxHeartbeats 4000000 in
theorem kB_become_0 {N d : Nat} {h : sm_H} {Q : Option Value → sm_H → Prop} {x0 : Nat} {x1 : Nat} {x2 : Int32} (hf : fB_become_0 N d h Q x0 x1 x2) : sm_W N (d + 1) mm_B_become 0 [(0, .ref x0), (1, .ref x1), (2, .int x2)] [] h Q := by
  unfold fB_become_0 at hf
  refine sm_iload_n (k := 2) 1 2 (by decide +kernel) rfl rfl rfl ?_
  refine sm_if_lt (off := 39) 4 40 (by decide +kernel) (by decide) rfl (fun q10 => ?_) (fun q10 => ?_)
  · have hf := hf.1 q10
    exact sm_vret rfl (by decide +kernel) hf
  · have hf := hf.2 q10
    refine sm_iload_n (k := 2) 5 2 (by decide +kernel) rfl rfl rfl ?_
    refine sm_aload_n (k := 1) 6 1 (by decide +kernel) rfl rfl rfl ?_
    obtain ⟨z1, ez1, hf⟩ := hf
    refine sm_get 9 (by decide +kernel) fl_B_9 ez1 rfl ?_
    refine sm_icmp_gt (off := 31) 12 40 (by decide +kernel) (by decide) rfl (fun q9 => ?_) (fun q9 => ?_)
    · have hf := hf.1 q9
      exact sm_vret rfl (by decide +kernel) hf
    · have hf := hf.2 q9
      refine sm_iload_n (k := 2) 13 2 (by decide +kernel) rfl rfl rfl ?_
      refine sm_aload_n (k := 0) 14 0 (by decide +kernel) rfl rfl rfl ?_
      obtain ⟨z2, ez2, hf⟩ := hf
      refine sm_get 17 (by decide +kernel) fl_B_21 ez2 rfl ?_
      obtain ⟨z3, ez3, hf⟩ := hf
      refine sm_alen 18 (by decide +kernel) ez3 rfl ?_
      refine sm_icmp_gt (off := 22) 21 40 (by decide +kernel) (by decide) rfl (fun q8 => ?_) (fun q8 => ?_)
      · have hf := hf.1 q8
        exact sm_vret rfl (by decide +kernel) hf
      · have hf := hf.2 q8
        refine sm_aload_n (k := 1) 22 1 (by decide +kernel) rfl rfl rfl ?_
        obtain ⟨z4, ez4, hf⟩ := hf
        refine sm_get 25 (by decide +kernel) fl_B_21 ez4 rfl ?_
        refine sm_iconst (i := 0) (x := 0) 26 (by decide +kernel) rfl rfl ?_
        refine sm_aload_n (k := 0) 27 0 (by decide +kernel) rfl rfl rfl ?_
        obtain ⟨z5, ez5, hf⟩ := hf
        refine sm_get 30 (by decide +kernel) fl_B_21 ez5 rfl ?_
        refine sm_iconst (i := 0) (x := 0) 31 (by decide +kernel) rfl rfl ?_
        refine sm_iload_n (k := 2) 32 2 (by decide +kernel) rfl rfl rfl ?_
        obtain ⟨h6, eh6, hf⟩ := hf
        refine sm_copy 35 (by decide +kernel) ac_B_39 (Nat.le_add_left 1 d) (by first | exact Nat.le_of_ble_eq_true rfl | simp [sm_rfc, Value.category]) eh6 rfl ?_
        refine sm_aload_n (k := 0) 36 0 (by decide +kernel) rfl rfl rfl ?_
        refine sm_iload_n (k := 2) 37 2 (by decide +kernel) rfl rfl rfl ?_
        obtain ⟨h7, eh7, hf⟩ := hf
        refine sm_put (ty := .int) 40 (by decide +kernel) fp_B_9 (fun _ => rfl) rfl rfl eh7 rfl ?_
        exact sm_vret rfl (by decide +kernel) hf
theorem cB_become {N d : Nat} {h : sm_H} {Q : Option Value → sm_H → Prop} {x0 : Nat} {x1 : Nat} {x2 : Int32} (hb : ∃ fs, h[x0]? = some (.inr (0, fs))) (hf : fB_become_0 N d h Q x0 x1 x2) : sm_V N (d + 1) mm_B_become 0 x0 [.ref x1, .int x2] h Q := ⟨hb, sm_meth (by decide +kernel) (fun _ => Nat.le_of_ble_eq_true rfl) (fun _ => rfl) (kB_become_0 hf)⟩
def fB_resize_0 (N d : Nat) (h : sm_H) (Q : Option Value → sm_H → Prop) (x0 : Nat) (x1 : Int32) (x2 : Int32) (x3 : Int32) : Prop := ((x1 < 0 → Q (some (.int 0)) h) ∧ (¬ x1 < 0 → ((x2 < 0 → Q (some (.int 0)) h) ∧ (¬ x2 < 0 → ((x3 < 0 → Q (some (.int 0)) h) ∧ (¬ x3 < 0 → ∃ z1 : Int32, sm_g h x0 0 1 = some (.int z1) ∧ ((z1 < x1 → Q (some (.int 0)) h) ∧ (¬ z1 < x1 → ∃ z2 : Int32, sm_g h x0 0 1 = some (.int z2) ∧ ((x2 ≤ (z2 - x1) → ∃ z3 : Nat, sm_g h x0 0 0 = some (.ref z3) ∧ ∃ z4 : Int32, sm_n h z3 = some z4 ∧ ∃ z5 : Int32, sm_g h x0 0 1 = some (.int z5) ∧ ((x3 ≤ (z4 - (z5 - x2)) → ∃ z6 : Nat, sm_g h x0 0 0 = some (.ref z6) ∧ ∃ z7 : Nat, sm_g h x0 0 0 = some (.ref z7) ∧ ∃ z8 : Int32, sm_g h x0 0 1 = some (.int z8) ∧ ∃ h9, sm_cp h z6 (x1 + x2) z7 (x1 + x3) ((z8 - x1) - x2) h9 ∧ ∃ z10 : Int32, sm_g h9 x0 0 1 = some (.int z10) ∧ ∃ h11, sm_p h9 x0 0 1 (.int (z10 + (x3 - x2))) = some h11 ∧ Q (some (.int 1)) h11) ∧ (¬ x3 ≤ (z4 - (z5 - x2)) → Q (some (.int 0)) h))) ∧ (¬ x2 ≤ (z2 - x1) → Q (some (.int 0)) h))))))))))
set_option maxRecDepth 20000 in
set_option maxHeartbeats 4000000 in
theorem kB_resize_0 {N d : Nat} {h : sm_H} {Q : Option Value → sm_H → Prop} {x0 : Nat} {x1 : Int32} {x2 : Int32} {x3 : Int32} (hf : fB_resize_0 N d h Q x0 x1 x2 x3) : sm_W N (d + 1) mm_B_resize 0 [(0, .ref x0), (1, .int x1), (2, .int x2), (3, .int x3)] [] h Q := by
  unfold fB_resize_0 at hf
  refine sm_iload_n (k := 1) 1 1 (by decide +kernel) rfl rfl rfl ?_
  refine sm_if_lt (off := 29) 4 30 (by decide +kernel) (by decide) rfl (fun q17 => ?_) (fun q17 => ?_)
  · have hf := hf.1 q17
    refine sm_iconst (i := 0) (x := 0) 31 (by decide +kernel) rfl rfl ?_
    exact sm_zret rfl (by decide +kernel) (by decide) hf
  · have hf := hf.2 q17
    refine sm_iload_n (k := 2) 5 2 (by decide +kernel) rfl rfl rfl ?_
    refine sm_if_lt (off := 25) 8 30 (by decide +kernel) (by decide) rfl (fun q16 => ?_) (fun q16 => ?_)
    · have hf := hf.1 q16
      refine sm_iconst (i := 0) (x := 0) 31 (by decide +kernel) rfl rfl ?_
      exact sm_zret rfl (by decide +kernel) (by decide) hf
    · have hf := hf.2 q16
      refine sm_iload_n (k := 3) 9 3 (by decide +kernel) rfl rfl rfl ?_
      refine sm_if_lt (off := 21) 12 30 (by decide +kernel) (by decide) rfl (fun q15 => ?_) (fun q15 => ?_)
      · have hf := hf.1 q15
        refine sm_iconst (i := 0) (x := 0) 31 (by decide +kernel) rfl rfl ?_
        exact sm_zret rfl (by decide +kernel) (by decide) hf
      · have hf := hf.2 q15
        refine sm_iload_n (k := 1) 13 1 (by decide +kernel) rfl rfl rfl ?_
        refine sm_aload_n (k := 0) 14 0 (by decide +kernel) rfl rfl rfl ?_
        obtain ⟨z1, ez1, hf⟩ := hf
        refine sm_get 17 (by decide +kernel) fl_B_9 ez1 rfl ?_
        refine sm_icmp_gt (off := 13) 20 30 (by decide +kernel) (by decide) rfl (fun q14 => ?_) (fun q14 => ?_)
        · have hf := hf.1 q14
          refine sm_iconst (i := 0) (x := 0) 31 (by decide +kernel) rfl rfl ?_
          exact sm_zret rfl (by decide +kernel) (by decide) hf
        · have hf := hf.2 q14
          refine sm_iload_n (k := 2) 21 2 (by decide +kernel) rfl rfl rfl ?_
          refine sm_aload_n (k := 0) 22 0 (by decide +kernel) rfl rfl rfl ?_
          obtain ⟨z2, ez2, hf⟩ := hf
          refine sm_get 25 (by decide +kernel) fl_B_9 ez2 rfl ?_
          refine sm_iload_n (k := 1) 26 1 (by decide +kernel) rfl rfl rfl ?_
          refine sm_isub 27 (by decide +kernel) rfl ?_
          refine sm_icmp_le (off := 5) 30 32 (by decide +kernel) (by decide) rfl (fun q13 => ?_) (fun q13 => ?_)
          · have hf := hf.1 q13
            refine sm_iload_n (k := 3) 33 3 (by decide +kernel) rfl rfl rfl ?_
            refine sm_aload_n (k := 0) 34 0 (by decide +kernel) rfl rfl rfl ?_
            obtain ⟨z3, ez3, hf⟩ := hf
            refine sm_get 37 (by decide +kernel) fl_B_21 ez3 rfl ?_
            obtain ⟨z4, ez4, hf⟩ := hf
            refine sm_alen 38 (by decide +kernel) ez4 rfl ?_
            refine sm_aload_n (k := 0) 39 0 (by decide +kernel) rfl rfl rfl ?_
            obtain ⟨z5, ez5, hf⟩ := hf
            refine sm_get 42 (by decide +kernel) fl_B_9 ez5 rfl ?_
            refine sm_iload_n (k := 2) 43 2 (by decide +kernel) rfl rfl rfl ?_
            refine sm_isub 44 (by decide +kernel) rfl ?_
            refine sm_isub 45 (by decide +kernel) rfl ?_
            refine sm_icmp_le (off := 5) 48 50 (by decide +kernel) (by decide) rfl (fun q12 => ?_) (fun q12 => ?_)
            · have hf := hf.1 q12
              refine sm_aload_n (k := 0) 51 0 (by decide +kernel) rfl rfl rfl ?_
              obtain ⟨z6, ez6, hf⟩ := hf
              refine sm_get 54 (by decide +kernel) fl_B_21 ez6 rfl ?_
              refine sm_iload_n (k := 1) 55 1 (by decide +kernel) rfl rfl rfl ?_
              refine sm_iload_n (k := 2) 56 2 (by decide +kernel) rfl rfl rfl ?_
              refine sm_iadd 57 (by decide +kernel) rfl ?_
              refine sm_aload_n (k := 0) 58 0 (by decide +kernel) rfl rfl rfl ?_
              obtain ⟨z7, ez7, hf⟩ := hf
              refine sm_get 61 (by decide +kernel) fl_B_21 ez7 rfl ?_
              refine sm_iload_n (k := 1) 62 1 (by decide +kernel) rfl rfl rfl ?_
              refine sm_iload_n (k := 3) 63 3 (by decide +kernel) rfl rfl rfl ?_
              refine sm_iadd 64 (by decide +kernel) rfl ?_
              refine sm_aload_n (k := 0) 65 0 (by decide +kernel) rfl rfl rfl ?_
              obtain ⟨z8, ez8, hf⟩ := hf
              refine sm_get 68 (by decide +kernel) fl_B_9 ez8 rfl ?_
              refine sm_iload_n (k := 1) 69 1 (by decide +kernel) rfl rfl rfl ?_
              refine sm_isub 70 (by decide +kernel) rfl ?_
              refine sm_iload_n (k := 2) 71 2 (by decide +kernel) rfl rfl rfl ?_
              refine sm_isub 72 (by decide +kernel) rfl ?_
              obtain ⟨h9, eh9, hf⟩ := hf
              refine sm_copy 75 (by decide +kernel) ac_B_39 (Nat.le_add_left 1 d) (by first | exact Nat.le_of_ble_eq_true rfl | simp [sm_rfc, Value.category]) eh9 rfl ?_
              refine sm_aload_n (k := 0) 76 0 (by decide +kernel) rfl rfl rfl ?_
              refine sm_dup 77 (by decide +kernel) (by first | rfl | simp [sm_rfc]) rfl ?_
              obtain ⟨z10, ez10, hf⟩ := hf
              refine sm_get 80 (by decide +kernel) fl_B_9 ez10 rfl ?_
              refine sm_iload_n (k := 3) 81 3 (by decide +kernel) rfl rfl rfl ?_
              refine sm_iload_n (k := 2) 82 2 (by decide +kernel) rfl rfl rfl ?_
              refine sm_isub 83 (by decide +kernel) rfl ?_
              refine sm_iadd 84 (by decide +kernel) rfl ?_
              obtain ⟨h11, eh11, hf⟩ := hf
              refine sm_put (ty := .int) 87 (by decide +kernel) fp_B_9 (fun _ => rfl) rfl rfl eh11 rfl ?_
              refine sm_iconst (i := 1) (x := 1) 88 (by decide +kernel) rfl rfl ?_
              exact sm_zret rfl (by decide +kernel) (by decide) hf
            · have hf := hf.2 q12
              refine sm_iconst (i := 0) (x := 0) 49 (by decide +kernel) rfl rfl ?_
              exact sm_zret rfl (by decide +kernel) (by decide) hf
          · have hf := hf.2 q13
            refine sm_iconst (i := 0) (x := 0) 31 (by decide +kernel) rfl rfl ?_
            exact sm_zret rfl (by decide +kernel) (by decide) hf
theorem cB_resize {N d : Nat} {h : sm_H} {Q : Option Value → sm_H → Prop} {x0 : Nat} {x1 : Int32} {x2 : Int32} {x3 : Int32} (hb : ∃ fs, h[x0]? = some (.inr (0, fs))) (hf : fB_resize_0 N d h Q x0 x1 x2 x3) : sm_V N (d + 1) mm_B_resize 0 x0 [.int x1, .int x2, .int x3] h Q := ⟨hb, sm_meth (by decide +kernel) (fun _ => Nat.le_of_ble_eq_true rfl) (fun _ => rfl) (kB_resize_0 hf)⟩
def fB_write_0 (N d : Nat) (h : sm_H) (Q : Option Value → sm_H → Prop) (x0 : Nat) (x1 : Int32) (x2 : Nat) (x3 : Int32) (x4 : Int32) : Prop := ((x3 < 0 → Q none h) ∧ (¬ x3 < 0 → (((x4 - x3) < 0 → Q none h) ∧ (¬ (x4 - x3) < 0 → ∃ z1 : Int32, sm_g h x2 0 1 = some (.int z1) ∧ ((z1 < x4 → Q none h) ∧ (¬ z1 < x4 → ((x1 < 0 → Q none h) ∧ (¬ x1 < 0 → ∃ z2 : Int32, sm_g h x0 0 1 = some (.int z2) ∧ ((z2 < x1 → Q none h) ∧ (¬ z2 < x1 → ∃ z3 : Int32, sm_g h x0 0 1 = some (.int z3) ∧ (((x4 - x3) ≤ (z3 - x1) → ∃ z4 : Nat, sm_g h x2 0 0 = some (.ref z4) ∧ ∃ z5 : Nat, sm_g h x0 0 0 = some (.ref z5) ∧ ∃ h6, sm_cp h z4 x3 z5 x1 (x4 - x3) h6 ∧ Q none h6) ∧ (¬ (x4 - x3) ≤ (z3 - x1) → Q none h))))))))))))
set_option maxRecDepth 20000 in
set_option maxHeartbeats 4000000 in
theorem kB_write_0 {N d : Nat} {h : sm_H} {Q : Option Value → sm_H → Prop} {x0 : Nat} {x1 : Int32} {x2 : Nat} {x3 : Int32} {x4 : Int32} (hf : fB_write_0 N d h Q x0 x1 x2 x3 x4) : sm_W N (d + 1) mm_B_write 0 [(0, .ref x0), (1, .int x1), (2, .ref x2), (3, .int x3), (4, .int x4)] [] h Q := by
  unfold fB_write_0 at hf
  refine sm_iload (i := 4) 2 4 (by decide +kernel) rfl rfl ?_
  refine sm_iload_n (k := 3) 3 3 (by decide +kernel) rfl rfl rfl ?_
  refine sm_isub 4 (by decide +kernel) rfl ?_
  refine sm_istore (i := 5) 6 [(5, .int (x4 - x3)), (0, .ref x0), (1, .int x1), (2, .ref x2), (3, .int x3), (4, .int x4)] (by decide +kernel) (by decide) (by first | rfl | simp [sm_rfc]) rfl ?_
  refine sm_iload_n (k := 3) 7 4 (by decide +kernel) rfl rfl rfl ?_
  refine sm_if_lt (off := 40) 10 47 (by decide +kernel) (by decide) rfl (fun q12 => ?_) (fun q12 => ?_)
  · have hf := hf.1 q12
    exact sm_vret rfl (by decide +kernel) hf
  · have hf := hf.2 q12
    refine sm_iload (i := 5) 12 0 (by decide +kernel) rfl rfl ?_
    refine sm_if_lt (off := 35) 15 47 (by decide +kernel) (by decide) rfl (fun q11 => ?_) (fun q11 => ?_)
    · have hf := hf.1 q11
      exact sm_vret rfl (by decide +kernel) hf
    · have hf := hf.2 q11
      refine sm_iload (i := 4) 17 5 (by decide +kernel) rfl rfl ?_
      refine sm_aload_n (k := 2) 18 3 (by decide +kernel) rfl rfl rfl ?_
      obtain ⟨z1, ez1, hf⟩ := hf
      refine sm_get 21 (by decide +kernel) fl_B_9 ez1 rfl ?_
      refine sm_icmp_gt (off := 26) 24 47 (by decide +kernel) (by decide) rfl (fun q10 => ?_) (fun q10 => ?_)
      · have hf := hf.1 q10
        exact sm_vret rfl (by decide +kernel) hf
      · have hf := hf.2 q10
        refine sm_iload_n (k := 1) 25 2 (by decide +kernel) rfl rfl rfl ?_
        refine sm_if_lt (off := 22) 28 47 (by decide +kernel) (by decide) rfl (fun q9 => ?_) (fun q9 => ?_)
        · have hf := hf.1 q9
          exact sm_vret rfl (by decide +kernel) hf
        · have hf := hf.2 q9
          refine sm_iload_n (k := 1) 29 2 (by decide +kernel) rfl rfl rfl ?_
          refine sm_aload_n (k := 0) 30 1 (by decide +kernel) rfl rfl rfl ?_
          obtain ⟨z2, ez2, hf⟩ := hf
          refine sm_get 33 (by decide +kernel) fl_B_9 ez2 rfl ?_
          refine sm_icmp_gt (off := 14) 36 47 (by decide +kernel) (by decide) rfl (fun q8 => ?_) (fun q8 => ?_)
          · have hf := hf.1 q8
            exact sm_vret rfl (by decide +kernel) hf
          · have hf := hf.2 q8
            refine sm_iload (i := 5) 38 0 (by decide +kernel) rfl rfl ?_
            refine sm_aload_n (k := 0) 39 1 (by decide +kernel) rfl rfl rfl ?_
            obtain ⟨z3, ez3, hf⟩ := hf
            refine sm_get 42 (by decide +kernel) fl_B_9 ez3 rfl ?_
            refine sm_iload_n (k := 1) 43 2 (by decide +kernel) rfl rfl rfl ?_
            refine sm_isub 44 (by decide +kernel) rfl ?_
            refine sm_icmp_le (off := 4) 47 48 (by decide +kernel) (by decide) rfl (fun q7 => ?_) (fun q7 => ?_)
            · have hf := hf.1 q7
              refine sm_aload_n (k := 2) 49 3 (by decide +kernel) rfl rfl rfl ?_
              obtain ⟨z4, ez4, hf⟩ := hf
              refine sm_get 52 (by decide +kernel) fl_B_21 ez4 rfl ?_
              refine sm_iload_n (k := 3) 53 4 (by decide +kernel) rfl rfl rfl ?_
              refine sm_aload_n (k := 0) 54 1 (by decide +kernel) rfl rfl rfl ?_
              obtain ⟨z5, ez5, hf⟩ := hf
              refine sm_get 57 (by decide +kernel) fl_B_21 ez5 rfl ?_
              refine sm_iload_n (k := 1) 58 2 (by decide +kernel) rfl rfl rfl ?_
              refine sm_iload (i := 5) 60 0 (by decide +kernel) rfl rfl ?_
              obtain ⟨h6, eh6, hf⟩ := hf
              refine sm_copy 63 (by decide +kernel) ac_B_39 (Nat.le_add_left 1 d) (by first | exact Nat.le_of_ble_eq_true rfl | simp [sm_rfc, Value.category]) eh6 rfl ?_
              exact sm_vret rfl (by decide +kernel) hf
            · have hf := hf.2 q7
              exact sm_vret rfl (by decide +kernel) hf
theorem cB_write {N d : Nat} {h : sm_H} {Q : Option Value → sm_H → Prop} {x0 : Nat} {x1 : Int32} {x2 : Nat} {x3 : Int32} {x4 : Int32} (hb : ∃ fs, h[x0]? = some (.inr (0, fs))) (hf : fB_write_0 N d h Q x0 x1 x2 x3 x4) : sm_V N (d + 1) mm_B_write 0 x0 [.int x1, .ref x2, .int x3, .int x4] h Q := ⟨hb, sm_meth (by decide +kernel) (fun _ => Nat.le_of_ble_eq_true rfl) (fun _ => rfl) (kB_write_0 hf)⟩
def fB_valueStart_0 (N d : Nat) (h : sm_H) (Q : Option Value → sm_H → Prop) (x0 : Nat) (x1 : Int32) : Prop := sm_W N (d + 1) mm_B_valueStart 8 [(0, .ref x0), (2, .int (if x1 + 1 < 0 then 0 else x1 + 1))] [] h Q
set_option maxRecDepth 20000 in
set_option maxHeartbeats 4000000 in
theorem kB_valueStart_0 {N d : Nat} {h : sm_H} {Q : Option Value → sm_H → Prop} {x0 : Nat} {x1 : Int32} (hf : fB_valueStart_0 N d h Q x0 x1) : sm_W N (d + 1) mm_B_valueStart 0 [(0, .ref x0), (1, .int x1)] [] h Q := by
  unfold fB_valueStart_0 at hf
  refine sm_iload_n (k := 1) 1 1 (by decide +kernel) rfl rfl rfl ?_
  refine sm_iconst (i := 1) (x := 1) 2 (by decide +kernel) rfl rfl ?_
  refine sm_iadd 3 (by decide +kernel) rfl ?_
  refine sm_iconst (i := 0) (x := 0) 4 (by decide +kernel) rfl rfl ?_
  refine sm_mmax 7 (by decide +kernel) mx_B_15 (Nat.le_add_left 1 d) (by first | exact Nat.le_of_ble_eq_true rfl | simp [sm_rfc, Value.category]) rfl ?_
  refine sm_istore_n (k := 2) 8 [(2, .int (if x1 + 1 < 0 then 0 else x1 + 1)), (0, .ref x0), (1, .int x1)] (by decide +kernel) rfl (by decide) (by first | rfl | simp [sm_rfc]) rfl ?_
  exact sm_sub [1, 0] rfl hf
def fB_valueStart_8 (N d : Nat) (h : sm_H) (Q : Option Value → sm_H → Prop) (x0 : Nat) (x2 : Int32) : Prop := ∃ z1 : Int32, sm_g h x0 0 1 = some (.int z1) ∧ ((z1 ≤ x2 → ∃ z2 : Int32, sm_g h x0 0 1 = some (.int z2) ∧ Q (some (.int (z2 + 1))) h) ∧ (¬ z1 ≤ x2 → ∃ z3 : Nat, sm_g h x0 0 0 = some (.ref z3) ∧ ∃ z4 : Int32, sm_gi h z3 0 x2 = some z4 ∧ ((z4 = 0 → Q (some (.int (x2 + 1))) h) ∧ (¬ z4 = 0 → sm_W N (d + 1) mm_B_valueStart 8 [(0, .ref x0), (2, .int (x2 + 1))] [] h Q))))
set_option maxRecDepth 20000 in
set_option maxHeartbeats 4000000 in
theorem kB_valueStart_8 {N d : Nat} {h : sm_H} {Q : Option Value → sm_H → Prop} {x0 : Nat} {x2 : Int32} (hf : fB_valueStart_8 N d h Q x0 x2) : sm_W N (d + 1) mm_B_valueStart 8 [(0, .ref x0), (2, .int x2)] [] h Q := by
  unfold fB_valueStart_8 at hf
  refine sm_iload_n (k := 2) 9 1 (by decide +kernel) rfl rfl rfl ?_
  refine sm_aload_n (k := 0) 10 0 (by decide +kernel) rfl rfl rfl ?_
  obtain ⟨z1, ez1, hf⟩ := hf
  refine sm_get 13 (by decide +kernel) fl_B_9 ez1 rfl ?_
  refine sm_icmp_ge (off := 22) 16 35 (by decide +kernel) (by decide) rfl (fun q6 => ?_) (fun q6 => ?_)
  · have hf := hf.1 q6
    refine sm_aload_n (k := 0) 36 0 (by decide +kernel) rfl rfl rfl ?_
    obtain ⟨z2, ez2, hf⟩ := hf
    refine sm_get 39 (by decide +kernel) fl_B_9 ez2 rfl ?_
    refine sm_iconst (i := 1) (x := 1) 40 (by decide +kernel) rfl rfl ?_
    refine sm_iadd 41 (by decide +kernel) rfl ?_
    exact sm_iret rfl (by decide +kernel) hf
  · have hf := hf.2 q6
    refine sm_aload_n (k := 0) 17 0 (by decide +kernel) rfl rfl rfl ?_
    obtain ⟨z3, ez3, hf⟩ := hf
    refine sm_get 20 (by decide +kernel) fl_B_21 ez3 rfl ?_
    refine sm_iload_n (k := 2) 21 1 (by decide +kernel) rfl rfl rfl ?_
    obtain ⟨z4, ez4, hf⟩ := hf
    refine sm_bald 22 (by decide +kernel) ez4 rfl ?_
    refine sm_if_ne (off := 7) 25 29 (by decide +kernel) (by decide) rfl (fun q5 => ?_) (fun q5 => ?_)
    · have hf := hf.2 q5
      refine sm_iinc (i := 2) (j := 1) (z := 1) (y := x2 + 1) 32 [(2, .int (x2 + 1)), (0, .ref x0)] (by decide +kernel) rfl (by rfl) (by decide) rfl rfl ?_
      refine sm_goto (off := -24) 8 (by decide +kernel) (by decide) ?_
      exact sm_sub [1, 0] rfl hf
    · have hf := hf.1 q5
      refine sm_iload_n (k := 2) 26 1 (by decide +kernel) rfl rfl rfl ?_
      refine sm_iconst (i := 1) (x := 1) 27 (by decide +kernel) rfl rfl ?_
      refine sm_iadd 28 (by decide +kernel) rfl ?_
      exact sm_iret rfl (by decide +kernel) hf
theorem cB_valueStart {N d : Nat} {h : sm_H} {Q : Option Value → sm_H → Prop} {x0 : Nat} {x1 : Int32} (hb : ∃ fs, h[x0]? = some (.inr (0, fs))) (hf : fB_valueStart_0 N d h Q x0 x1) : sm_V N (d + 1) mm_B_valueStart 0 x0 [.int x1] h Q := ⟨hb, sm_meth (by decide +kernel) (fun _ => Nat.le_of_ble_eq_true rfl) (fun _ => rfl) (kB_valueStart_0 hf)⟩
def fB_nameEnd_0 (N d : Nat) (h : sm_H) (Q : Option Value → sm_H → Prop) (x0 : Nat) (x1 : Int32) : Prop := sm_V N d mm_B_valueStart 0 x0 [.int x1] h (fun r2 h1 => ∃ z3 : Int32, r2 = some (.int z3) ∧ Q (some (.int (z3 - 1))) h1)
set_option maxRecDepth 20000 in
set_option maxHeartbeats 4000000 in
theorem kB_nameEnd_0 {N d : Nat} {h : sm_H} {Q : Option Value → sm_H → Prop} {x0 : Nat} {x1 : Int32} (hf : fB_nameEnd_0 N d h Q x0 x1) : sm_W N (d + 1) mm_B_nameEnd 0 [(0, .ref x0), (1, .int x1)] [] h Q := by
  unfold fB_nameEnd_0 at hf
  refine sm_aload_n (k := 0) 1 0 (by decide +kernel) rfl rfl rfl ?_
  refine sm_iload_n (k := 1) 2 1 (by decide +kernel) rfl rfl rfl ?_
  refine sm_callV (M2 := mm_B_valueStart) (av := [.int x1]) (rest := []) 5 (by decide +kernel) ml_B_45 (Nat.le_refl _) rfl rfl (by first | exact Nat.le_of_ble_eq_true rfl | simp [sm_rfc, Value.category]) rfl hf ?_
  rintro r2 h1 ⟨z3, rfl, hf⟩
  change sm_W N (d + 1) mm_B_nameEnd 5 [(0, .ref x0), (1, .int x1)] [.int z3] h1 Q
  refine sm_iconst (i := 1) (x := 1) 6 (by decide +kernel) rfl rfl ?_
  refine sm_isub 7 (by decide +kernel) rfl ?_
  exact sm_iret rfl (by decide +kernel) hf
theorem cB_nameEnd {N d : Nat} {h : sm_H} {Q : Option Value → sm_H → Prop} {x0 : Nat} {x1 : Int32} (hb : ∃ fs, h[x0]? = some (.inr (0, fs))) (hf : fB_nameEnd_0 N d h Q x0 x1) : sm_V N (d + 1) mm_B_nameEnd 0 x0 [.int x1] h Q := ⟨hb, sm_meth (by decide +kernel) (fun _ => Nat.le_of_ble_eq_true rfl) (fun _ => rfl) (kB_nameEnd_0 hf)⟩
def fB_valueEnd_0 (N d : Nat) (h : sm_H) (Q : Option Value → sm_H → Prop) (x0 : Nat) (x1 : Int32) : Prop := sm_V N d mm_B_valueStart 0 x0 [.int x1] h (fun r2 h1 => ∃ z3 : Int32, r2 = some (.int z3) ∧ sm_V N d mm_B_at 0 x0 [.int x1] h1 (fun r5 h4 => ∃ z6 : Int32, r5 = some (.int z6) ∧ ((z6 = 2 → sm_V N d mm_B_intAt 0 x0 [.int z3] h4 (fun r8 h7 => ∃ z9 : Int32, r8 = some (.int z9) ∧ Q (some (.int ((z3 + 4) + z9))) h7)) ∧ (z6 = 3 → sm_W N (d + 1) mm_B_valueEnd 115 [(0, .ref x0), (2, .int z3)] [] h4 Q) ∧ (z6 = 4 → sm_W N (d + 1) mm_B_valueEnd 115 [(0, .ref x0), (2, .int z3)] [] h4 Q) ∧ (z6 = 8 → Q (some (.int (z3 + 1))) h4) ∧ (z6 = 16 → Q (some (.int (z3 + 4))) h4) ∧ (z6 = 18 → Q (some (.int (z3 + 8))) h4) ∧ ((¬ z6 = 2 ∧ ¬ z6 = 3 ∧ ¬ z6 = 4 ∧ ¬ z6 = 8 ∧ ¬ z6 = 16 ∧ ¬ z6 = 18) → Q (some (.int z3)) h4))))
set_option maxRecDepth 20000 in
set_option maxHeartbeats 4000000 in
theorem kB_valueEnd_0 {N d : Nat} {h : sm_H} {Q : Option Value → sm_H → Prop} {x0 : Nat} {x1 : Int32} (hf : fB_valueEnd_0 N d h Q x0 x1) : sm_W N (d + 1) mm_B_valueEnd 0 [(0, .ref x0), (1, .int x1)] [] h Q := by
  unfold fB_valueEnd_0 at hf
  refine sm_aload_n (k := 0) 1 0 (by decide +kernel) rfl rfl rfl ?_
  refine sm_iload_n (k := 1) 2 1 (by decide +kernel) rfl rfl rfl ?_
  refine sm_callV (M2 := mm_B_valueStart) (av := [.int x1]) (rest := []) 5 (by decide +kernel) ml_B_45 (Nat.le_refl _) rfl rfl (by first | exact Nat.le_of_ble_eq_true rfl | simp [sm_rfc, Value.category]) rfl hf ?_
  rintro r2 h1 ⟨z3, rfl, hf⟩
  change sm_W N (d + 1) mm_B_valueEnd 5 [(0, .ref x0), (1, .int x1)] [.int z3] h1 Q
  refine sm_istore_n (k := 2) 6 [(2, .int z3), (0, .ref x0), (1, .int x1)] (by decide +kernel) rfl (by decide) (by first | rfl | simp [sm_rfc]) rfl ?_
  refine sm_aload_n (k := 0) 7 1 (by decide +kernel) rfl rfl rfl ?_
  refine sm_iload_n (k := 1) 8 2 (by decide +kernel) rfl rfl rfl ?_
  refine sm_callV (M2 := mm_B_at) (av := [.int x1]) (rest := []) 11 (by decide +kernel) ml_B_48 (Nat.le_refl _) rfl rfl (by first | exact Nat.le_of_ble_eq_true rfl | simp [sm_rfc, Value.category]) rfl hf ?_
  rintro r5 h4 ⟨z6, rfl, hf⟩
  change sm_W N (d + 1) mm_B_valueEnd 11 [(2, .int z3), (0, .ref x0), (1, .int x1)] [.int z6] h4 Q
  by_cases g2 : z6 = 2
  · refine sm_tabIn (dflt := 112) (lo := 2) (hi := 18) (offs := #[94, 104, 104, 112, 112, 112, 90, 112, 112, 112, 112, 112, 112, 112, 81, 112, 85]) (len := 81) (off := 94) 105 (by decide +kernel) (by rw [g2]; decide) (by rw [g2]; decide) (by rw [g2]; decide) (by decide) ?_
    have hf := hf.1 g2
    refine sm_iload_n (k := 2) 106 0 (by decide +kernel) rfl rfl rfl ?_
    refine sm_iconst (i := 4) (x := 4) 107 (by decide +kernel) rfl rfl ?_
    refine sm_iadd 108 (by decide +kernel) rfl ?_
    refine sm_aload_n (k := 0) 109 1 (by decide +kernel) rfl rfl rfl ?_
    refine sm_iload_n (k := 2) 110 0 (by decide +kernel) rfl rfl rfl ?_
    refine sm_callV (M2 := mm_B_intAt) (av := [.int z3]) (rest := [.int (z3 + 4)]) 113 (by decide +kernel) ml_B_25 (Nat.le_refl _) rfl rfl (by first | exact Nat.le_of_ble_eq_true rfl | simp [sm_rfc, Value.category]) rfl hf ?_
    rintro r8 h7 ⟨z9, rfl, hf⟩
    change sm_W N (d + 1) mm_B_valueEnd 113 [(2, .int z3), (0, .ref x0), (1, .int x1)] [.int z9, .int (z3 + 4)] h7 Q
    refine sm_iadd 114 (by decide +kernel) rfl ?_
    exact sm_iret rfl (by decide +kernel) hf
  by_cases g3 : z6 = 3
  · refine sm_tabIn (dflt := 112) (lo := 2) (hi := 18) (offs := #[94, 104, 104, 112, 112, 112, 90, 112, 112, 112, 112, 112, 112, 112, 81, 112, 85]) (len := 81) (off := 104) 115 (by decide +kernel) (by rw [g3]; decide) (by rw [g3]; decide) (by rw [g3]; decide) (by decide) ?_
    have hf := hf.2.1 g3
    exact sm_sub [1, 0] rfl hf
  by_cases g4 : z6 = 4
  · refine sm_tabIn (dflt := 112) (lo := 2) (hi := 18) (offs := #[94, 104, 104, 112, 112, 112, 90, 112, 112, 112, 112, 112, 112, 112, 81, 112, 85]) (len := 81) (off := 104) 115 (by decide +kernel) (by rw [g4]; decide) (by rw [g4]; decide) (by rw [g4]; decide) (by decide) ?_
    have hf := hf.2.2.1 g4
    exact sm_sub [1, 0] rfl hf
  by_cases g5 : z6 = 5
  · refine sm_tabIn (dflt := 112) (lo := 2) (hi := 18) (offs := #[94, 104, 104, 112, 112, 112, 90, 112, 112, 112, 112, 112, 112, 112, 81, 112, 85]) (len := 81) (off := 112) 123 (by decide +kernel) (by rw [g5]; decide) (by rw [g5]; decide) (by rw [g5]; decide) (by decide) ?_
    have hf := hf.2.2.2.2.2.2 ⟨(by rw [g5]; decide), (by rw [g5]; decide), (by rw [g5]; decide), (by rw [g5]; decide), (by rw [g5]; decide), (by rw [g5]; decide)⟩
    refine sm_iload_n (k := 2) 124 0 (by decide +kernel) rfl rfl rfl ?_
    exact sm_iret rfl (by decide +kernel) hf
  by_cases g6 : z6 = 6
  · refine sm_tabIn (dflt := 112) (lo := 2) (hi := 18) (offs := #[94, 104, 104, 112, 112, 112, 90, 112, 112, 112, 112, 112, 112, 112, 81, 112, 85]) (len := 81) (off := 112) 123 (by decide +kernel) (by rw [g6]; decide) (by rw [g6]; decide) (by rw [g6]; decide) (by decide) ?_
    have hf := hf.2.2.2.2.2.2 ⟨(by rw [g6]; decide), (by rw [g6]; decide), (by rw [g6]; decide), (by rw [g6]; decide), (by rw [g6]; decide), (by rw [g6]; decide)⟩
    refine sm_iload_n (k := 2) 124 0 (by decide +kernel) rfl rfl rfl ?_
    exact sm_iret rfl (by decide +kernel) hf
  by_cases g7 : z6 = 7
  · refine sm_tabIn (dflt := 112) (lo := 2) (hi := 18) (offs := #[94, 104, 104, 112, 112, 112, 90, 112, 112, 112, 112, 112, 112, 112, 81, 112, 85]) (len := 81) (off := 112) 123 (by decide +kernel) (by rw [g7]; decide) (by rw [g7]; decide) (by rw [g7]; decide) (by decide) ?_
    have hf := hf.2.2.2.2.2.2 ⟨(by rw [g7]; decide), (by rw [g7]; decide), (by rw [g7]; decide), (by rw [g7]; decide), (by rw [g7]; decide), (by rw [g7]; decide)⟩
    refine sm_iload_n (k := 2) 124 0 (by decide +kernel) rfl rfl rfl ?_
    exact sm_iret rfl (by decide +kernel) hf
  by_cases g8 : z6 = 8
  · refine sm_tabIn (dflt := 112) (lo := 2) (hi := 18) (offs := #[94, 104, 104, 112, 112, 112, 90, 112, 112, 112, 112, 112, 112, 112, 81, 112, 85]) (len := 81) (off := 90) 101 (by decide +kernel) (by rw [g8]; decide) (by rw [g8]; decide) (by rw [g8]; decide) (by decide) ?_
    have hf := hf.2.2.2.1 g8
    refine sm_iload_n (k := 2) 102 0 (by decide +kernel) rfl rfl rfl ?_
    refine sm_iconst (i := 1) (x := 1) 103 (by decide +kernel) rfl rfl ?_
    refine sm_iadd 104 (by decide +kernel) rfl ?_
    exact sm_iret rfl (by decide +kernel) hf
  by_cases g9 : z6 = 9
  · refine sm_tabIn (dflt := 112) (lo := 2) (hi := 18) (offs := #[94, 104, 104, 112, 112, 112, 90, 112, 112, 112, 112, 112, 112, 112, 81, 112, 85]) (len := 81) (off := 112) 123 (by decide +kernel) (by rw [g9]; decide) (by rw [g9]; decide) (by rw [g9]; decide) (by decide) ?_
    have hf := hf.2.2.2.2.2.2 ⟨(by rw [g9]; decide), (by rw [g9]; decide), (by rw [g9]; decide), (by rw [g9]; decide), (by rw [g9]; decide), (by rw [g9]; decide)⟩
    refine sm_iload_n (k := 2) 124 0 (by decide +kernel) rfl rfl rfl ?_
    exact sm_iret rfl (by decide +kernel) hf
  by_cases g10 : z6 = 10
  · refine sm_tabIn (dflt := 112) (lo := 2) (hi := 18) (offs := #[94, 104, 104, 112, 112, 112, 90, 112, 112, 112, 112, 112, 112, 112, 81, 112, 85]) (len := 81) (off := 112) 123 (by decide +kernel) (by rw [g10]; decide) (by rw [g10]; decide) (by rw [g10]; decide) (by decide) ?_
    have hf := hf.2.2.2.2.2.2 ⟨(by rw [g10]; decide), (by rw [g10]; decide), (by rw [g10]; decide), (by rw [g10]; decide), (by rw [g10]; decide), (by rw [g10]; decide)⟩
    refine sm_iload_n (k := 2) 124 0 (by decide +kernel) rfl rfl rfl ?_
    exact sm_iret rfl (by decide +kernel) hf
  by_cases g11 : z6 = 11
  · refine sm_tabIn (dflt := 112) (lo := 2) (hi := 18) (offs := #[94, 104, 104, 112, 112, 112, 90, 112, 112, 112, 112, 112, 112, 112, 81, 112, 85]) (len := 81) (off := 112) 123 (by decide +kernel) (by rw [g11]; decide) (by rw [g11]; decide) (by rw [g11]; decide) (by decide) ?_
    have hf := hf.2.2.2.2.2.2 ⟨(by rw [g11]; decide), (by rw [g11]; decide), (by rw [g11]; decide), (by rw [g11]; decide), (by rw [g11]; decide), (by rw [g11]; decide)⟩
    refine sm_iload_n (k := 2) 124 0 (by decide +kernel) rfl rfl rfl ?_
    exact sm_iret rfl (by decide +kernel) hf
  by_cases g12 : z6 = 12
  · refine sm_tabIn (dflt := 112) (lo := 2) (hi := 18) (offs := #[94, 104, 104, 112, 112, 112, 90, 112, 112, 112, 112, 112, 112, 112, 81, 112, 85]) (len := 81) (off := 112) 123 (by decide +kernel) (by rw [g12]; decide) (by rw [g12]; decide) (by rw [g12]; decide) (by decide) ?_
    have hf := hf.2.2.2.2.2.2 ⟨(by rw [g12]; decide), (by rw [g12]; decide), (by rw [g12]; decide), (by rw [g12]; decide), (by rw [g12]; decide), (by rw [g12]; decide)⟩
    refine sm_iload_n (k := 2) 124 0 (by decide +kernel) rfl rfl rfl ?_
    exact sm_iret rfl (by decide +kernel) hf
  by_cases g13 : z6 = 13
  · refine sm_tabIn (dflt := 112) (lo := 2) (hi := 18) (offs := #[94, 104, 104, 112, 112, 112, 90, 112, 112, 112, 112, 112, 112, 112, 81, 112, 85]) (len := 81) (off := 112) 123 (by decide +kernel) (by rw [g13]; decide) (by rw [g13]; decide) (by rw [g13]; decide) (by decide) ?_
    have hf := hf.2.2.2.2.2.2 ⟨(by rw [g13]; decide), (by rw [g13]; decide), (by rw [g13]; decide), (by rw [g13]; decide), (by rw [g13]; decide), (by rw [g13]; decide)⟩
    refine sm_iload_n (k := 2) 124 0 (by decide +kernel) rfl rfl rfl ?_
    exact sm_iret rfl (by decide +kernel) hf
  by_cases g14 : z6 = 14
  · refine sm_tabIn (dflt := 112) (lo := 2) (hi := 18) (offs := #[94, 104, 104, 112, 112, 112, 90, 112, 112, 112, 112, 112, 112, 112, 81, 112, 85]) (len := 81) (off := 112) 123 (by decide +kernel) (by rw [g14]; decide) (by rw [g14]; decide) (by rw [g14]; decide) (by decide) ?_
    have hf := hf.2.2.2.2.2.2 ⟨(by rw [g14]; decide), (by rw [g14]; decide), (by rw [g14]; decide), (by rw [g14]; decide), (by rw [g14]; decide), (by rw [g14]; decide)⟩
    refine sm_iload_n (k := 2) 124 0 (by decide +kernel) rfl rfl rfl ?_
    exact sm_iret rfl (by decide +kernel) hf
  by_cases g15 : z6 = 15
  · refine sm_tabIn (dflt := 112) (lo := 2) (hi := 18) (offs := #[94, 104, 104, 112, 112, 112, 90, 112, 112, 112, 112, 112, 112, 112, 81, 112, 85]) (len := 81) (off := 112) 123 (by decide +kernel) (by rw [g15]; decide) (by rw [g15]; decide) (by rw [g15]; decide) (by decide) ?_
    have hf := hf.2.2.2.2.2.2 ⟨(by rw [g15]; decide), (by rw [g15]; decide), (by rw [g15]; decide), (by rw [g15]; decide), (by rw [g15]; decide), (by rw [g15]; decide)⟩
    refine sm_iload_n (k := 2) 124 0 (by decide +kernel) rfl rfl rfl ?_
    exact sm_iret rfl (by decide +kernel) hf
  by_cases g16 : z6 = 16
  · refine sm_tabIn (dflt := 112) (lo := 2) (hi := 18) (offs := #[94, 104, 104, 112, 112, 112, 90, 112, 112, 112, 112, 112, 112, 112, 81, 112, 85]) (len := 81) (off := 81) 92 (by decide +kernel) (by rw [g16]; decide) (by rw [g16]; decide) (by rw [g16]; decide) (by decide) ?_
    have hf := hf.2.2.2.2.1 g16
    refine sm_iload_n (k := 2) 93 0 (by decide +kernel) rfl rfl rfl ?_
    refine sm_iconst (i := 4) (x := 4) 94 (by decide +kernel) rfl rfl ?_
    refine sm_iadd 95 (by decide +kernel) rfl ?_
    exact sm_iret rfl (by decide +kernel) hf
  by_cases g17 : z6 = 17
  · refine sm_tabIn (dflt := 112) (lo := 2) (hi := 18) (offs := #[94, 104, 104, 112, 112, 112, 90, 112, 112, 112, 112, 112, 112, 112, 81, 112, 85]) (len := 81) (off := 112) 123 (by decide +kernel) (by rw [g17]; decide) (by rw [g17]; decide) (by rw [g17]; decide) (by decide) ?_
    have hf := hf.2.2.2.2.2.2 ⟨(by rw [g17]; decide), (by rw [g17]; decide), (by rw [g17]; decide), (by rw [g17]; decide), (by rw [g17]; decide), (by rw [g17]; decide)⟩
    refine sm_iload_n (k := 2) 124 0 (by decide +kernel) rfl rfl rfl ?_
    exact sm_iret rfl (by decide +kernel) hf
  by_cases g18 : z6 = 18
  · refine sm_tabIn (dflt := 112) (lo := 2) (hi := 18) (offs := #[94, 104, 104, 112, 112, 112, 90, 112, 112, 112, 112, 112, 112, 112, 81, 112, 85]) (len := 81) (off := 85) 96 (by decide +kernel) (by rw [g18]; decide) (by rw [g18]; decide) (by rw [g18]; decide) (by decide) ?_
    have hf := hf.2.2.2.2.2.1 g18
    refine sm_iload_n (k := 2) 97 0 (by decide +kernel) rfl rfl rfl ?_
    refine sm_bipush (i := 8) (x := 8) 99 (by decide +kernel) (by decide) rfl ?_
    refine sm_iadd 100 (by decide +kernel) rfl ?_
    exact sm_iret rfl (by decide +kernel) hf
  have gout : z6.toInt < 2 ∨ 18 < z6.toInt := sm_out (fun v a1 a2 => by
    rcases sm_iv2_18 a1 a2 with rfl | rfl | rfl | rfl | rfl | rfl | rfl | rfl | rfl | rfl | rfl | rfl | rfl | rfl | rfl | rfl | rfl
    · exact sm_ne 2 (by decide) g2
    · exact sm_ne 3 (by decide) g3
    · exact sm_ne 4 (by decide) g4
    · exact sm_ne 5 (by decide) g5
    · exact sm_ne 6 (by decide) g6
    · exact sm_ne 7 (by decide) g7
    · exact sm_ne 8 (by decide) g8
    · exact sm_ne 9 (by decide) g9
    · exact sm_ne 10 (by decide) g10
    · exact sm_ne 11 (by decide) g11
    · exact sm_ne 12 (by decide) g12
    · exact sm_ne 13 (by decide) g13
    · exact sm_ne 14 (by decide) g14
    · exact sm_ne 15 (by decide) g15
    · exact sm_ne 16 (by decide) g16
    · exact sm_ne 17 (by decide) g17
    · exact sm_ne 18 (by decide) g18
    )
  refine sm_tabOut (dflt := 112) (lo := 2) (hi := 18) (offs := #[94, 104, 104, 112, 112, 112, 90, 112, 112, 112, 112, 112, 112, 112, 81, 112, 85]) (len := 81) 123 (by decide +kernel) gout (by decide) ?_
  have hf := hf.2.2.2.2.2.2 ⟨g2, g3, g4, g8, g16, g18⟩
  refine sm_iload_n (k := 2) 124 0 (by decide +kernel) rfl rfl rfl ?_
  exact sm_iret rfl (by decide +kernel) hf
def fB_valueEnd_115 (N d : Nat) (h : sm_H) (Q : Option Value → sm_H → Prop) (x0 : Nat) (x2 : Int32) : Prop := sm_V N d mm_B_intAt 0 x0 [.int x2] h (fun r2 h1 => ∃ z3 : Int32, r2 = some (.int z3) ∧ Q (some (.int (x2 + z3))) h1)
set_option maxRecDepth 20000 in
set_option maxHeartbeats 4000000 in
theorem kB_valueEnd_115 {N d : Nat} {h : sm_H} {Q : Option Value → sm_H → Prop} {x0 : Nat} {x2 : Int32} (hf : fB_valueEnd_115 N d h Q x0 x2) : sm_W N (d + 1) mm_B_valueEnd 115 [(0, .ref x0), (2, .int x2)] [] h Q := by
  unfold fB_valueEnd_115 at hf
  refine sm_iload_n (k := 2) 116 1 (by decide +kernel) rfl rfl rfl ?_
  refine sm_aload_n (k := 0) 117 0 (by decide +kernel) rfl rfl rfl ?_
  refine sm_iload_n (k := 2) 118 1 (by decide +kernel) rfl rfl rfl ?_
  refine sm_callV (M2 := mm_B_intAt) (av := [.int x2]) (rest := [.int x2]) 121 (by decide +kernel) ml_B_25 (Nat.le_refl _) rfl rfl (by first | exact Nat.le_of_ble_eq_true rfl | simp [sm_rfc, Value.category]) rfl hf ?_
  rintro r2 h1 ⟨z3, rfl, hf⟩
  change sm_W N (d + 1) mm_B_valueEnd 121 [(0, .ref x0), (2, .int x2)] [.int z3, .int x2] h1 Q
  refine sm_iadd 122 (by decide +kernel) rfl ?_
  exact sm_iret rfl (by decide +kernel) hf
theorem cB_valueEnd {N d : Nat} {h : sm_H} {Q : Option Value → sm_H → Prop} {x0 : Nat} {x1 : Int32} (hb : ∃ fs, h[x0]? = some (.inr (0, fs))) (hf : fB_valueEnd_0 N d h Q x0 x1) : sm_V N (d + 1) mm_B_valueEnd 0 x0 [.int x1] h Q := ⟨hb, sm_meth (by decide +kernel) (fun _ => Nat.le_of_ble_eq_true rfl) (fun _ => rfl) (kB_valueEnd_0 hf)⟩
def fB_numberOf_0 (N d : Nat) (h : sm_H) (Q : Option Value → sm_H → Prop) (x0 : Nat) (x1 : Int32) : Prop := sm_V N d mm_B_valueStart 0 x0 [.int x1] h (fun r2 h1 => ∃ z3 : Int32, r2 = some (.int z3) ∧ sm_V N d mm_B_at 0 x0 [.int x1] h1 (fun r5 h4 => ∃ z6 : Int32, r5 = some (.int z6) ∧ ((z6 = 16 → sm_V N d mm_B_intAt 0 x0 [.int z3] h4 (fun r11 h10 => ∃ z12 : Int32, r11 = some (.int z12) ∧ Q (some (.long (Int32.toInt64 z12))) h10)) ∧ (¬ z6 = 16 → sm_V N d mm_B_longAt 0 x0 [.int z3] h4 (fun r8 h7 => ∃ z9 : Int64, r8 = some (.long z9) ∧ Q (some (.long z9)) h7)))))
set_option maxRecDepth 20000 in
set_option maxHeartbeats 4000000 in
theorem kB_numberOf_0 {N d : Nat} {h : sm_H} {Q : Option Value → sm_H → Prop} {x0 : Nat} {x1 : Int32} (hf : fB_numberOf_0 N d h Q x0 x1) : sm_W N (d + 1) mm_B_numberOf 0 [(0, .ref x0), (1, .int x1)] [] h Q := by
  unfold fB_numberOf_0 at hf
  refine sm_aload_n (k := 0) 1 0 (by decide +kernel) rfl rfl rfl ?_
  refine sm_iload_n (k := 1) 2 1 (by decide +kernel) rfl rfl rfl ?_
  refine sm_callV (M2 := mm_B_valueStart) (av := [.int x1]) (rest := []) 5 (by decide +kernel) ml_B_45 (Nat.le_refl _) rfl rfl (by first | exact Nat.le_of_ble_eq_true rfl | simp [sm_rfc, Value.category]) rfl hf ?_
  rintro r2 h1 ⟨z3, rfl, hf⟩
  change sm_W N (d + 1) mm_B_numberOf 5 [(0, .ref x0), (1, .int x1)] [.int z3] h1 Q
  refine sm_istore_n (k := 2) 6 [(2, .int z3), (0, .ref x0), (1, .int x1)] (by decide +kernel) rfl (by decide) (by first | rfl | simp [sm_rfc]) rfl ?_
  refine sm_aload_n (k := 0) 7 1 (by decide +kernel) rfl rfl rfl ?_
  refine sm_iload_n (k := 1) 8 2 (by decide +kernel) rfl rfl rfl ?_
  refine sm_callV (M2 := mm_B_at) (av := [.int x1]) (rest := []) 11 (by decide +kernel) ml_B_48 (Nat.le_refl _) rfl rfl (by first | exact Nat.le_of_ble_eq_true rfl | simp [sm_rfc, Value.category]) rfl hf ?_
  rintro r5 h4 ⟨z6, rfl, hf⟩
  change sm_W N (d + 1) mm_B_numberOf 11 [(2, .int z3), (0, .ref x0), (1, .int x1)] [.int z6] h4 Q
  refine sm_bipush (i := 16) (x := 16) 13 (by decide +kernel) (by decide) rfl ?_
  refine sm_icmp_ne (off := 12) 16 25 (by decide +kernel) (by decide) rfl (fun q13 => ?_) (fun q13 => ?_)
  · have hf := hf.2 q13
    refine sm_aload_n (k := 0) 26 1 (by decide +kernel) rfl rfl rfl ?_
    refine sm_iload_n (k := 2) 27 0 (by decide +kernel) rfl rfl rfl ?_
    refine sm_callV (M2 := mm_B_longAt) (av := [.int z3]) (rest := []) 30 (by decide +kernel) ml_B_51 (Nat.le_refl _) rfl rfl (by first | exact Nat.le_of_ble_eq_true rfl | simp [sm_rfc, Value.category]) rfl hf ?_
    rintro r8 h7 ⟨z9, rfl, hf⟩
    change sm_W N (d + 1) mm_B_numberOf 30 [(2, .int z3), (0, .ref x0), (1, .int x1)] [.long z9] h7 Q
    exact sm_lret rfl (by decide +kernel) hf
  · have hf := hf.1 q13
    refine sm_aload_n (k := 0) 17 1 (by decide +kernel) rfl rfl rfl ?_
    refine sm_iload_n (k := 2) 18 0 (by decide +kernel) rfl rfl rfl ?_
    refine sm_callV (M2 := mm_B_intAt) (av := [.int z3]) (rest := []) 21 (by decide +kernel) ml_B_25 (Nat.le_refl _) rfl rfl (by first | exact Nat.le_of_ble_eq_true rfl | simp [sm_rfc, Value.category]) rfl hf ?_
    rintro r11 h10 ⟨z12, rfl, hf⟩
    change sm_W N (d + 1) mm_B_numberOf 21 [(2, .int z3), (0, .ref x0), (1, .int x1)] [.int z12] h10 Q
    refine sm_i2l 22 (by decide +kernel) rfl ?_
    refine sm_goto (off := 8) 30 (by decide +kernel) (by decide) ?_
    exact sm_lret rfl (by decide +kernel) hf
theorem cB_numberOf {N d : Nat} {h : sm_H} {Q : Option Value → sm_H → Prop} {x0 : Nat} {x1 : Int32} (hb : ∃ fs, h[x0]? = some (.inr (0, fs))) (hf : fB_numberOf_0 N d h Q x0 x1) : sm_V N (d + 1) mm_B_numberOf 0 x0 [.int x1] h Q := ⟨hb, sm_meth (by decide +kernel) (fun _ => Nat.le_of_ble_eq_true rfl) (fun _ => rfl) (kB_numberOf_0 hf)⟩
def fB_lastOf_0 (N d : Nat) (h : sm_H) (Q : Option Value → sm_H → Prop) (x0 : Nat) (x1 : Int32) : Prop := sm_V N d mm_B_intAt 0 x0 [.int x1] h (fun r2 h1 => ∃ z3 : Int32, r2 = some (.int z3) ∧ Q (some (.int ((x1 + z3) - 1))) h1)
set_option maxRecDepth 20000 in
set_option maxHeartbeats 4000000 in
theorem kB_lastOf_0 {N d : Nat} {h : sm_H} {Q : Option Value → sm_H → Prop} {x0 : Nat} {x1 : Int32} (hf : fB_lastOf_0 N d h Q x0 x1) : sm_W N (d + 1) mm_B_lastOf 0 [(0, .ref x0), (1, .int x1)] [] h Q := by
  unfold fB_lastOf_0 at hf
  refine sm_iload_n (k := 1) 1 1 (by decide +kernel) rfl rfl rfl ?_
  refine sm_aload_n (k := 0) 2 0 (by decide +kernel) rfl rfl rfl ?_
  refine sm_iload_n (k := 1) 3 1 (by decide +kernel) rfl rfl rfl ?_
  refine sm_callV (M2 := mm_B_intAt) (av := [.int x1]) (rest := [.int x1]) 6 (by decide +kernel) ml_B_25 (Nat.le_refl _) rfl rfl (by first | exact Nat.le_of_ble_eq_true rfl | simp [sm_rfc, Value.category]) rfl hf ?_
  rintro r2 h1 ⟨z3, rfl, hf⟩
  change sm_W N (d + 1) mm_B_lastOf 6 [(0, .ref x0), (1, .int x1)] [.int z3, .int x1] h1 Q
  refine sm_iadd 7 (by decide +kernel) rfl ?_
  refine sm_iconst (i := 1) (x := 1) 8 (by decide +kernel) rfl rfl ?_
  refine sm_isub 9 (by decide +kernel) rfl ?_
  exact sm_iret rfl (by decide +kernel) hf
theorem cB_lastOf {N d : Nat} {h : sm_H} {Q : Option Value → sm_H → Prop} {x0 : Nat} {x1 : Int32} (hb : ∃ fs, h[x0]? = some (.inr (0, fs))) (hf : fB_lastOf_0 N d h Q x0 x1) : sm_V N (d + 1) mm_B_lastOf 0 x0 [.int x1] h Q := ⟨hb, sm_meth (by decide +kernel) (fun _ => Nat.le_of_ble_eq_true rfl) (fun _ => rfl) (kB_lastOf_0 hf)⟩
def fB_countElements_0 (N d : Nat) (h : sm_H) (Q : Option Value → sm_H → Prop) (x0 : Nat) (x1 : Int32) : Prop := sm_V N d mm_B_lastOf 0 x0 [.int x1] h (fun r2 h1 => ∃ z3 : Int32, r2 = some (.int z3) ∧ sm_W N (d + 1) mm_B_countElements 13 [(0, .ref x0), (2, .int z3), (3, .int (x1 + 4)), (4, .int 0)] [] h1 Q)
set_option maxRecDepth 20000 in
set_option maxHeartbeats 4000000 in
theorem kB_countElements_0 {N d : Nat} {h : sm_H} {Q : Option Value → sm_H → Prop} {x0 : Nat} {x1 : Int32} (hf : fB_countElements_0 N d h Q x0 x1) : sm_W N (d + 1) mm_B_countElements 0 [(0, .ref x0), (1, .int x1)] [] h Q := by
  unfold fB_countElements_0 at hf
  refine sm_aload_n (k := 0) 1 0 (by decide +kernel) rfl rfl rfl ?_
  refine sm_iload_n (k := 1) 2 1 (by decide +kernel) rfl rfl rfl ?_
  refine sm_callV (M2 := mm_B_lastOf) (av := [.int x1]) (rest := []) 5 (by decide +kernel) ml_B_55 (Nat.le_refl _) rfl rfl (by first | exact Nat.le_of_ble_eq_true rfl | simp [sm_rfc, Value.category]) rfl hf ?_
  rintro r2 h1 ⟨z3, rfl, hf⟩
  change sm_W N (d + 1) mm_B_countElements 5 [(0, .ref x0), (1, .int x1)] [.int z3] h1 Q
  refine sm_istore_n (k := 2) 6 [(2, .int z3), (0, .ref x0), (1, .int x1)] (by decide +kernel) rfl (by decide) (by first | rfl | simp [sm_rfc]) rfl ?_
  refine sm_iload_n (k := 1) 7 2 (by decide +kernel) rfl rfl rfl ?_
  refine sm_iconst (i := 4) (x := 4) 8 (by decide +kernel) rfl rfl ?_
  refine sm_iadd 9 (by decide +kernel) rfl ?_
  refine sm_istore_n (k := 3) 10 [(3, .int (x1 + 4)), (2, .int z3), (0, .ref x0), (1, .int x1)] (by decide +kernel) rfl (by decide) (by first | rfl | simp [sm_rfc]) rfl ?_
  refine sm_iconst (i := 0) (x := 0) 11 (by decide +kernel) rfl rfl ?_
  refine sm_istore (i := 4) 13 [(4, .int 0), (3, .int (x1 + 4)), (2, .int z3), (0, .ref x0), (1, .int x1)] (by decide +kernel) (by decide) (by first | rfl | simp [sm_rfc]) rfl ?_
  exact sm_sub [3, 2, 1, 0] rfl hf
def fB_countElements_13 (N d : Nat) (h : sm_H) (Q : Option Value → sm_H → Prop) (x0 : Nat) (x2 : Int32) (x3 : Int32) (x4 : Int32) : Prop := ∃ z1 : Int32, sm_g h x0 0 1 = some (.int z1) ∧ ((z1 ≤ x4 → Q (some (.int x4)) h) ∧ (¬ z1 ≤ x4 → ((x2 ≤ x3 → Q (some (.int x4)) h) ∧ (¬ x2 ≤ x3 → sm_V N d mm_B_valueEnd 0 x0 [.int x3] h (fun r3 h2 => ∃ z4 : Int32, r3 = some (.int z4) ∧ sm_W N (d + 1) mm_B_countElements 13 [(0, .ref x0), (2, .int x2), (3, .int z4), (4, .int (x4 + 1))] [] h2 Q)))))
set_option maxRecDepth 20000 in
set_option maxHeartbeats 4000000 in
theorem kB_countElements_13 {N d : Nat} {h : sm_H} {Q : Option Value → sm_H → Prop} {x0 : Nat} {x2 : Int32} {x3 : Int32} {x4 : Int32} (hf : fB_countElements_13 N d h Q x0 x2 x3 x4) : sm_W N (d + 1) mm_B_countElements 13 [(0, .ref x0), (2, .int x2), (3, .int x3), (4, .int x4)] [] h Q := by
  unfold fB_countElements_13 at hf
  refine sm_iload (i := 4) 15 3 (by decide +kernel) rfl rfl ?_
  refine sm_aload_n (k := 0) 16 0 (by decide +kernel) rfl rfl rfl ?_
  obtain ⟨z1, ez1, hf⟩ := hf
  refine sm_get 19 (by decide +kernel) fl_B_9 ez1 rfl ?_
  refine sm_icmp_ge (off := 20) 22 39 (by decide +kernel) (by decide) rfl (fun q6 => ?_) (fun q6 => ?_)
  · have hf := hf.1 q6
    refine sm_iload (i := 4) 41 3 (by decide +kernel) rfl rfl ?_
    exact sm_iret rfl (by decide +kernel) hf
  · have hf := hf.2 q6
    refine sm_iload_n (k := 3) 23 2 (by decide +kernel) rfl rfl rfl ?_
    refine sm_iload_n (k := 2) 24 1 (by decide +kernel) rfl rfl rfl ?_
    refine sm_icmp_ge (off := 15) 27 39 (by decide +kernel) (by decide) rfl (fun q5 => ?_) (fun q5 => ?_)
    · have hf := hf.1 q5
      refine sm_iload (i := 4) 41 3 (by decide +kernel) rfl rfl ?_
      exact sm_iret rfl (by decide +kernel) hf
    · have hf := hf.2 q5
      refine sm_aload_n (k := 0) 28 0 (by decide +kernel) rfl rfl rfl ?_
      refine sm_iload_n (k := 3) 29 2 (by decide +kernel) rfl rfl rfl ?_
      refine sm_callV (M2 := mm_B_valueEnd) (av := [.int x3]) (rest := []) 32 (by decide +kernel) ml_B_58 (Nat.le_refl _) rfl rfl (by first | exact Nat.le_of_ble_eq_true rfl | simp [sm_rfc, Value.category]) rfl hf ?_
      rintro r3 h2 ⟨z4, rfl, hf⟩
      change sm_W N (d + 1) mm_B_countElements 32 [(0, .ref x0), (2, .int x2), (3, .int x3), (4, .int x4)] [.int z4] h2 Q
      refine sm_istore_n (k := 3) 33 [(3, .int z4), (0, .ref x0), (2, .int x2), (4, .int x4)] (by decide +kernel) rfl (by decide) (by first | rfl | simp [sm_rfc]) rfl ?_
      refine sm_iinc (i := 4) (j := 3) (z := 1) (y := x4 + 1) 36 [(4, .int (x4 + 1)), (3, .int z4), (0, .ref x0), (2, .int x2)] (by decide +kernel) rfl (by rfl) (by decide) rfl rfl ?_
      refine sm_goto (off := -23) 13 (by decide +kernel) (by decide) ?_
      exact sm_sub [2, 3, 1, 0] rfl hf
theorem cB_countElements {N d : Nat} {h : sm_H} {Q : Option Value → sm_H → Prop} {x0 : Nat} {x1 : Int32} (hb : ∃ fs, h[x0]? = some (.inr (0, fs))) (hf : fB_countElements_0 N d h Q x0 x1) : sm_V N (d + 1) mm_B_countElements 0 x0 [.int x1] h Q := ⟨hb, sm_meth (by decide +kernel) (fun _ => Nat.le_of_ble_eq_true rfl) (fun _ => rfl) (kB_countElements_0 hf)⟩
