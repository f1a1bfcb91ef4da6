def fM_isOne_0 (N d : Nat) (h : sm_H) (Q : Option Value → sm_H → Prop) (x0 : Nat) (x1 : Int32) (x2 : Int32) : Prop := ∃ z1 : Nat, sm_g h x0 5 7 = some (.ref z1) ∧ ∃ z2 : Int32, sm_gi h z1 1 x1 = some z2 ∧ sm_T N d mm_M_classOf [.int z2] h (fun r4 h3 => ∃ z5 : Int32, r4 = some (.int z5) ∧ ∃ z6 : Nat, sm_g h3 x0 5 7 = some (.ref z6) ∧ ∃ z7 : Int32, sm_gi h3 z6 1 x2 = some z7 ∧ sm_T N d mm_M_classOf [.int z7] h3 (fun r9 h8 => ∃ z10 : Int32, r9 = some (.int z10) ∧ ((z5 = z10 → ∃ z11 : Nat, sm_g h8 x0 5 7 = some (.ref z11) ∧ ∃ z12 : Int32, sm_gi h8 z11 1 x1 = some z12 ∧ ((z12 = 2 → ∃ z18 : Nat, sm_g h8 x0 5 11 = some (.ref z18) ∧ ∃ z19 : Int32, sm_gi h8 z18 1 x1 = some z19 ∧ ∃ z20 : Nat, sm_g h8 x0 5 12 = some (.ref z20) ∧ ∃ z21 : Int32, sm_gi h8 z20 1 x1 = some z21 ∧ ∃ z22 : Nat, sm_g h8 x0 5 11 = some (.ref z22) ∧ ∃ z23 : Int32, sm_gi h8 z22 1 x2 = some z23 ∧ ∃ z24 : Nat, sm_g h8 x0 5 12 = some (.ref z24) ∧ ∃ z25 : Int32, sm_gi h8 z24 1 x2 = some z25 ∧ sm_V N d mm_M_isAlike 5 x0 [.int z19, .int z21, .int z23, .int z25] h8 (fun r27 h26 => ∃ z28 : Int32, r27 = some (.int z28) ∧ ((z28 = 0 ∨ z28 = 1) ∧ Q (some (.int z28)) h26))) ∧ (¬ z12 = 2 → ∃ z13 : Nat, sm_g h8 x0 5 10 = some (.ref z13) ∧ ∃ z14 : Int64, sm_gl h8 z13 2 x1 = some z14 ∧ ∃ z15 : Nat, sm_g h8 x0 5 10 = some (.ref z15) ∧ ∃ z16 : Int64, sm_gl h8 z15 2 x2 = some z16 ∧ (((lg_cmp z14 z16) = 0 → Q (some (.int 1)) h8) ∧ (¬ (lg_cmp z14 z16) = 0 → Q (some (.int 0)) h8))))) ∧ (¬ z5 = z10 → Q (some (.int 0)) h8))))
set_option maxRecDepth 20000 in
set_option maxHeartbeats 4000000 in
theorem kM_isOne_0 {N d : Nat} {h : sm_H} {Q : Option Value → sm_H → Prop} {x0 : Nat} {x1 : Int32} {x2 : Int32} (hf : fM_isOne_0 N d h Q x0 x1 x2) : sm_W N (d + 1) mm_M_isOne 0 [(0, .ref x0), (1, .int x1), (2, .int x2)] [] h Q := by
  unfold fM_isOne_0 at hf
  refine sm_aload_n (k := 0) 1 0 (by decide +kernel) rfl rfl rfl ?_
  obtain ⟨z1, ez1, hf⟩ := hf
  refine sm_get 4 (by decide +kernel) fl_M_20 ez1 rfl ?_
  refine sm_iload_n (k := 1) 5 1 (by decide +kernel) rfl rfl rfl ?_
  obtain ⟨z2, ez2, hf⟩ := hf
  refine sm_iald 6 (by decide +kernel) ez2 rfl ?_
  refine sm_callS (M2 := mm_M_classOf) (av := [.int z2]) (rest := []) 9 (by decide +kernel) ml_M_173 (Nat.le_refl _) rfl rfl (by first | exact Nat.le_of_ble_eq_true rfl | simp [sm_rfc, Value.category]) rfl hf ?_
  rintro r4 h3 ⟨z5, rfl, hf⟩
  change sm_W N (d + 1) mm_M_isOne 9 [(0, .ref x0), (1, .int x1), (2, .int x2)] [.int z5] h3 Q
  refine sm_aload_n (k := 0) 10 0 (by decide +kernel) rfl rfl rfl ?_
  obtain ⟨z6, ez6, hf⟩ := hf
  refine sm_get 13 (by decide +kernel) fl_M_20 ez6 rfl ?_
  refine sm_iload_n (k := 2) 14 2 (by decide +kernel) rfl rfl rfl ?_
  obtain ⟨z7, ez7, hf⟩ := hf
  refine sm_iald 15 (by decide +kernel) ez7 rfl ?_
  refine sm_callS (M2 := mm_M_classOf) (av := [.int z7]) (rest := [.int z5]) 18 (by decide +kernel) ml_M_173 (Nat.le_refl _) rfl rfl (by first | exact Nat.le_of_ble_eq_true rfl | simp [sm_rfc, Value.category]) rfl hf ?_
  rintro r9 h8 ⟨z10, rfl, hf⟩
  change sm_W N (d + 1) mm_M_isOne 18 [(0, .ref x0), (1, .int x1), (2, .int x2)] [.int z10, .int z5] h8 Q
  refine sm_icmp_eq (off := 5) 21 23 (by decide +kernel) (by decide) rfl (fun q30 => ?_) (fun q30 => ?_)
  · have hf := hf.1 q30
    refine sm_aload_n (k := 0) 24 0 (by decide +kernel) rfl rfl rfl ?_
    obtain ⟨z11, ez11, hf⟩ := hf
    refine sm_get 27 (by decide +kernel) fl_M_20 ez11 rfl ?_
    refine sm_iload_n (k := 1) 28 1 (by decide +kernel) rfl rfl rfl ?_
    obtain ⟨z12, ez12, hf⟩ := hf
    refine sm_iald 29 (by decide +kernel) ez12 rfl ?_
    refine sm_iconst (i := 2) (x := 2) 30 (by decide +kernel) rfl rfl ?_
    refine sm_icmp_ne (off := 34) 33 64 (by decide +kernel) (by decide) rfl (fun q29 => ?_) (fun q29 => ?_)
    · have hf := hf.2 q29
      refine sm_aload_n (k := 0) 65 0 (by decide +kernel) rfl rfl rfl ?_
      obtain ⟨z13, ez13, hf⟩ := hf
      refine sm_get 68 (by decide +kernel) fl_M_30 ez13 rfl ?_
      refine sm_iload_n (k := 1) 69 1 (by decide +kernel) rfl rfl rfl ?_
      obtain ⟨z14, ez14, hf⟩ := hf
      refine sm_lald 70 (by decide +kernel) ez14 rfl ?_
      refine sm_aload_n (k := 0) 71 0 (by decide +kernel) rfl rfl rfl ?_
      obtain ⟨z15, ez15, hf⟩ := hf
      refine sm_get 74 (by decide +kernel) fl_M_30 ez15 rfl ?_
      refine sm_iload_n (k := 2) 75 2 (by decide +kernel) rfl rfl rfl ?_
      obtain ⟨z16, ez16, hf⟩ := hf
      refine sm_lald 76 (by decide +kernel) ez16 rfl ?_
      refine sm_lcmp 77 (by decide +kernel) rfl ?_
      refine sm_if_ne (off := 7) 80 84 (by decide +kernel) (by decide) rfl (fun q17 => ?_) (fun q17 => ?_)
      · have hf := hf.2 q17
        refine sm_iconst (i := 0) (x := 0) 85 (by decide +kernel) rfl rfl ?_
        exact sm_zret rfl (by decide +kernel) (by decide) hf
      · have hf := hf.1 q17
        refine sm_iconst (i := 1) (x := 1) 81 (by decide +kernel) rfl rfl ?_
        refine sm_goto (off := 4) 85 (by decide +kernel) (by decide) ?_
        exact sm_zret rfl (by decide +kernel) (by decide) hf
    · have hf := hf.1 q29
      refine sm_aload_n (k := 0) 34 0 (by decide +kernel) rfl rfl rfl ?_
      refine sm_aload_n (k := 0) 35 0 (by decide +kernel) rfl rfl rfl ?_
      obtain ⟨z18, ez18, hf⟩ := hf
      refine sm_get 38 (by decide +kernel) fl_M_34 ez18 rfl ?_
      refine sm_iload_n (k := 1) 39 1 (by decide +kernel) rfl rfl rfl ?_
      obtain ⟨z19, ez19, hf⟩ := hf
      refine sm_iald 40 (by decide +kernel) ez19 rfl ?_
      refine sm_aload_n (k := 0) 41 0 (by decide +kernel) rfl rfl rfl ?_
      obtain ⟨z20, ez20, hf⟩ := hf
      refine sm_get 44 (by decide +kernel) fl_M_37 ez20 rfl ?_
      refine sm_iload_n (k := 1) 45 1 (by decide +kernel) rfl rfl rfl ?_
      obtain ⟨z21, ez21, hf⟩ := hf
      refine sm_iald 46 (by decide +kernel) ez21 rfl ?_
      refine sm_aload_n (k := 0) 47 0 (by decide +kernel) rfl rfl rfl ?_
      obtain ⟨z22, ez22, hf⟩ := hf
      refine sm_get 50 (by decide +kernel) fl_M_34 ez22 rfl ?_
      refine sm_iload_n (k := 2) 51 2 (by decide +kernel) rfl rfl rfl ?_
      obtain ⟨z23, ez23, hf⟩ := hf
      refine sm_iald 52 (by decide +kernel) ez23 rfl ?_
      refine sm_aload_n (k := 0) 53 0 (by decide +kernel) rfl rfl rfl ?_
      obtain ⟨z24, ez24, hf⟩ := hf
      refine sm_get 56 (by decide +kernel) fl_M_37 ez24 rfl ?_
      refine sm_iload_n (k := 2) 57 2 (by decide +kernel) rfl rfl rfl ?_
      obtain ⟨z25, ez25, hf⟩ := hf
      refine sm_iald 58 (by decide +kernel) ez25 rfl ?_
      refine sm_callV (M2 := mm_M_isAlike) (av := [.int z19, .int z21, .int z23, .int z25]) (rest := []) 61 (by decide +kernel) ml_M_97 (Nat.le_refl _) rfl rfl (by first | exact Nat.le_of_ble_eq_true rfl | simp [sm_rfc, Value.category]) rfl hf ?_
      rintro r27 h26 ⟨z28, rfl, hf⟩
      change sm_W N (d + 1) mm_M_isOne 61 [(0, .ref x0), (1, .int x1), (2, .int x2)] [.int z28] h26 Q
      refine sm_goto (off := 24) 85 (by decide +kernel) (by decide) ?_
      exact sm_zret rfl (by decide +kernel) hf.1 hf.2
  · have hf := hf.2 q30
    refine sm_iconst (i := 0) (x := 0) 22 (by decide +kernel) rfl rfl ?_
    exact sm_zret rfl (by decide +kernel) (by decide) hf
theorem cM_isOne {N d : Nat} {h : sm_H} {Q : Option Value → sm_H → Prop} {x0 : Nat} {x1 : Int32} {x2 : Int32} (hb : ∃ fs, h[x0]? = some (.inr (5, fs))) (hf : fM_isOne_0 N d h Q x0 x1 x2) : sm_V N (d + 1) mm_M_isOne 5 x0 [.int x1, .int x2] h Q := ⟨hb, sm_meth (by decide +kernel) (fun _ => Nat.le_of_ble_eq_true rfl) (fun _ => rfl) (kM_isOne_0 hf)⟩
def fM_same_0 (N d : Nat) (h : sm_H) (Q : Option Value → sm_H → Prop) (x0 : Nat) (x1 : Int32) (x2 : Int32) : Prop := sm_V N d mm_M_isOne 5 x0 [.int x1, .int x2] h (fun r2 h1 => ∃ z3 : Int32, r2 = some (.int z3) ∧ ((z3 = 0 → Q (some (.int 0)) h1) ∧ (¬ z3 = 0 → ∃ z4 : Nat, sm_g h1 x0 5 16 = some (.ref z4) ∧ ∃ z5 : Nat, sm_g h1 x0 5 13 = some (.ref z5) ∧ ∃ z6 : Int32, sm_gi h1 z5 1 x1 = some z6 ∧ ∃ h7, sm_pi h1 z4 0 z6 = some h7 ∧ ∃ z8 : Nat, sm_g h7 x0 5 18 = some (.ref z8) ∧ ∃ z9 : Nat, sm_g h7 x0 5 13 = some (.ref z9) ∧ ∃ z10 : Int32, sm_gi h7 z9 1 x2 = some z10 ∧ ∃ h11, sm_pi h7 z8 0 z10 = some h11 ∧ ∃ z12 : Nat, sm_g h11 x0 5 17 = some (.ref z12) ∧ ∃ z13 : Nat, sm_g h11 x0 5 7 = some (.ref z13) ∧ ∃ z14 : Int32, sm_gi h11 z13 1 x1 = some z14 ∧ ∃ h15, sm_pi h11 z12 0 z14 = some h15 ∧ sm_W N (d + 1) mm_M_same 49 [(0, .ref x0), (3, .int 1)] [] h15 Q)))
set_option maxRecDepth 20000 in
set_option maxHeartbeats 4000000 in
theorem kM_same_0 {N d : Nat} {h : sm_H} {Q : Option Value → sm_H → Prop} {x0 : Nat} {x1 : Int32} {x2 : Int32} (hf : fM_same_0 N d h Q x0 x1 x2) : sm_W N (d + 1) mm_M_same 0 [(0, .ref x0), (1, .int x1), (2, .int x2)] [] h Q := by
  unfold fM_same_0 at hf
  refine sm_aload_n (k := 0) 1 0 (by decide +kernel) rfl rfl rfl ?_
  refine sm_iload_n (k := 1) 2 1 (by decide +kernel) rfl rfl rfl ?_
  refine sm_iload_n (k := 2) 3 2 (by decide +kernel) rfl rfl rfl ?_
  refine sm_callV (M2 := mm_M_isOne) (av := [.int x1, .int x2]) (rest := []) 6 (by decide +kernel) ml_M_176 (Nat.le_refl _) rfl rfl (by first | exact Nat.le_of_ble_eq_true rfl | simp [sm_rfc, Value.category]) rfl hf ?_
  rintro r2 h1 ⟨z3, rfl, hf⟩
  change sm_W N (d + 1) mm_M_same 6 [(0, .ref x0), (1, .int x1), (2, .int x2)] [.int z3] h1 Q
  refine sm_if_ne (off := 5) 9 11 (by decide +kernel) (by decide) rfl (fun q16 => ?_) (fun q16 => ?_)
  · have hf := hf.2 q16
    refine sm_iconst (i := 1) (x := 1) 12 (by decide +kernel) rfl rfl ?_
    refine sm_istore_n (k := 3) 13 [(3, .int 1), (0, .ref x0), (1, .int x1), (2, .int x2)] (by decide +kernel) rfl (by decide) (by first | rfl | simp [sm_rfc]) rfl ?_
    refine sm_aload_n (k := 0) 14 1 (by decide +kernel) rfl rfl rfl ?_
    obtain ⟨z4, ez4, hf⟩ := hf
    refine sm_get 17 (by decide +kernel) fl_M_49 ez4 rfl ?_
    refine sm_iconst (i := 0) (x := 0) 18 (by decide +kernel) rfl rfl ?_
    refine sm_aload_n (k := 0) 19 1 (by decide +kernel) rfl rfl rfl ?_
    obtain ⟨z5, ez5, hf⟩ := hf
    refine sm_get 22 (by decide +kernel) fl_M_40 ez5 rfl ?_
    refine sm_iload_n (k := 1) 23 2 (by decide +kernel) rfl rfl rfl ?_
    obtain ⟨z6, ez6, hf⟩ := hf
    refine sm_iald 24 (by decide +kernel) ez6 rfl ?_
    obtain ⟨h7, eh7, hf⟩ := hf
    refine sm_iast 25 (by decide +kernel) eh7 rfl ?_
    refine sm_aload_n (k := 0) 26 1 (by decide +kernel) rfl rfl rfl ?_
    obtain ⟨z8, ez8, hf⟩ := hf
    refine sm_get 29 (by decide +kernel) fl_M_55 ez8 rfl ?_
    refine sm_iconst (i := 0) (x := 0) 30 (by decide +kernel) rfl rfl ?_
    refine sm_aload_n (k := 0) 31 1 (by decide +kernel) rfl rfl rfl ?_
    obtain ⟨z9, ez9, hf⟩ := hf
    refine sm_get 34 (by decide +kernel) fl_M_40 ez9 rfl ?_
    refine sm_iload_n (k := 2) 35 3 (by decide +kernel) rfl rfl rfl ?_
    obtain ⟨z10, ez10, hf⟩ := hf
    refine sm_iald 36 (by decide +kernel) ez10 rfl ?_
    obtain ⟨h11, eh11, hf⟩ := hf
    refine sm_iast 37 (by decide +kernel) eh11 rfl ?_
    refine sm_aload_n (k := 0) 38 1 (by decide +kernel) rfl rfl rfl ?_
    obtain ⟨z12, ez12, hf⟩ := hf
    refine sm_get 41 (by decide +kernel) fl_M_52 ez12 rfl ?_
    refine sm_iconst (i := 0) (x := 0) 42 (by decide +kernel) rfl rfl ?_
    refine sm_aload_n (k := 0) 43 1 (by decide +kernel) rfl rfl rfl ?_
    obtain ⟨z13, ez13, hf⟩ := hf
    refine sm_get 46 (by decide +kernel) fl_M_20 ez13 rfl ?_
    refine sm_iload_n (k := 1) 47 2 (by decide +kernel) rfl rfl rfl ?_
    obtain ⟨z14, ez14, hf⟩ := hf
    refine sm_iald 48 (by decide +kernel) ez14 rfl ?_
    obtain ⟨h15, eh15, hf⟩ := hf
    refine sm_iast 49 (by decide +kernel) eh15 rfl ?_
    exact sm_sub [1, 0] rfl hf
  · have hf := hf.1 q16
    refine sm_iconst (i := 0) (x := 0) 10 (by decide +kernel) rfl rfl ?_
    exact sm_zret rfl (by decide +kernel) (by decide) hf
def fM_same_49 (N d : Nat) (h : sm_H) (Q : Option Value → sm_H → Prop) (x0 : Nat) (x3 : Int32) : Prop := ((x3 ≤ 0 → Q (some (.int 1)) h) ∧ (¬ x3 ≤ 0 → ∃ z1 : Nat, sm_g h x0 5 16 = some (.ref z1) ∧ ∃ z2 : Int32, sm_gi h z1 1 (x3 - 1) = some z2 ∧ ∃ z3 : Nat, sm_g h x0 5 18 = some (.ref z3) ∧ ∃ z4 : Int32, sm_gi h z3 1 (x3 - 1) = some z4 ∧ ((z2 < 0 → sm_W N (d + 1) mm_M_same 86 [(0, .ref x0), (3, .int x3), (5, .int z2), (6, .int z4)] [] h Q) ∧ (¬ z2 < 0 → ((0 ≤ z4 → sm_V N d mm_M_isOne 5 x0 [.int z2, .int z4] h (fun r6 h5 => ∃ z7 : Int32, r6 = some (.int z7) ∧ ((z7 = 0 → Q (some (.int 0)) h5) ∧ (¬ z7 = 0 → ∃ z8 : Nat, sm_g h5 x0 5 17 = some (.ref z8) ∧ ∃ z9 : Int32, sm_gi h5 z8 1 (x3 - 1) = some z9 ∧ ((z9 = 3 → ∃ z10 : Nat, sm_g h5 x0 5 8 = some (.ref z10) ∧ ∃ z11 : Int32, sm_gi h5 z10 1 z2 = some z11 ∧ ∃ z12 : Nat, sm_g h5 x0 5 9 = some (.ref z12) ∧ ∃ z13 : Int32, sm_gi h5 z12 1 z2 = some z13 ∧ ∃ z14 : Nat, sm_g h5 x0 5 8 = some (.ref z14) ∧ ∃ z15 : Int32, sm_gi h5 z14 1 z4 = some z15 ∧ ∃ z16 : Nat, sm_g h5 x0 5 9 = some (.ref z16) ∧ ∃ z17 : Int32, sm_gi h5 z16 1 z4 = some z17 ∧ sm_V N d mm_M_isAlike 5 x0 [.int z11, .int z13, .int z15, .int z17] h5 (fun r19 h18 => ∃ z20 : Int32, r19 = some (.int z20) ∧ ((z20 = 0 → Q (some (.int 0)) h18) ∧ (¬ z20 = 0 → sm_W N (d + 1) mm_M_same 160 [(0, .ref x0), (3, .int x3), (4, .int (x3 - 1)), (5, .int z2), (6, .int z4)] [] h18 Q)))) ∧ (¬ z9 = 3 → sm_W N (d + 1) mm_M_same 160 [(0, .ref x0), (3, .int x3), (4, .int (x3 - 1)), (5, .int z2), (6, .int z4)] [] h5 Q)))))) ∧ (¬ 0 ≤ z4 → sm_W N (d + 1) mm_M_same 86 [(0, .ref x0), (3, .int x3), (5, .int z2), (6, .int z4)] [] h Q))))))
set_option maxRecDepth 20000 in
set_option maxHeartbeats 4000000 in
theorem kM_same_49 {N d : Nat} {h : sm_H} {Q : Option Value → sm_H → Prop} {x0 : Nat} {x3 : Int32} (hf : fM_same_49 N d h Q x0 x3) : sm_W N (d + 1) mm_M_same 49 [(0, .ref x0), (3, .int x3)] [] h Q := by
  unfold fM_same_49 at hf
  refine sm_iload_n (k := 3) 50 1 (by decide +kernel) rfl rfl rfl ?_
  refine sm_if_le (off := 183) 53 233 (by decide +kernel) (by decide) rfl (fun q26 => ?_) (fun q26 => ?_)
  · have hf := hf.1 q26
    refine sm_iconst (i := 1) (x := 1) 234 (by decide +kernel) rfl rfl ?_
    exact sm_zret rfl (by decide +kernel) (by decide) hf
  · have hf := hf.2 q26
    refine sm_iload_n (k := 3) 54 1 (by decide +kernel) rfl rfl rfl ?_
    refine sm_iconst (i := 1) (x := 1) 55 (by decide +kernel) rfl rfl ?_
    refine sm_isub 56 (by decide +kernel) rfl ?_
    refine sm_istore (i := 4) 58 [(4, .int (x3 - 1)), (0, .ref x0), (3, .int x3)] (by decide +kernel) (by decide) (by first | rfl | simp [sm_rfc]) rfl ?_
    refine sm_aload_n (k := 0) 59 1 (by decide +kernel) rfl rfl rfl ?_
    obtain ⟨z1, ez1, hf⟩ := hf
    refine sm_get 62 (by decide +kernel) fl_M_49 ez1 rfl ?_
    refine sm_iload (i := 4) 64 0 (by decide +kernel) rfl rfl ?_
    obtain ⟨z2, ez2, hf⟩ := hf
    refine sm_iald 65 (by decide +kernel) ez2 rfl ?_
    refine sm_istore (i := 5) 67 [(5, .int z2), (4, .int (x3 - 1)), (0, .ref x0), (3, .int x3)] (by decide +kernel) (by decide) (by first | rfl | simp [sm_rfc]) rfl ?_
    refine sm_aload_n (k := 0) 68 2 (by decide +kernel) rfl rfl rfl ?_
    obtain ⟨z3, ez3, hf⟩ := hf
    refine sm_get 71 (by decide +kernel) fl_M_55 ez3 rfl ?_
    refine sm_iload (i := 4) 73 1 (by decide +kernel) rfl rfl ?_
    obtain ⟨z4, ez4, hf⟩ := hf
    refine sm_iald 74 (by decide +kernel) ez4 rfl ?_
    refine sm_istore (i := 6) 76 [(6, .int z4), (5, .int z2), (4, .int (x3 - 1)), (0, .ref x0), (3, .int x3)] (by decide +kernel) (by decide) (by first | rfl | simp [sm_rfc]) rfl ?_
    refine sm_iload (i := 5) 78 1 (by decide +kernel) rfl rfl ?_
    refine sm_if_lt (off := 8) 81 86 (by decide +kernel) (by decide) rfl (fun q25 => ?_) (fun q25 => ?_)
    · have hf := hf.1 q25
      exact sm_sub [3, 4, 1, 0] rfl hf
    · have hf := hf.2 q25
      refine sm_iload (i := 6) 83 0 (by decide +kernel) rfl rfl ?_
      refine sm_if_ge (off := 18) 86 101 (by decide +kernel) (by decide) rfl (fun q24 => ?_) (fun q24 => ?_)
      · have hf := hf.1 q24
        refine sm_aload_n (k := 0) 102 3 (by decide +kernel) rfl rfl rfl ?_
        refine sm_iload (i := 5) 104 1 (by decide +kernel) rfl rfl ?_
        refine sm_iload (i := 6) 106 0 (by decide +kernel) rfl rfl ?_
        refine sm_callV (M2 := mm_M_isOne) (av := [.int z2, .int z4]) (rest := []) 109 (by decide +kernel) ml_M_176 (Nat.le_refl _) rfl rfl (by first | exact Nat.le_of_ble_eq_true rfl | simp [sm_rfc, Value.category]) rfl hf ?_
        rintro r6 h5 ⟨z7, rfl, hf⟩
        change sm_W N (d + 1) mm_M_same 109 [(6, .int z4), (5, .int z2), (4, .int (x3 - 1)), (0, .ref x0), (3, .int x3)] [.int z7] h5 Q
        refine sm_if_eq (off := 49) 112 158 (by decide +kernel) (by decide) rfl (fun q23 => ?_) (fun q23 => ?_)
        · have hf := hf.1 q23
          refine sm_iconst (i := 0) (x := 0) 159 (by decide +kernel) rfl rfl ?_
          exact sm_zret rfl (by decide +kernel) (by decide) hf
        · have hf := hf.2 q23
          refine sm_aload_n (k := 0) 113 3 (by decide +kernel) rfl rfl rfl ?_
          obtain ⟨z8, ez8, hf⟩ := hf
          refine sm_get 116 (by decide +kernel) fl_M_52 ez8 rfl ?_
          refine sm_iload (i := 4) 118 2 (by decide +kernel) rfl rfl ?_
          obtain ⟨z9, ez9, hf⟩ := hf
          refine sm_iald 119 (by decide +kernel) ez9 rfl ?_
          refine sm_iconst (i := 3) (x := 3) 120 (by decide +kernel) rfl rfl ?_
          refine sm_icmp_ne (off := 40) 123 160 (by decide +kernel) (by decide) rfl (fun q22 => ?_) (fun q22 => ?_)
          · have hf := hf.2 q22
            exact sm_sub [3, 4, 2, 1, 0] rfl hf
          · have hf := hf.1 q22
            refine sm_aload_n (k := 0) 124 3 (by decide +kernel) rfl rfl rfl ?_
            refine sm_aload_n (k := 0) 125 3 (by decide +kernel) rfl rfl rfl ?_
            obtain ⟨z10, ez10, hf⟩ := hf
            refine sm_get 128 (by decide +kernel) fl_M_24 ez10 rfl ?_
            refine sm_iload (i := 5) 130 1 (by decide +kernel) rfl rfl ?_
            obtain ⟨z11, ez11, hf⟩ := hf
            refine sm_iald 131 (by decide +kernel) ez11 rfl ?_
            refine sm_aload_n (k := 0) 132 3 (by decide +kernel) rfl rfl rfl ?_
            obtain ⟨z12, ez12, hf⟩ := hf
            refine sm_get 135 (by decide +kernel) fl_M_27 ez12 rfl ?_
            refine sm_iload (i := 5) 137 1 (by decide +kernel) rfl rfl ?_
            obtain ⟨z13, ez13, hf⟩ := hf
            refine sm_iald 138 (by decide +kernel) ez13 rfl ?_
            refine sm_aload_n (k := 0) 139 3 (by decide +kernel) rfl rfl rfl ?_
            obtain ⟨z14, ez14, hf⟩ := hf
            refine sm_get 142 (by decide +kernel) fl_M_24 ez14 rfl ?_
            refine sm_iload (i := 6) 144 0 (by decide +kernel) rfl rfl ?_
            obtain ⟨z15, ez15, hf⟩ := hf
            refine sm_iald 145 (by decide +kernel) ez15 rfl ?_
            refine sm_aload_n (k := 0) 146 3 (by decide +kernel) rfl rfl rfl ?_
            obtain ⟨z16, ez16, hf⟩ := hf
            refine sm_get 149 (by decide +kernel) fl_M_27 ez16 rfl ?_
            refine sm_iload (i := 6) 151 0 (by decide +kernel) rfl rfl ?_
            obtain ⟨z17, ez17, hf⟩ := hf
            refine sm_iald 152 (by decide +kernel) ez17 rfl ?_
            refine sm_callV (M2 := mm_M_isAlike) (av := [.int z11, .int z13, .int z15, .int z17]) (rest := []) 155 (by decide +kernel) ml_M_97 (Nat.le_refl _) rfl rfl (by first | exact Nat.le_of_ble_eq_true rfl | simp [sm_rfc, Value.category]) rfl hf ?_
            rintro r19 h18 ⟨z20, rfl, hf⟩
            change sm_W N (d + 1) mm_M_same 155 [(6, .int z4), (5, .int z2), (4, .int (x3 - 1)), (0, .ref x0), (3, .int x3)] [.int z20] h18 Q
            refine sm_if_ne (off := 5) 158 160 (by decide +kernel) (by decide) rfl (fun q21 => ?_) (fun q21 => ?_)
            · have hf := hf.2 q21
              exact sm_sub [3, 4, 2, 1, 0] rfl hf
            · have hf := hf.1 q21
              refine sm_iconst (i := 0) (x := 0) 159 (by decide +kernel) rfl rfl ?_
              exact sm_zret rfl (by decide +kernel) (by decide) hf
      · have hf := hf.2 q24
        exact sm_sub [3, 4, 1, 0] rfl hf
def fM_same_86 (N d : Nat) (h : sm_H) (Q : Option Value → sm_H → Prop) (x0 : Nat) (x3 : Int32) (x5 : Int32) (x6 : Int32) : Prop := ((x5 = x6 → sm_W N (d + 1) mm_M_same 49 [(0, .ref x0), (3, .int (x3 + (-1)))] [] h Q) ∧ (¬ x5 = x6 → Q (some (.int 0)) h))
set_option maxRecDepth 20000 in
set_option maxHeartbeats 4000000 in
theorem kM_same_86 {N d : Nat} {h : sm_H} {Q : Option Value → sm_H → Prop} {x0 : Nat} {x3 : Int32} {x5 : Int32} {x6 : Int32} (hf : fM_same_86 N d h Q x0 x3 x5 x6) : sm_W N (d + 1) mm_M_same 86 [(0, .ref x0), (3, .int x3), (5, .int x5), (6, .int x6)] [] h Q := by
  unfold fM_same_86 at hf
  refine sm_iload (i := 5) 88 2 (by decide +kernel) rfl rfl ?_
  refine sm_iload (i := 6) 90 3 (by decide +kernel) rfl rfl ?_
  refine sm_icmp_eq (off := 5) 93 95 (by decide +kernel) (by decide) rfl (fun q1 => ?_) (fun q1 => ?_)
  · have hf := hf.1 q1
    refine sm_iinc (i := 3) (j := 1) (z := -1) (y := x3 + (-1)) 98 [(3, .int (x3 + (-1))), (0, .ref x0), (5, .int x5), (6, .int x6)] (by decide +kernel) rfl (by rfl) (by decide) rfl rfl ?_
    refine sm_goto (off := -49) 49 (by decide +kernel) (by decide) ?_
    exact sm_sub [1, 0] rfl hf
  · have hf := hf.2 q1
    refine sm_iconst (i := 0) (x := 0) 94 (by decide +kernel) rfl rfl ?_
    exact sm_zret rfl (by decide +kernel) (by decide) hf
def fM_same_160 (N d : Nat) (h : sm_H) (Q : Option Value → sm_H → Prop) (x0 : Nat) (x3 : Int32) (x4 : Int32) (x5 : Int32) (x6 : Int32) : Prop := ∃ z1 : Nat, sm_g h x0 5 16 = some (.ref z1) ∧ ∃ z2 : Nat, sm_g h x0 5 14 = some (.ref z2) ∧ ∃ z3 : Int32, sm_gi h z2 1 x5 = some z3 ∧ ∃ h4, sm_pi h z1 x4 z3 = some h4 ∧ ∃ z5 : Nat, sm_g h4 x0 5 18 = some (.ref z5) ∧ ∃ z6 : Nat, sm_g h4 x0 5 14 = some (.ref z6) ∧ ∃ z7 : Int32, sm_gi h4 z6 1 x6 = some z7 ∧ ∃ h8, sm_pi h4 z5 x4 z7 = some h8 ∧ ∃ z9 : Nat, sm_g h8 x0 5 16 = some (.ref z9) ∧ ∃ z10 : Nat, sm_g h8 x0 5 13 = some (.ref z10) ∧ ∃ z11 : Int32, sm_gi h8 z10 1 x5 = some z11 ∧ ∃ h12, sm_pi h8 z9 x3 z11 = some h12 ∧ ∃ z13 : Nat, sm_g h12 x0 5 18 = some (.ref z13) ∧ ∃ z14 : Nat, sm_g h12 x0 5 13 = some (.ref z14) ∧ ∃ z15 : Int32, sm_gi h12 z14 1 x6 = some z15 ∧ ∃ h16, sm_pi h12 z13 x3 z15 = some h16 ∧ ∃ z17 : Nat, sm_g h16 x0 5 17 = some (.ref z17) ∧ ∃ z18 : Nat, sm_g h16 x0 5 7 = some (.ref z18) ∧ ∃ z19 : Int32, sm_gi h16 z18 1 x5 = some z19 ∧ ∃ h20, sm_pi h16 z17 x3 z19 = some h20 ∧ sm_W N (d + 1) mm_M_same 49 [(0, .ref x0), (3, .int (x3 + 1))] [] h20 Q
set_option maxRecDepth 20000 in
set_option maxHeartbeats 4000000 in
theorem kM_same_160 {N d : Nat} {h : sm_H} {Q : Option Value → sm_H → Prop} {x0 : Nat} {x3 : Int32} {x4 : Int32} {x5 : Int32} {x6 : Int32} (hf : fM_same_160 N d h Q x0 x3 x4 x5 x6) : sm_W N (d + 1) mm_M_same 160 [(0, .ref x0), (3, .int x3), (4, .int x4), (5, .int x5), (6, .int x6)] [] h Q := by
  unfold fM_same_160 at hf
  refine sm_aload_n (k := 0) 161 0 (by decide +kernel) rfl rfl rfl ?_
  obtain ⟨z1, ez1, hf⟩ := hf
  refine sm_get 164 (by decide +kernel) fl_M_49 ez1 rfl ?_
  refine sm_iload (i := 4) 166 2 (by decide +kernel) rfl rfl ?_
  refine sm_aload_n (k := 0) 167 0 (by decide +kernel) rfl rfl rfl ?_
  obtain ⟨z2, ez2, hf⟩ := hf
  refine sm_get 170 (by decide +kernel) fl_M_43 ez2 rfl ?_
  refine sm_iload (i := 5) 172 3 (by decide +kernel) rfl rfl ?_
  obtain ⟨z3, ez3, hf⟩ := hf
  refine sm_iald 173 (by decide +kernel) ez3 rfl ?_
  obtain ⟨h4, eh4, hf⟩ := hf
  refine sm_iast 174 (by decide +kernel) eh4 rfl ?_
  refine sm_aload_n (k := 0) 175 0 (by decide +kernel) rfl rfl rfl ?_
  obtain ⟨z5, ez5, hf⟩ := hf
  refine sm_get 178 (by decide +kernel) fl_M_55 ez5 rfl ?_
  refine sm_iload (i := 4) 180 2 (by decide +kernel) rfl rfl ?_
  refine sm_aload_n (k := 0) 181 0 (by decide +kernel) rfl rfl rfl ?_
  obtain ⟨z6, ez6, hf⟩ := hf
  refine sm_get 184 (by decide +kernel) fl_M_43 ez6 rfl ?_
  refine sm_iload (i := 6) 186 4 (by decide +kernel) rfl rfl ?_
  obtain ⟨z7, ez7, hf⟩ := hf
  refine sm_iald 187 (by decide +kernel) ez7 rfl ?_
  obtain ⟨h8, eh8, hf⟩ := hf
  refine sm_iast 188 (by decide +kernel) eh8 rfl ?_
  refine sm_aload_n (k := 0) 189 0 (by decide +kernel) rfl rfl rfl ?_
  obtain ⟨z9, ez9, hf⟩ := hf
  refine sm_get 192 (by decide +kernel) fl_M_49 ez9 rfl ?_
  refine sm_iload_n (k := 3) 193 1 (by decide +kernel) rfl rfl rfl ?_
  refine sm_aload_n (k := 0) 194 0 (by decide +kernel) rfl rfl rfl ?_
  obtain ⟨z10, ez10, hf⟩ := hf
  refine sm_get 197 (by decide +kernel) fl_M_40 ez10 rfl ?_
  refine sm_iload (i := 5) 199 3 (by decide +kernel) rfl rfl ?_
  obtain ⟨z11, ez11, hf⟩ := hf
  refine sm_iald 200 (by decide +kernel) ez11 rfl ?_
  obtain ⟨h12, eh12, hf⟩ := hf
  refine sm_iast 201 (by decide +kernel) eh12 rfl ?_
  refine sm_aload_n (k := 0) 202 0 (by decide +kernel) rfl rfl rfl ?_
  obtain ⟨z13, ez13, hf⟩ := hf
  refine sm_get 205 (by decide +kernel) fl_M_55 ez13 rfl ?_
  refine sm_iload_n (k := 3) 206 1 (by decide +kernel) rfl rfl rfl ?_
  refine sm_aload_n (k := 0) 207 0 (by decide +kernel) rfl rfl rfl ?_
  obtain ⟨z14, ez14, hf⟩ := hf
  refine sm_get 210 (by decide +kernel) fl_M_40 ez14 rfl ?_
  refine sm_iload (i := 6) 212 4 (by decide +kernel) rfl rfl ?_
  obtain ⟨z15, ez15, hf⟩ := hf
  refine sm_iald 213 (by decide +kernel) ez15 rfl ?_
  obtain ⟨h16, eh16, hf⟩ := hf
  refine sm_iast 214 (by decide +kernel) eh16 rfl ?_
  refine sm_aload_n (k := 0) 215 0 (by decide +kernel) rfl rfl rfl ?_
  obtain ⟨z17, ez17, hf⟩ := hf
  refine sm_get 218 (by decide +kernel) fl_M_52 ez17 rfl ?_
  refine sm_iload_n (k := 3) 219 1 (by decide +kernel) rfl rfl rfl ?_
  refine sm_aload_n (k := 0) 220 0 (by decide +kernel) rfl rfl rfl ?_
  obtain ⟨z18, ez18, hf⟩ := hf
  refine sm_get 223 (by decide +kernel) fl_M_20 ez18 rfl ?_
  refine sm_iload (i := 5) 225 3 (by decide +kernel) rfl rfl ?_
  obtain ⟨z19, ez19, hf⟩ := hf
  refine sm_iald 226 (by decide +kernel) ez19 rfl ?_
  obtain ⟨h20, eh20, hf⟩ := hf
  refine sm_iast 227 (by decide +kernel) eh20 rfl ?_
  refine sm_iinc (i := 3) (j := 1) (z := 1) (y := x3 + 1) 230 [(3, .int (x3 + 1)), (0, .ref x0), (4, .int x4), (5, .int x5), (6, .int x6)] (by decide +kernel) rfl (by rfl) (by decide) rfl rfl ?_
  refine sm_goto (off := -181) 49 (by decide +kernel) (by decide) ?_
  exact sm_sub [1, 0] rfl hf
theorem cM_same {N d : Nat} {h : sm_H} {Q : Option Value → sm_H → Prop} {x0 : Nat} {x1 : Int32} {x2 : Int32} (hb : ∃ fs, h[x0]? = some (.inr (5, fs))) (hf : fM_same_0 N d h Q x0 x1 x2) : sm_V N (d + 1) mm_M_same 5 x0 [.int x1, .int x2] h Q := ⟨hb, sm_meth (by decide +kernel) (fun _ => Nat.le_of_ble_eq_true rfl) (fun _ => rfl) (kM_same_0 hf)⟩
def fM_isNamed_0 (N d : Nat) (h : sm_H) (Q : Option Value → sm_H → Prop) (x0 : Nat) (x1 : Int32) (x2 : Int32) (x3 : Int32) (x4 : Int32) (x5 : Int32) (x6 : Int32) : Prop := ∃ z1 : Nat, sm_g h x0 5 8 = some (.ref z1) ∧ ∃ z2 : Int32, sm_gi h z1 1 x1 = some z2 ∧ ((x6 ≤ 0 → ((x5 ≤ 0 → sm_W N (d + 1) mm_M_isNamed 27 [(0, .ref x0), (1, .int x1), (2, .int x2), (3, .int x3), (4, .int x4), (5, .int x5), (6, .int x6), (7, .int z2)] [.int 3] h Q) ∧ (¬ x5 ≤ 0 → sm_W N (d + 1) mm_M_isNamed 27 [(0, .ref x0), (1, .int x1), (2, .int x2), (3, .int x3), (4, .int x4), (5, .int x5), (6, .int x6), (7, .int z2)] [.int 4] h Q))) ∧ (¬ x6 ≤ 0 → sm_W N (d + 1) mm_M_isNamed 27 [(0, .ref x0), (1, .int x1), (2, .int x2), (3, .int x3), (4, .int x4), (5, .int x5), (6, .int x6), (7, .int z2)] [.int 5] h Q))
set_option maxRecDepth 20000 in
set_option maxHeartbeats 4000000 in
theorem kM_isNamed_0 {N d : Nat} {h : sm_H} {Q : Option Value → sm_H → Prop} {x0 : Nat} {x1 : Int32} {x2 : Int32} {x3 : Int32} {x4 : Int32} {x5 : Int32} {x6 : Int32} (hf : fM_isNamed_0 N d h Q x0 x1 x2 x3 x4 x5 x6) : sm_W N (d + 1) mm_M_isNamed 0 [(0, .ref x0), (1, .int x1), (2, .int x2), (3, .int x3), (4, .int x4), (5, .int x5), (6, .int x6)] [] h Q := by
  unfold fM_isNamed_0 at hf
  refine sm_aload_n (k := 0) 1 0 (by decide +kernel) rfl rfl rfl ?_
  obtain ⟨z1, ez1, hf⟩ := hf
  refine sm_get 4 (by decide +kernel) fl_M_24 ez1 rfl ?_
  refine sm_iload_n (k := 1) 5 1 (by decide +kernel) rfl rfl rfl ?_
  obtain ⟨z2, ez2, hf⟩ := hf
  refine sm_iald 6 (by decide +kernel) ez2 rfl ?_
  refine sm_istore (i := 7) 8 [(7, .int z2), (0, .ref x0), (1, .int x1), (2, .int x2), (3, .int x3), (4, .int x4), (5, .int x5), (6, .int x6)] (by decide +kernel) (by decide) (by first | rfl | simp [sm_rfc]) rfl ?_
  refine sm_iload (i := 6) 10 7 (by decide +kernel) rfl rfl ?_
  refine sm_if_le (off := 7) 13 17 (by decide +kernel) (by decide) rfl (fun q4 => ?_) (fun q4 => ?_)
  · have hf := hf.1 q4
    refine sm_iload (i := 5) 19 6 (by decide +kernel) rfl rfl ?_
    refine sm_if_le (off := 7) 22 26 (by decide +kernel) (by decide) rfl (fun q3 => ?_) (fun q3 => ?_)
    · have hf := hf.1 q3
      refine sm_iconst (i := 3) (x := 3) 27 (by decide +kernel) rfl rfl ?_
      exact sm_sub [1, 2, 3, 4, 5, 6, 7, 0] rfl hf
    · have hf := hf.2 q3
      refine sm_iconst (i := 4) (x := 4) 23 (by decide +kernel) rfl rfl ?_
      refine sm_goto (off := 4) 27 (by decide +kernel) (by decide) ?_
      exact sm_sub [1, 2, 3, 4, 5, 6, 7, 0] rfl hf
  · have hf := hf.2 q4
    refine sm_iconst (i := 5) (x := 5) 14 (by decide +kernel) rfl rfl ?_
    refine sm_goto (off := 13) 27 (by decide +kernel) (by decide) ?_
    exact sm_sub [1, 2, 3, 4, 5, 6, 7, 0] rfl hf
def fM_isNamed_27 (N d : Nat) (h : sm_H) (Q : Option Value → sm_H → Prop) (x0 : Nat) (x1 : Int32) (x2 : Int32) (x3 : Int32) (x4 : Int32) (x5 : Int32) (x6 : Int32) (x7 : Int32) (y0 : Int32) : Prop := ∃ z1 : Nat, sm_g h x0 5 9 = some (.ref z1) ∧ ∃ z2 : Int32, sm_gi h z1 1 x1 = some z2 ∧ ((z2 = (y0 + 1) → sm_V N d mm_M_at 5 x0 [.int x7] h (fun r4 h3 => ∃ z5 : Int32, r4 = some (.int z5) ∧ ((z5 = 36 → sm_V N d mm_M_at 5 x0 [.int (x7 + 1)] h3 (fun r7 h6 => ∃ z8 : Int32, r7 = some (.int z8) ∧ ((z8 = x2 → sm_V N d mm_M_at 5 x0 [.int (x7 + 2)] h6 (fun r10 h9 => ∃ z11 : Int32, r10 = some (.int z11) ∧ ((z11 = x3 → sm_V N d mm_M_at 5 x0 [.int (x7 + 3)] h9 (fun r13 h12 => ∃ z14 : Int32, r13 = some (.int z14) ∧ ((z14 = x4 → sm_W N (d + 1) mm_M_isNamed 95 [(0, .ref x0), (5, .int x5), (6, .int x6), (7, .int x7)] [.int 1] h12 Q) ∧ (¬ z14 = x4 → sm_W N (d + 1) mm_M_isNamed 94 [(0, .ref x0), (5, .int x5), (6, .int x6), (7, .int x7)] [] h12 Q)))) ∧ (¬ z11 = x3 → sm_W N (d + 1) mm_M_isNamed 94 [(0, .ref x0), (5, .int x5), (6, .int x6), (7, .int x7)] [] h9 Q)))) ∧ (¬ z8 = x2 → sm_W N (d + 1) mm_M_isNamed 94 [(0, .ref x0), (5, .int x5), (6, .int x6), (7, .int x7)] [] h6 Q)))) ∧ (¬ z5 = 36 → sm_W N (d + 1) mm_M_isNamed 94 [(0, .ref x0), (5, .int x5), (6, .int x6), (7, .int x7)] [] h3 Q)))) ∧ (¬ z2 = (y0 + 1) → sm_W N (d + 1) mm_M_isNamed 94 [(0, .ref x0), (5, .int x5), (6, .int x6), (7, .int x7)] [] h Q))
set_option maxRecDepth 20000 in
set_option maxHeartbeats 4000000 in
theorem kM_isNamed_27 {N d : Nat} {h : sm_H} {Q : Option Value → sm_H → Prop} {x0 : Nat} {x1 : Int32} {x2 : Int32} {x3 : Int32} {x4 : Int32} {x5 : Int32} {x6 : Int32} {x7 : Int32} {y0 : Int32} (hf : fM_isNamed_27 N d h Q x0 x1 x2 x3 x4 x5 x6 x7 y0) : sm_W N (d + 1) mm_M_isNamed 27 [(0, .ref x0), (1, .int x1), (2, .int x2), (3, .int x3), (4, .int x4), (5, .int x5), (6, .int x6), (7, .int x7)] [.int y0] h Q := by
  unfold fM_isNamed_27 at hf
  refine sm_istore (i := 8) 29 [(8, .int y0), (0, .ref x0), (1, .int x1), (2, .int x2), (3, .int x3), (4, .int x4), (5, .int x5), (6, .int x6), (7, .int x7)] (by decide +kernel) (by decide) (by first | rfl | simp [sm_rfc]) rfl ?_
  refine sm_aload_n (k := 0) 30 1 (by decide +kernel) rfl rfl rfl ?_
  obtain ⟨z1, ez1, hf⟩ := hf
  refine sm_get 33 (by decide +kernel) fl_M_27 ez1 rfl ?_
  refine sm_iload_n (k := 1) 34 2 (by decide +kernel) rfl rfl rfl ?_
  obtain ⟨z2, ez2, hf⟩ := hf
  refine sm_iald 35 (by decide +kernel) ez2 rfl ?_
  refine sm_iload (i := 8) 37 0 (by decide +kernel) rfl rfl ?_
  refine sm_iconst (i := 1) (x := 1) 38 (by decide +kernel) rfl rfl ?_
  refine sm_iadd 39 (by decide +kernel) rfl ?_
  refine sm_icmp_ne (off := 55) 42 94 (by decide +kernel) (by decide) rfl (fun q19 => ?_) (fun q19 => ?_)
  · have hf := hf.2 q19
    exact sm_sub [1, 6, 7, 8] rfl hf
  · have hf := hf.1 q19
    refine sm_aload_n (k := 0) 43 1 (by decide +kernel) rfl rfl rfl ?_
    refine sm_iload (i := 7) 45 8 (by decide +kernel) rfl rfl ?_
    refine sm_callV (M2 := mm_M_at) (av := [.int x7]) (rest := []) 48 (by decide +kernel) ml_M_73 (Nat.le_refl _) rfl rfl (by first | exact Nat.le_of_ble_eq_true rfl | simp [sm_rfc, Value.category]) rfl hf ?_
    rintro r4 h3 ⟨z5, rfl, hf⟩
    change sm_W N (d + 1) mm_M_isNamed 48 [(8, .int y0), (0, .ref x0), (1, .int x1), (2, .int x2), (3, .int x3), (4, .int x4), (5, .int x5), (6, .int x6), (7, .int x7)] [.int z5] h3 Q
    refine sm_bipush (i := 36) (x := 36) 50 (by decide +kernel) (by decide) rfl ?_
    refine sm_icmp_ne (off := 44) 53 94 (by decide +kernel) (by decide) rfl (fun q18 => ?_) (fun q18 => ?_)
    · have hf := hf.2 q18
      exact sm_sub [1, 6, 7, 8] rfl hf
    · have hf := hf.1 q18
      refine sm_aload_n (k := 0) 54 1 (by decide +kernel) rfl rfl rfl ?_
      refine sm_iload (i := 7) 56 8 (by decide +kernel) rfl rfl ?_
      refine sm_iconst (i := 1) (x := 1) 57 (by decide +kernel) rfl rfl ?_
      refine sm_iadd 58 (by decide +kernel) rfl ?_
      refine sm_callV (M2 := mm_M_at) (av := [.int (x7 + 1)]) (rest := []) 61 (by decide +kernel) ml_M_73 (Nat.le_refl _) rfl rfl (by first | exact Nat.le_of_ble_eq_true rfl | simp [sm_rfc, Value.category]) rfl hf ?_
      rintro r7 h6 ⟨z8, rfl, hf⟩
      change sm_W N (d + 1) mm_M_isNamed 61 [(8, .int y0), (0, .ref x0), (1, .int x1), (2, .int x2), (3, .int x3), (4, .int x4), (5, .int x5), (6, .int x6), (7, .int x7)] [.int z8] h6 Q
      refine sm_iload_n (k := 2) 62 3 (by decide +kernel) rfl rfl rfl ?_
      refine sm_icmp_ne (off := 32) 65 94 (by decide +kernel) (by decide) rfl (fun q17 => ?_) (fun q17 => ?_)
      · have hf := hf.2 q17
        exact sm_sub [1, 6, 7, 8] rfl hf
      · have hf := hf.1 q17
        refine sm_aload_n (k := 0) 66 1 (by decide +kernel) rfl rfl rfl ?_
        refine sm_iload (i := 7) 68 8 (by decide +kernel) rfl rfl ?_
        refine sm_iconst (i := 2) (x := 2) 69 (by decide +kernel) rfl rfl ?_
        refine sm_iadd 70 (by decide +kernel) rfl ?_
        refine sm_callV (M2 := mm_M_at) (av := [.int (x7 + 2)]) (rest := []) 73 (by decide +kernel) ml_M_73 (Nat.le_refl _) rfl rfl (by first | exact Nat.le_of_ble_eq_true rfl | simp [sm_rfc, Value.category]) rfl hf ?_
        rintro r10 h9 ⟨z11, rfl, hf⟩
        change sm_W N (d + 1) mm_M_isNamed 73 [(8, .int y0), (0, .ref x0), (1, .int x1), (2, .int x2), (3, .int x3), (4, .int x4), (5, .int x5), (6, .int x6), (7, .int x7)] [.int z11] h9 Q
        refine sm_iload_n (k := 3) 74 4 (by decide +kernel) rfl rfl rfl ?_
        refine sm_icmp_ne (off := 20) 77 94 (by decide +kernel) (by decide) rfl (fun q16 => ?_) (fun q16 => ?_)
        · have hf := hf.2 q16
          exact sm_sub [1, 6, 7, 8] rfl hf
        · have hf := hf.1 q16
          refine sm_aload_n (k := 0) 78 1 (by decide +kernel) rfl rfl rfl ?_
          refine sm_iload (i := 7) 80 8 (by decide +kernel) rfl rfl ?_
          refine sm_iconst (i := 3) (x := 3) 81 (by decide +kernel) rfl rfl ?_
          refine sm_iadd 82 (by decide +kernel) rfl ?_
          refine sm_callV (M2 := mm_M_at) (av := [.int (x7 + 3)]) (rest := []) 85 (by decide +kernel) ml_M_73 (Nat.le_refl _) rfl rfl (by first | exact Nat.le_of_ble_eq_true rfl | simp [sm_rfc, Value.category]) rfl hf ?_
          rintro r13 h12 ⟨z14, rfl, hf⟩
          change sm_W N (d + 1) mm_M_isNamed 85 [(8, .int y0), (0, .ref x0), (1, .int x1), (2, .int x2), (3, .int x3), (4, .int x4), (5, .int x5), (6, .int x6), (7, .int x7)] [.int z14] h12 Q
          refine sm_iload (i := 4) 87 5 (by decide +kernel) rfl rfl ?_
          refine sm_icmp_ne (off := 7) 90 94 (by decide +kernel) (by decide) rfl (fun q15 => ?_) (fun q15 => ?_)
          · have hf := hf.2 q15
            exact sm_sub [1, 6, 7, 8] rfl hf
          · have hf := hf.1 q15
            refine sm_iconst (i := 1) (x := 1) 91 (by decide +kernel) rfl rfl ?_
            refine sm_goto (off := 4) 95 (by decide +kernel) (by decide) ?_
            exact sm_sub [1, 6, 7, 8] rfl hf
def fM_isNamed_94 (N d : Nat) (h : sm_H) (Q : Option Value → sm_H → Prop) (x0 : Nat) (x5 : Int32) (x6 : Int32) (x7 : Int32) : Prop := sm_W N (d + 1) mm_M_isNamed 95 [(0, .ref x0), (5, .int x5), (6, .int x6), (7, .int x7)] [.int 0] h Q
set_option maxRecDepth 20000 in
set_option maxHeartbeats 4000000 in
theorem kM_isNamed_94 {N d : Nat} {h : sm_H} {Q : Option Value → sm_H → Prop} {x0 : Nat} {x5 : Int32} {x6 : Int32} {x7 : Int32} (hf : fM_isNamed_94 N d h Q x0 x5 x6 x7) : sm_W N (d + 1) mm_M_isNamed 94 [(0, .ref x0), (5, .int x5), (6, .int x6), (7, .int x7)] [] h Q := by
  unfold fM_isNamed_94 at hf
  refine sm_iconst (i := 0) (x := 0) 95 (by decide +kernel) rfl rfl ?_
  exact sm_sub [0, 1, 2, 3] rfl hf
def fM_isNamed_95 (N d : Nat) (h : sm_H) (Q : Option Value → sm_H → Prop) (x0 : Nat) (x5 : Int32) (x6 : Int32) (x7 : Int32) (y0 : Int32) : Prop := ((y0 = 0 → Q (some (.int 0)) h) ∧ (¬ y0 = 0 → ((x5 = 0 → sm_W N (d + 1) mm_M_isNamed 120 [(0, .ref x0), (6, .int x6), (7, .int x7)] [] h Q) ∧ (¬ x5 = 0 → sm_V N d mm_M_at 5 x0 [.int (x7 + 4)] h (fun r2 h1 => ∃ z3 : Int32, r2 = some (.int z3) ∧ ((z3 = x5 → sm_W N (d + 1) mm_M_isNamed 120 [(0, .ref x0), (6, .int x6), (7, .int x7)] [] h1 Q) ∧ (¬ z3 = x5 → Q (some (.int 0)) h1)))))))
set_option maxRecDepth 20000 in
set_option maxHeartbeats 4000000 in
theorem kM_isNamed_95 {N d : Nat} {h : sm_H} {Q : Option Value → sm_H → Prop} {x0 : Nat} {x5 : Int32} {x6 : Int32} {x7 : Int32} {y0 : Int32} (hf : fM_isNamed_95 N d h Q x0 x5 x6 x7 y0) : sm_W N (d + 1) mm_M_isNamed 95 [(0, .ref x0), (5, .int x5), (6, .int x6), (7, .int x7)] [.int y0] h Q := by
  unfold fM_isNamed_95 at hf
  refine sm_istore (i := 9) 97 [(9, .int y0), (0, .ref x0), (5, .int x5), (6, .int x6), (7, .int x7)] (by decide +kernel) (by decide) (by first | rfl | simp [sm_rfc]) rfl ?_
  refine sm_iload (i := 9) 99 0 (by decide +kernel) rfl rfl ?_
  refine sm_if_eq (off := 43) 102 142 (by decide +kernel) (by decide) rfl (fun q6 => ?_) (fun q6 => ?_)
  · have hf := hf.1 q6
    refine sm_iconst (i := 0) (x := 0) 143 (by decide +kernel) rfl rfl ?_
    exact sm_zret rfl (by decide +kernel) (by decide) hf
  · have hf := hf.2 q6
    refine sm_iload (i := 5) 104 2 (by decide +kernel) rfl rfl ?_
    refine sm_if_eq (off := 16) 107 120 (by decide +kernel) (by decide) rfl (fun q5 => ?_) (fun q5 => ?_)
    · have hf := hf.1 q5
      exact sm_sub [1, 3, 4] rfl hf
    · have hf := hf.2 q5
      refine sm_aload_n (k := 0) 108 1 (by decide +kernel) rfl rfl rfl ?_
      refine sm_iload (i := 7) 110 4 (by decide +kernel) rfl rfl ?_
      refine sm_iconst (i := 4) (x := 4) 111 (by decide +kernel) rfl rfl ?_
      refine sm_iadd 112 (by decide +kernel) rfl ?_
      refine sm_callV (M2 := mm_M_at) (av := [.int (x7 + 4)]) (rest := []) 115 (by decide +kernel) ml_M_73 (Nat.le_refl _) rfl rfl (by first | exact Nat.le_of_ble_eq_true rfl | simp [sm_rfc, Value.category]) rfl hf ?_
      rintro r2 h1 ⟨z3, rfl, hf⟩
      change sm_W N (d + 1) mm_M_isNamed 115 [(9, .int y0), (0, .ref x0), (5, .int x5), (6, .int x6), (7, .int x7)] [.int z3] h1 Q
      refine sm_iload (i := 5) 117 2 (by decide +kernel) rfl rfl ?_
      refine sm_icmp_ne (off := 25) 120 142 (by decide +kernel) (by decide) rfl (fun q4 => ?_) (fun q4 => ?_)
      · have hf := hf.2 q4
        refine sm_iconst (i := 0) (x := 0) 143 (by decide +kernel) rfl rfl ?_
        exact sm_zret rfl (by decide +kernel) (by decide) hf
      · have hf := hf.1 q4
        exact sm_sub [1, 3, 4] rfl hf
def fM_isNamed_120 (N d : Nat) (h : sm_H) (Q : Option Value → sm_H → Prop) (x0 : Nat) (x6 : Int32) (x7 : Int32) : Prop := ((x6 = 0 → sm_W N (d + 1) mm_M_isNamed 138 [] [] h Q) ∧ (¬ x6 = 0 → sm_V N d mm_M_at 5 x0 [.int (x7 + 5)] h (fun r2 h1 => ∃ z3 : Int32, r2 = some (.int z3) ∧ ((z3 = x6 → sm_W N (d + 1) mm_M_isNamed 138 [] [] h1 Q) ∧ (¬ z3 = x6 → Q (some (.int 0)) h1)))))
set_option maxRecDepth 20000 in
set_option maxHeartbeats 4000000 in
theorem kM_isNamed_120 {N d : Nat} {h : sm_H} {Q : Option Value → sm_H → Prop} {x0 : Nat} {x6 : Int32} {x7 : Int32} (hf : fM_isNamed_120 N d h Q x0 x6 x7) : sm_W N (d + 1) mm_M_isNamed 120 [(0, .ref x0), (6, .int x6), (7, .int x7)] [] h Q := by
  unfold fM_isNamed_120 at hf
  refine sm_iload (i := 6) 122 1 (by decide +kernel) rfl rfl ?_
  refine sm_if_eq (off := 16) 125 138 (by decide +kernel) (by decide) rfl (fun q5 => ?_) (fun q5 => ?_)
  · have hf := hf.1 q5
    exact sm_sub [] rfl hf
  · have hf := hf.2 q5
    refine sm_aload_n (k := 0) 126 0 (by decide +kernel) rfl rfl rfl ?_
    refine sm_iload (i := 7) 128 2 (by decide +kernel) rfl rfl ?_
    refine sm_iconst (i := 5) (x := 5) 129 (by decide +kernel) rfl rfl ?_
    refine sm_iadd 130 (by decide +kernel) rfl ?_
    refine sm_callV (M2 := mm_M_at) (av := [.int (x7 + 5)]) (rest := []) 133 (by decide +kernel) ml_M_73 (Nat.le_refl _) rfl rfl (by first | exact Nat.le_of_ble_eq_true rfl | simp [sm_rfc, Value.category]) rfl hf ?_
    rintro r2 h1 ⟨z3, rfl, hf⟩
    change sm_W N (d + 1) mm_M_isNamed 133 [(0, .ref x0), (6, .int x6), (7, .int x7)] [.int z3] h1 Q
    refine sm_iload (i := 6) 135 1 (by decide +kernel) rfl rfl ?_
    refine sm_icmp_ne (off := 7) 138 142 (by decide +kernel) (by decide) rfl (fun q4 => ?_) (fun q4 => ?_)
    · have hf := hf.2 q4
      refine sm_iconst (i := 0) (x := 0) 143 (by decide +kernel) rfl rfl ?_
      exact sm_zret rfl (by decide +kernel) (by decide) hf
    · have hf := hf.1 q4
      exact sm_sub [] rfl hf
def fM_isNamed_138 (N d : Nat) (h : sm_H) (Q : Option Value → sm_H → Prop)  : Prop := Q (some (.int 1)) h
set_option maxRecDepth 20000 in
set_option maxHeartbeats 4000000 in
theorem kM_isNamed_138 {N d : Nat} {h : sm_H} {Q : Option Value → sm_H → Prop}  (hf : fM_isNamed_138 N d h Q ) : sm_W N (d + 1) mm_M_isNamed 138 [] [] h Q := by
  unfold fM_isNamed_138 at hf
  refine sm_iconst (i := 1) (x := 1) 139 (by decide +kernel) rfl rfl ?_
  refine sm_goto (off := 4) 143 (by decide +kernel) (by decide) ?_
  exact sm_zret rfl (by decide +kernel) (by decide) hf
theorem cM_isNamed {N d : Nat} {h : sm_H} {Q : Option Value → sm_H → Prop} {x0 : Nat} {x1 : Int32} {x2 : Int32} {x3 : Int32} {x4 : Int32} {x5 : Int32} {x6 : Int32} (hb : ∃ fs, h[x0]? = some (.inr (5, fs))) (hf : fM_isNamed_0 N d h Q x0 x1 x2 x3 x4 x5 x6) : sm_V N (d + 1) mm_M_isNamed 5 x0 [.int x1, .int x2, .int x3, .int x4, .int x5, .int x6] h Q := ⟨hb, sm_meth (by decide +kernel) (fun _ => Nat.le_of_ble_eq_true rfl) (fun _ => rfl) (kM_isNamed_0 hf)⟩
def fM_operator_0 (N d : Nat) (h : sm_H) (Q : Option Value → sm_H → Prop) (x0 : Nat) (x1 : Int32) : Prop := sm_V N d mm_M_isNamed 5 x0 [.int x1, .int 115, .int 101, .int 116, .int 0, .int 0] h (fun r2 h1 => ∃ z3 : Int32, r2 = some (.int z3) ∧ ((z3 = 0 → sm_V N d mm_M_isNamed 5 x0 [.int x1, .int 117, .int 110, .int 115, .int 101, .int 116] h1 (fun r5 h4 => ∃ z6 : Int32, r5 = some (.int z6) ∧ ((z6 = 0 → sm_V N d mm_M_isNamed 5 x0 [.int x1, .int 105, .int 110, .int 99, .int 0, .int 0] h4 (fun r8 h7 => ∃ z9 : Int32, r8 = some (.int z9) ∧ ((z9 = 0 → sm_V N d mm_M_isNamed 5 x0 [.int x1, .int 112, .int 117, .int 115, .int 104, .int 0] h7 (fun r11 h10 => ∃ z12 : Int32, r11 = some (.int z12) ∧ ((z12 = 0 → sm_V N d mm_M_isNamed 5 x0 [.int x1, .int 112, .int 117, .int 108, .int 108, .int 0] h10 (fun r14 h13 => ∃ z15 : Int32, r14 = some (.int z15) ∧ ((z15 = 0 → sm_V N d mm_M_isAdd 5 x0 [.int x1] h13 (fun r17 h16 => ∃ z18 : Int32, r17 = some (.int z18) ∧ ((z18 = 0 → Q (some (.int 0)) h16) ∧ (¬ z18 = 0 → Q (some (.int 6)) h16)))) ∧ (¬ z15 = 0 → Q (some (.int 5)) h13)))) ∧ (¬ z12 = 0 → Q (some (.int 4)) h10)))) ∧ (¬ z9 = 0 → Q (some (.int 3)) h7)))) ∧ (¬ z6 = 0 → Q (some (.int 2)) h4)))) ∧ (¬ z3 = 0 → Q (some (.int 1)) h1)))
set_option maxRecDepth 20000 in
set_option maxHeartbeats 4000000 in
theorem kM_operator_0 {N d : Nat} {h : sm_H} {Q : Option Value → sm_H → Prop} {x0 : Nat} {x1 : Int32} (hf : fM_operator_0 N d h Q x0 x1) : sm_W N (d + 1) mm_M_operator 0 [(0, .ref x0), (1, .int x1)] [] h Q := by
  unfold fM_operator_0 at hf
  refine sm_aload_n (k := 0) 1 0 (by decide +kernel) rfl rfl rfl ?_
  refine sm_iload_n (k := 1) 2 1 (by decide +kernel) rfl rfl rfl ?_
  refine sm_bipush (i := 115) (x := 115) 4 (by decide +kernel) (by decide) rfl ?_
  refine sm_bipush (i := 101) (x := 101) 6 (by decide +kernel) (by decide) rfl ?_
  refine sm_bipush (i := 116) (x := 116) 8 (by decide +kernel) (by decide) rfl ?_
  refine sm_iconst (i := 0) (x := 0) 9 (by decide +kernel) rfl rfl ?_
  refine sm_iconst (i := 0) (x := 0) 10 (by decide +kernel) rfl rfl ?_
  refine sm_callV (M2 := mm_M_isNamed) (av := [.int x1, .int 115, .int 101, .int 116, .int 0, .int 0]) (rest := []) 13 (by decide +kernel) ml_M_179 (Nat.le_refl _) rfl rfl (by first | exact Nat.le_of_ble_eq_true rfl | simp [sm_rfc, Value.category]) rfl hf ?_
  rintro r2 h1 ⟨z3, rfl, hf⟩
  change sm_W N (d + 1) mm_M_operator 13 [(0, .ref x0), (1, .int x1)] [.int z3] h1 Q
  refine sm_if_eq (off := 5) 16 18 (by decide +kernel) (by decide) rfl (fun q24 => ?_) (fun q24 => ?_)
  · have hf := hf.1 q24
    refine sm_aload_n (k := 0) 19 0 (by decide +kernel) rfl rfl rfl ?_
    refine sm_iload_n (k := 1) 20 1 (by decide +kernel) rfl rfl rfl ?_
    refine sm_bipush (i := 117) (x := 117) 22 (by decide +kernel) (by decide) rfl ?_
    refine sm_bipush (i := 110) (x := 110) 24 (by decide +kernel) (by decide) rfl ?_
    refine sm_bipush (i := 115) (x := 115) 26 (by decide +kernel) (by decide) rfl ?_
    refine sm_bipush (i := 101) (x := 101) 28 (by decide +kernel) (by decide) rfl ?_
    refine sm_bipush (i := 116) (x := 116) 30 (by decide +kernel) (by decide) rfl ?_
    refine sm_callV (M2 := mm_M_isNamed) (av := [.int x1, .int 117, .int 110, .int 115, .int 101, .int 116]) (rest := []) 33 (by decide +kernel) ml_M_179 (Nat.le_refl _) rfl rfl (by first | exact Nat.le_of_ble_eq_true rfl | simp [sm_rfc, Value.category]) rfl hf ?_
    rintro r5 h4 ⟨z6, rfl, hf⟩
    change sm_W N (d + 1) mm_M_operator 33 [(0, .ref x0), (1, .int x1)] [.int z6] h4 Q
    refine sm_if_eq (off := 5) 36 38 (by decide +kernel) (by decide) rfl (fun q23 => ?_) (fun q23 => ?_)
    · have hf := hf.1 q23
      refine sm_aload_n (k := 0) 39 0 (by decide +kernel) rfl rfl rfl ?_
      refine sm_iload_n (k := 1) 40 1 (by decide +kernel) rfl rfl rfl ?_
      refine sm_bipush (i := 105) (x := 105) 42 (by decide +kernel) (by decide) rfl ?_
      refine sm_bipush (i := 110) (x := 110) 44 (by decide +kernel) (by decide) rfl ?_
      refine sm_bipush (i := 99) (x := 99) 46 (by decide +kernel) (by decide) rfl ?_
      refine sm_iconst (i := 0) (x := 0) 47 (by decide +kernel) rfl rfl ?_
      refine sm_iconst (i := 0) (x := 0) 48 (by decide +kernel) rfl rfl ?_
      refine sm_callV (M2 := mm_M_isNamed) (av := [.int x1, .int 105, .int 110, .int 99, .int 0, .int 0]) (rest := []) 51 (by decide +kernel) ml_M_179 (Nat.le_refl _) rfl rfl (by first | exact Nat.le_of_ble_eq_true rfl | simp [sm_rfc, Value.category]) rfl hf ?_
      rintro r8 h7 ⟨z9, rfl, hf⟩
      change sm_W N (d + 1) mm_M_operator 51 [(0, .ref x0), (1, .int x1)] [.int z9] h7 Q
      refine sm_if_eq (off := 5) 54 56 (by decide +kernel) (by decide) rfl (fun q22 => ?_) (fun q22 => ?_)
      · have hf := hf.1 q22
        refine sm_aload_n (k := 0) 57 0 (by decide +kernel) rfl rfl rfl ?_
        refine sm_iload_n (k := 1) 58 1 (by decide +kernel) rfl rfl rfl ?_
        refine sm_bipush (i := 112) (x := 112) 60 (by decide +kernel) (by decide) rfl ?_
        refine sm_bipush (i := 117) (x := 117) 62 (by decide +kernel) (by decide) rfl ?_
        refine sm_bipush (i := 115) (x := 115) 64 (by decide +kernel) (by decide) rfl ?_
        refine sm_bipush (i := 104) (x := 104) 66 (by decide +kernel) (by decide) rfl ?_
        refine sm_iconst (i := 0) (x := 0) 67 (by decide +kernel) rfl rfl ?_
        refine sm_callV (M2 := mm_M_isNamed) (av := [.int x1, .int 112, .int 117, .int 115, .int 104, .int 0]) (rest := []) 70 (by decide +kernel) ml_M_179 (Nat.le_refl _) rfl rfl (by first | exact Nat.le_of_ble_eq_true rfl | simp [sm_rfc, Value.category]) rfl hf ?_
        rintro r11 h10 ⟨z12, rfl, hf⟩
        change sm_W N (d + 1) mm_M_operator 70 [(0, .ref x0), (1, .int x1)] [.int z12] h10 Q
        refine sm_if_eq (off := 5) 73 75 (by decide +kernel) (by decide) rfl (fun q21 => ?_) (fun q21 => ?_)
        · have hf := hf.1 q21
          refine sm_aload_n (k := 0) 76 0 (by decide +kernel) rfl rfl rfl ?_
          refine sm_iload_n (k := 1) 77 1 (by decide +kernel) rfl rfl rfl ?_
          refine sm_bipush (i := 112) (x := 112) 79 (by decide +kernel) (by decide) rfl ?_
          refine sm_bipush (i := 117) (x := 117) 81 (by decide +kernel) (by decide) rfl ?_
          refine sm_bipush (i := 108) (x := 108) 83 (by decide +kernel) (by decide) rfl ?_
          refine sm_bipush (i := 108) (x := 108) 85 (by decide +kernel) (by decide) rfl ?_
          refine sm_iconst (i := 0) (x := 0) 86 (by decide +kernel) rfl rfl ?_
          refine sm_callV (M2 := mm_M_isNamed) (av := [.int x1, .int 112, .int 117, .int 108, .int 108, .int 0]) (rest := []) 89 (by decide +kernel) ml_M_179 (Nat.le_refl _) rfl rfl (by first | exact Nat.le_of_ble_eq_true rfl | simp [sm_rfc, Value.category]) rfl hf ?_
          rintro r14 h13 ⟨z15, rfl, hf⟩
          change sm_W N (d + 1) mm_M_operator 89 [(0, .ref x0), (1, .int x1)] [.int z15] h13 Q
          refine sm_if_eq (off := 5) 92 94 (by decide +kernel) (by decide) rfl (fun q20 => ?_) (fun q20 => ?_)
          · have hf := hf.1 q20
            refine sm_aload_n (k := 0) 95 0 (by decide +kernel) rfl rfl rfl ?_
            refine sm_iload_n (k := 1) 96 1 (by decide +kernel) rfl rfl rfl ?_
            refine sm_callV (M2 := mm_M_isAdd) (av := [.int x1]) (rest := []) 99 (by decide +kernel) ml_M_183 (Nat.le_refl _) rfl rfl (by first | exact Nat.le_of_ble_eq_true rfl | simp [sm_rfc, Value.category]) rfl hf ?_
            rintro r17 h16 ⟨z18, rfl, hf⟩
            change sm_W N (d + 1) mm_M_operator 99 [(0, .ref x0), (1, .int x1)] [.int z18] h16 Q
            refine sm_if_eq (off := 8) 102 107 (by decide +kernel) (by decide) rfl (fun q19 => ?_) (fun q19 => ?_)
            · have hf := hf.1 q19
              refine sm_iconst (i := 0) (x := 0) 108 (by decide +kernel) rfl rfl ?_
              exact sm_iret rfl (by decide +kernel) hf
            · have hf := hf.2 q19
              refine sm_bipush (i := 6) (x := 6) 104 (by decide +kernel) (by decide) rfl ?_
              refine sm_goto (off := 4) 108 (by decide +kernel) (by decide) ?_
              exact sm_iret rfl (by decide +kernel) hf
          · have hf := hf.2 q20
            refine sm_iconst (i := 5) (x := 5) 93 (by decide +kernel) rfl rfl ?_
            exact sm_iret rfl (by decide +kernel) hf
        · have hf := hf.2 q21
          refine sm_iconst (i := 4) (x := 4) 74 (by decide +kernel) rfl rfl ?_
          exact sm_iret rfl (by decide +kernel) hf
      · have hf := hf.2 q22
        refine sm_iconst (i := 3) (x := 3) 55 (by decide +kernel) rfl rfl ?_
        exact sm_iret rfl (by decide +kernel) hf
    · have hf := hf.2 q23
      refine sm_iconst (i := 2) (x := 2) 37 (by decide +kernel) rfl rfl ?_
      exact sm_iret rfl (by decide +kernel) hf
  · have hf := hf.2 q24
    refine sm_iconst (i := 1) (x := 1) 17 (by decide +kernel) rfl rfl ?_
    exact sm_iret rfl (by decide +kernel) hf
theorem cM_operator {N d : Nat} {h : sm_H} {Q : Option Value → sm_H → Prop} {x0 : Nat} {x1 : Int32} (hb : ∃ fs, h[x0]? = some (.inr (5, fs))) (hf : fM_operator_0 N d h Q x0 x1) : sm_V N (d + 1) mm_M_operator 5 x0 [.int x1] h Q := ⟨hb, sm_meth (by decide +kernel) (fun _ => Nat.le_of_ble_eq_true rfl) (fun _ => rfl) (kM_operator_0 hf)⟩
def fM_isAdd_0 (N d : Nat) (h : sm_H) (Q : Option Value → sm_H → Prop) (x0 : Nat) (x1 : Int32) : Prop := ∃ z1 : Nat, sm_g h x0 5 8 = some (.ref z1) ∧ ∃ z2 : Int32, sm_gi h z1 1 x1 = some z2 ∧ ∃ z3 : Nat, sm_g h x0 5 9 = some (.ref z3) ∧ ∃ z4 : Int32, sm_gi h z3 1 x1 = some z4 ∧ ((z4 = 9 → sm_V N d mm_M_at 5 x0 [.int z2] h (fun r6 h5 => ∃ z7 : Int32, r6 = some (.int z7) ∧ ((z7 = 36 → sm_V N d mm_M_at 5 x0 [.int (z2 + 1)] h5 (fun r9 h8 => ∃ z10 : Int32, r9 = some (.int z10) ∧ ((z10 = 97 → sm_V N d mm_M_at 5 x0 [.int (z2 + 2)] h8 (fun r12 h11 => ∃ z13 : Int32, r12 = some (.int z13) ∧ ((z13 = 100 → sm_V N d mm_M_at 5 x0 [.int (z2 + 3)] h11 (fun r15 h14 => ∃ z16 : Int32, r15 = some (.int z16) ∧ ((z16 = 100 → sm_V N d mm_M_at 5 x0 [.int (z2 + 4)] h14 (fun r18 h17 => ∃ z19 : Int32, r18 = some (.int z19) ∧ ((z19 = 84 → sm_V N d mm_M_at 5 x0 [.int (z2 + 5)] h17 (fun r21 h20 => ∃ z22 : Int32, r21 = some (.int z22) ∧ ((z22 = 111 → sm_V N d mm_M_at 5 x0 [.int (z2 + 6)] h20 (fun r24 h23 => ∃ z25 : Int32, r24 = some (.int z25) ∧ ((z25 = 83 → sm_V N d mm_M_at 5 x0 [.int (z2 + 7)] h23 (fun r27 h26 => ∃ z28 : Int32, r27 = some (.int z28) ∧ ((z28 = 101 → sm_V N d mm_M_at 5 x0 [.int (z2 + 8)] h26 (fun r30 h29 => ∃ z31 : Int32, r30 = some (.int z31) ∧ ((z31 = 116 → Q (some (.int 1)) h29) ∧ (¬ z31 = 116 → Q (some (.int 0)) h29)))) ∧ (¬ z28 = 101 → Q (some (.int 0)) h26)))) ∧ (¬ z25 = 83 → Q (some (.int 0)) h23)))) ∧ (¬ z22 = 111 → Q (some (.int 0)) h20)))) ∧ (¬ z19 = 84 → Q (some (.int 0)) h17)))) ∧ (¬ z16 = 100 → Q (some (.int 0)) h14)))) ∧ (¬ z13 = 100 → Q (some (.int 0)) h11)))) ∧ (¬ z10 = 97 → Q (some (.int 0)) h8)))) ∧ (¬ z7 = 36 → Q (some (.int 0)) h5)))) ∧ (¬ z4 = 9 → Q (some (.int 0)) h))
set_option maxRecDepth 20000 in
set_option maxHeartbeats 4000000 in
theorem kM_isAdd_0 {N d : Nat} {h : sm_H} {Q : Option Value → sm_H → Prop} {x0 : Nat} {x1 : Int32} (hf : fM_isAdd_0 N d h Q x0 x1) : sm_W N (d + 1) mm_M_isAdd 0 [(0, .ref x0), (1, .int x1)] [] h Q := by
  unfold fM_isAdd_0 at hf
  refine sm_aload_n (k := 0) 1 0 (by decide +kernel) rfl rfl rfl ?_
  obtain ⟨z1, ez1, hf⟩ := hf
  refine sm_get 4 (by decide +kernel) fl_M_24 ez1 rfl ?_
  refine sm_iload_n (k := 1) 5 1 (by decide +kernel) rfl rfl rfl ?_
  obtain ⟨z2, ez2, hf⟩ := hf
  refine sm_iald 6 (by decide +kernel) ez2 rfl ?_
  refine sm_istore_n (k := 2) 7 [(2, .int z2), (0, .ref x0), (1, .int x1)] (by decide +kernel) rfl (by decide) (by first | rfl | simp [sm_rfc]) rfl ?_
  refine sm_aload_n (k := 0) 8 1 (by decide +kernel) rfl rfl rfl ?_
  obtain ⟨z3, ez3, hf⟩ := hf
  refine sm_get 11 (by decide +kernel) fl_M_27 ez3 rfl ?_
  refine sm_iload_n (k := 1) 12 2 (by decide +kernel) rfl rfl rfl ?_
  obtain ⟨z4, ez4, hf⟩ := hf
  refine sm_iald 13 (by decide +kernel) ez4 rfl ?_
  refine sm_bipush (i := 9) (x := 9) 15 (by decide +kernel) (by decide) rfl ?_
  refine sm_icmp_ne (off := 116) 18 131 (by decide +kernel) (by decide) rfl (fun q41 => ?_) (fun q41 => ?_)
  · have hf := hf.2 q41
    refine sm_iconst (i := 0) (x := 0) 132 (by decide +kernel) rfl rfl ?_
    exact sm_zret rfl (by decide +kernel) (by decide) hf
  · have hf := hf.1 q41
    refine sm_aload_n (k := 0) 19 1 (by decide +kernel) rfl rfl rfl ?_
    refine sm_iload_n (k := 2) 20 0 (by decide +kernel) rfl rfl rfl ?_
    refine sm_callV (M2 := mm_M_at) (av := [.int z2]) (rest := []) 23 (by decide +kernel) ml_M_73 (Nat.le_refl _) rfl rfl (by first | exact Nat.le_of_ble_eq_true rfl | simp [sm_rfc, Value.category]) rfl hf ?_
    rintro r6 h5 ⟨z7, rfl, hf⟩
    change sm_W N (d + 1) mm_M_isAdd 23 [(2, .int z2), (0, .ref x0), (1, .int x1)] [.int z7] h5 Q
    refine sm_bipush (i := 36) (x := 36) 25 (by decide +kernel) (by decide) rfl ?_
    refine sm_icmp_ne (off := 106) 28 131 (by decide +kernel) (by decide) rfl (fun q40 => ?_) (fun q40 => ?_)
    · have hf := hf.2 q40
      refine sm_iconst (i := 0) (x := 0) 132 (by decide +kernel) rfl rfl ?_
      exact sm_zret rfl (by decide +kernel) (by decide) hf
    · have hf := hf.1 q40
      refine sm_aload_n (k := 0) 29 1 (by decide +kernel) rfl rfl rfl ?_
      refine sm_iload_n (k := 2) 30 0 (by decide +kernel) rfl rfl rfl ?_
      refine sm_iconst (i := 1) (x := 1) 31 (by decide +kernel) rfl rfl ?_
      refine sm_iadd 32 (by decide +kernel) rfl ?_
      refine sm_callV (M2 := mm_M_at) (av := [.int (z2 + 1)]) (rest := []) 35 (by decide +kernel) ml_M_73 (Nat.le_refl _) rfl rfl (by first | exact Nat.le_of_ble_eq_true rfl | simp [sm_rfc, Value.category]) rfl hf ?_
      rintro r9 h8 ⟨z10, rfl, hf⟩
      change sm_W N (d + 1) mm_M_isAdd 35 [(2, .int z2), (0, .ref x0), (1, .int x1)] [.int z10] h8 Q
      refine sm_bipush (i := 97) (x := 97) 37 (by decide +kernel) (by decide) rfl ?_
      refine sm_icmp_ne (off := 94) 40 131 (by decide +kernel) (by decide) rfl (fun q39 => ?_) (fun q39 => ?_)
      · have hf := hf.2 q39
        refine sm_iconst (i := 0) (x := 0) 132 (by decide +kernel) rfl rfl ?_
        exact sm_zret rfl (by decide +kernel) (by decide) hf
      · have hf := hf.1 q39
        refine sm_aload_n (k := 0) 41 1 (by decide +kernel) rfl rfl rfl ?_
        refine sm_iload_n (k := 2) 42 0 (by decide +kernel) rfl rfl rfl ?_
        refine sm_iconst (i := 2) (x := 2) 43 (by decide +kernel) rfl rfl ?_
        refine sm_iadd 44 (by decide +kernel) rfl ?_
        refine sm_callV (M2 := mm_M_at) (av := [.int (z2 + 2)]) (rest := []) 47 (by decide +kernel) ml_M_73 (Nat.le_refl _) rfl rfl (by first | exact Nat.le_of_ble_eq_true rfl | simp [sm_rfc, Value.category]) rfl hf ?_
        rintro r12 h11 ⟨z13, rfl, hf⟩
        change sm_W N (d + 1) mm_M_isAdd 47 [(2, .int z2), (0, .ref x0), (1, .int x1)] [.int z13] h11 Q
        refine sm_bipush (i := 100) (x := 100) 49 (by decide +kernel) (by decide) rfl ?_
        refine sm_icmp_ne (off := 82) 52 131 (by decide +kernel) (by decide) rfl (fun q38 => ?_) (fun q38 => ?_)
        · have hf := hf.2 q38
          refine sm_iconst (i := 0) (x := 0) 132 (by decide +kernel) rfl rfl ?_
          exact sm_zret rfl (by decide +kernel) (by decide) hf
        · have hf := hf.1 q38
          refine sm_aload_n (k := 0) 53 1 (by decide +kernel) rfl rfl rfl ?_
          refine sm_iload_n (k := 2) 54 0 (by decide +kernel) rfl rfl rfl ?_
          refine sm_iconst (i := 3) (x := 3) 55 (by decide +kernel) rfl rfl ?_
          refine sm_iadd 56 (by decide +kernel) rfl ?_
          refine sm_callV (M2 := mm_M_at) (av := [.int (z2 + 3)]) (rest := []) 59 (by decide +kernel) ml_M_73 (Nat.le_refl _) rfl rfl (by first | exact Nat.le_of_ble_eq_true rfl | simp [sm_rfc, Value.category]) rfl hf ?_
          rintro r15 h14 ⟨z16, rfl, hf⟩
          change sm_W N (d + 1) mm_M_isAdd 59 [(2, .int z2), (0, .ref x0), (1, .int x1)] [.int z16] h14 Q
          refine sm_bipush (i := 100) (x := 100) 61 (by decide +kernel) (by decide) rfl ?_
          refine sm_icmp_ne (off := 70) 64 131 (by decide +kernel) (by decide) rfl (fun q37 => ?_) (fun q37 => ?_)
          · have hf := hf.2 q37
            refine sm_iconst (i := 0) (x := 0) 132 (by decide +kernel) rfl rfl ?_
            exact sm_zret rfl (by decide +kernel) (by decide) hf
          · have hf := hf.1 q37
            refine sm_aload_n (k := 0) 65 1 (by decide +kernel) rfl rfl rfl ?_
            refine sm_iload_n (k := 2) 66 0 (by decide +kernel) rfl rfl rfl ?_
            refine sm_iconst (i := 4) (x := 4) 67 (by decide +kernel) rfl rfl ?_
            refine sm_iadd 68 (by decide +kernel) rfl ?_
            refine sm_callV (M2 := mm_M_at) (av := [.int (z2 + 4)]) (rest := []) 71 (by decide +kernel) ml_M_73 (Nat.le_refl _) rfl rfl (by first | exact Nat.le_of_ble_eq_true rfl | simp [sm_rfc, Value.category]) rfl hf ?_
            rintro r18 h17 ⟨z19, rfl, hf⟩
            change sm_W N (d + 1) mm_M_isAdd 71 [(2, .int z2), (0, .ref x0), (1, .int x1)] [.int z19] h17 Q
            refine sm_bipush (i := 84) (x := 84) 73 (by decide +kernel) (by decide) rfl ?_
            refine sm_icmp_ne (off := 58) 76 131 (by decide +kernel) (by decide) rfl (fun q36 => ?_) (fun q36 => ?_)
            · have hf := hf.2 q36
              refine sm_iconst (i := 0) (x := 0) 132 (by decide +kernel) rfl rfl ?_
              exact sm_zret rfl (by decide +kernel) (by decide) hf
            · have hf := hf.1 q36
              refine sm_aload_n (k := 0) 77 1 (by decide +kernel) rfl rfl rfl ?_
              refine sm_iload_n (k := 2) 78 0 (by decide +kernel) rfl rfl rfl ?_
              refine sm_iconst (i := 5) (x := 5) 79 (by decide +kernel) rfl rfl ?_
              refine sm_iadd 80 (by decide +kernel) rfl ?_
              refine sm_callV (M2 := mm_M_at) (av := [.int (z2 + 5)]) (rest := []) 83 (by decide +kernel) ml_M_73 (Nat.le_refl _) rfl rfl (by first | exact Nat.le_of_ble_eq_true rfl | simp [sm_rfc, Value.category]) rfl hf ?_
              rintro r21 h20 ⟨z22, rfl, hf⟩
              change sm_W N (d + 1) mm_M_isAdd 83 [(2, .int z2), (0, .ref x0), (1, .int x1)] [.int z22] h20 Q
              refine sm_bipush (i := 111) (x := 111) 85 (by decide +kernel) (by decide) rfl ?_
              refine sm_icmp_ne (off := 46) 88 131 (by decide +kernel) (by decide) rfl (fun q35 => ?_) (fun q35 => ?_)
              · have hf := hf.2 q35
                refine sm_iconst (i := 0) (x := 0) 132 (by decide +kernel) rfl rfl ?_
                exact sm_zret rfl (by decide +kernel) (by decide) hf
              · have hf := hf.1 q35
                refine sm_aload_n (k := 0) 89 1 (by decide +kernel) rfl rfl rfl ?_
                refine sm_iload_n (k := 2) 90 0 (by decide +kernel) rfl rfl rfl ?_
                refine sm_bipush (i := 6) (x := 6) 92 (by decide +kernel) (by decide) rfl ?_
                refine sm_iadd 93 (by decide +kernel) rfl ?_
                refine sm_callV (M2 := mm_M_at) (av := [.int (z2 + 6)]) (rest := []) 96 (by decide +kernel) ml_M_73 (Nat.le_refl _) rfl rfl (by first | exact Nat.le_of_ble_eq_true rfl | simp [sm_rfc, Value.category]) rfl hf ?_
                rintro r24 h23 ⟨z25, rfl, hf⟩
                change sm_W N (d + 1) mm_M_isAdd 96 [(2, .int z2), (0, .ref x0), (1, .int x1)] [.int z25] h23 Q
                refine sm_bipush (i := 83) (x := 83) 98 (by decide +kernel) (by decide) rfl ?_
                refine sm_icmp_ne (off := 33) 101 131 (by decide +kernel) (by decide) rfl (fun q34 => ?_) (fun q34 => ?_)
                · have hf := hf.2 q34
                  refine sm_iconst (i := 0) (x := 0) 132 (by decide +kernel) rfl rfl ?_
                  exact sm_zret rfl (by decide +kernel) (by decide) hf
                · have hf := hf.1 q34
                  refine sm_aload_n (k := 0) 102 1 (by decide +kernel) rfl rfl rfl ?_
                  refine sm_iload_n (k := 2) 103 0 (by decide +kernel) rfl rfl rfl ?_
                  refine sm_bipush (i := 7) (x := 7) 105 (by decide +kernel) (by decide) rfl ?_
                  refine sm_iadd 106 (by decide +kernel) rfl ?_
                  refine sm_callV (M2 := mm_M_at) (av := [.int (z2 + 7)]) (rest := []) 109 (by decide +kernel) ml_M_73 (Nat.le_refl _) rfl rfl (by first | exact Nat.le_of_ble_eq_true rfl | simp [sm_rfc, Value.category]) rfl hf ?_
                  rintro r27 h26 ⟨z28, rfl, hf⟩
                  change sm_W N (d + 1) mm_M_isAdd 109 [(2, .int z2), (0, .ref x0), (1, .int x1)] [.int z28] h26 Q
                  refine sm_bipush (i := 101) (x := 101) 111 (by decide +kernel) (by decide) rfl ?_
                  refine sm_icmp_ne (off := 20) 114 131 (by decide +kernel) (by decide) rfl (fun q33 => ?_) (fun q33 => ?_)
                  · have hf := hf.2 q33
                    refine sm_iconst (i := 0) (x := 0) 132 (by decide +kernel) rfl rfl ?_
                    exact sm_zret rfl (by decide +kernel) (by decide) hf
                  · have hf := hf.1 q33
                    refine sm_aload_n (k := 0) 115 1 (by decide +kernel) rfl rfl rfl ?_
                    refine sm_iload_n (k := 2) 116 0 (by decide +kernel) rfl rfl rfl ?_
                    refine sm_bipush (i := 8) (x := 8) 118 (by decide +kernel) (by decide) rfl ?_
                    refine sm_iadd 119 (by decide +kernel) rfl ?_
                    refine sm_callV (M2 := mm_M_at) (av := [.int (z2 + 8)]) (rest := []) 122 (by decide +kernel) ml_M_73 (Nat.le_refl _) rfl rfl (by first | exact Nat.le_of_ble_eq_true rfl | simp [sm_rfc, Value.category]) rfl hf ?_
                    rintro r30 h29 ⟨z31, rfl, hf⟩
                    change sm_W N (d + 1) mm_M_isAdd 122 [(2, .int z2), (0, .ref x0), (1, .int x1)] [.int z31] h29 Q
                    refine sm_bipush (i := 116) (x := 116) 124 (by decide +kernel) (by decide) rfl ?_
                    refine sm_icmp_ne (off := 7) 127 131 (by decide +kernel) (by decide) rfl (fun q32 => ?_) (fun q32 => ?_)
                    · have hf := hf.2 q32
                      refine sm_iconst (i := 0) (x := 0) 132 (by decide +kernel) rfl rfl ?_
                      exact sm_zret rfl (by decide +kernel) (by decide) hf
                    · have hf := hf.1 q32
                      refine sm_iconst (i := 1) (x := 1) 128 (by decide +kernel) rfl rfl ?_
                      refine sm_goto (off := 4) 132 (by decide +kernel) (by decide) ?_
                      exact sm_zret rfl (by decide +kernel) (by decide) hf
theorem cM_isAdd {N d : Nat} {h : sm_H} {Q : Option Value → sm_H → Prop} {x0 : Nat} {x1 : Int32} (hb : ∃ fs, h[x0]? = some (.inr (5, fs))) (hf : fM_isAdd_0 N d h Q x0 x1) : sm_V N (d + 1) mm_M_isAdd 5 x0 [.int x1] h Q := ⟨hb, sm_meth (by decide +kernel) (fun _ => Nat.le_of_ble_eq_true rfl) (fun _ => rfl) (kM_isAdd_0 hf)⟩
def fM_split_0 (N d : Nat) (h : sm_H) (Q : Option Value → sm_H → Prop) (x0 : Nat) (x1 : Int32) : Prop := ∃ h1, sm_p h x0 5 24 (.int 0) = some h1 ∧ ∃ z2 : Nat, sm_g h1 x0 5 8 = some (.ref z2) ∧ ∃ z3 : Int32, sm_gi h1 z2 1 x1 = some z3 ∧ ∃ z4 : Nat, sm_g h1 x0 5 9 = some (.ref z4) ∧ ∃ z5 : Int32, sm_gi h1 z4 1 x1 = some z5 ∧ sm_W N (d + 1) mm_M_split 27 [(0, .ref x0), (3, .int (z3 + z5)), (4, .int z3), (5, .int 1)] [] h1 Q
set_option maxRecDepth 20000 in
set_option maxHeartbeats 4000000 in
theorem kM_split_0 {N d : Nat} {h : sm_H} {Q : Option Value → sm_H → Prop} {x0 : Nat} {x1 : Int32} (hf : fM_split_0 N d h Q x0 x1) : sm_W N (d + 1) mm_M_split 0 [(0, .ref x0), (1, .int x1)] [] h Q := by
  unfold fM_split_0 at hf
  refine sm_aload_n (k := 0) 1 0 (by decide +kernel) rfl rfl rfl ?_
  refine sm_iconst (i := 0) (x := 0) 2 (by decide +kernel) rfl rfl ?_
  obtain ⟨h1, eh1, hf⟩ := hf
  refine sm_put (ty := .int) 5 (by decide +kernel) fp_M_186 (fun _ => rfl) rfl rfl eh1 rfl ?_
  refine sm_aload_n (k := 0) 6 0 (by decide +kernel) rfl rfl rfl ?_
  obtain ⟨z2, ez2, hf⟩ := hf
  refine sm_get 9 (by decide +kernel) fl_M_24 ez2 rfl ?_
  refine sm_iload_n (k := 1) 10 1 (by decide +kernel) rfl rfl rfl ?_
  obtain ⟨z3, ez3, hf⟩ := hf
  refine sm_iald 11 (by decide +kernel) ez3 rfl ?_
  refine sm_istore_n (k := 2) 12 [(2, .int z3), (0, .ref x0), (1, .int x1)] (by decide +kernel) rfl (by decide) (by first | rfl | simp [sm_rfc]) rfl ?_
  refine sm_iload_n (k := 2) 13 0 (by decide +kernel) rfl rfl rfl ?_
  refine sm_aload_n (k := 0) 14 1 (by decide +kernel) rfl rfl rfl ?_
  obtain ⟨z4, ez4, hf⟩ := hf
  refine sm_get 17 (by decide +kernel) fl_M_27 ez4 rfl ?_
  refine sm_iload_n (k := 1) 18 2 (by decide +kernel) rfl rfl rfl ?_
  obtain ⟨z5, ez5, hf⟩ := hf
  refine sm_iald 19 (by decide +kernel) ez5 rfl ?_
  refine sm_iadd 20 (by decide +kernel) rfl ?_
  refine sm_istore_n (k := 3) 21 [(3, .int (z3 + z5)), (2, .int z3), (0, .ref x0), (1, .int x1)] (by decide +kernel) rfl (by decide) (by first | rfl | simp [sm_rfc]) rfl ?_
  refine sm_iload_n (k := 2) 22 1 (by decide +kernel) rfl rfl rfl ?_
  refine sm_istore (i := 4) 24 [(4, .int z3), (3, .int (z3 + z5)), (2, .int z3), (0, .ref x0), (1, .int x1)] (by decide +kernel) (by decide) (by first | rfl | simp [sm_rfc]) rfl ?_
  refine sm_iconst (i := 1) (x := 1) 25 (by decide +kernel) rfl rfl ?_
  refine sm_istore (i := 5) 27 [(5, .int 1), (4, .int z3), (3, .int (z3 + z5)), (2, .int z3), (0, .ref x0), (1, .int x1)] (by decide +kernel) (by decide) (by first | rfl | simp [sm_rfc]) rfl ?_
  exact sm_sub [4, 2, 1, 0] rfl hf
def fM_split_27 (N d : Nat) (h : sm_H) (Q : Option Value → sm_H → Prop) (x0 : Nat) (x3 : Int32) (x4 : Int32) (x5 : Int32) : Prop := ((x5 = 0 → Q (some (.int 1)) h) ∧ (¬ x5 = 0 → sm_W N (d + 1) mm_M_split 36 [(0, .ref x0), (3, .int x3), (4, .int x4), (6, .int x4)] [] h Q))
set_option maxRecDepth 20000 in
set_option maxHeartbeats 4000000 in
theorem kM_split_27 {N d : Nat} {h : sm_H} {Q : Option Value → sm_H → Prop} {x0 : Nat} {x3 : Int32} {x4 : Int32} {x5 : Int32} (hf : fM_split_27 N d h Q x0 x3 x4 x5) : sm_W N (d + 1) mm_M_split 27 [(0, .ref x0), (3, .int x3), (4, .int x4), (5, .int x5)] [] h Q := by
  unfold fM_split_27 at hf
  refine sm_iload (i := 5) 29 3 (by decide +kernel) rfl rfl ?_
  refine sm_if_eq (off := 105) 32 134 (by decide +kernel) (by decide) rfl (fun q1 => ?_) (fun q1 => ?_)
  · have hf := hf.1 q1
    refine sm_iconst (i := 1) (x := 1) 135 (by decide +kernel) rfl rfl ?_
    exact sm_zret rfl (by decide +kernel) (by decide) hf
  · have hf := hf.2 q1
    refine sm_iload (i := 4) 34 2 (by decide +kernel) rfl rfl ?_
    refine sm_istore (i := 6) 36 [(6, .int x4), (0, .ref x0), (3, .int x3), (4, .int x4), (5, .int x5)] (by decide +kernel) (by decide) (by first | rfl | simp [sm_rfc]) rfl ?_
    exact sm_sub [1, 2, 3, 0] rfl hf
def fM_split_36 (N d : Nat) (h : sm_H) (Q : Option Value → sm_H → Prop) (x0 : Nat) (x3 : Int32) (x4 : Int32) (x6 : Int32) : Prop := ((x3 ≤ x6 → sm_W N (d + 1) mm_M_split 59 [(0, .ref x0), (3, .int x3), (4, .int x4), (6, .int x6)] [] h Q) ∧ (¬ x3 ≤ x6 → sm_V N d mm_M_at 5 x0 [.int x6] h (fun r2 h1 => ∃ z3 : Int32, r2 = some (.int z3) ∧ ((z3 = 46 → sm_W N (d + 1) mm_M_split 59 [(0, .ref x0), (3, .int x3), (4, .int x4), (6, .int x6)] [] h1 Q) ∧ (¬ z3 = 46 → sm_W N (d + 1) mm_M_split 36 [(0, .ref x0), (3, .int x3), (4, .int x4), (6, .int (x6 + 1))] [] h1 Q)))))
set_option maxRecDepth 20000 in
set_option maxHeartbeats 4000000 in
theorem kM_split_36 {N d : Nat} {h : sm_H} {Q : Option Value → sm_H → Prop} {x0 : Nat} {x3 : Int32} {x4 : Int32} {x6 : Int32} (hf : fM_split_36 N d h Q x0 x3 x4 x6) : sm_W N (d + 1) mm_M_split 36 [(0, .ref x0), (3, .int x3), (4, .int x4), (6, .int x6)] [] h Q := by
  unfold fM_split_36 at hf
  refine sm_iload (i := 6) 38 3 (by decide +kernel) rfl rfl ?_
  refine sm_iload_n (k := 3) 39 1 (by decide +kernel) rfl rfl rfl ?_
  refine sm_icmp_ge (off := 20) 42 59 (by decide +kernel) (by decide) rfl (fun q5 => ?_) (fun q5 => ?_)
  · have hf := hf.1 q5
    exact sm_sub [0, 1, 2, 3] rfl hf
  · have hf := hf.2 q5
    refine sm_aload_n (k := 0) 43 0 (by decide +kernel) rfl rfl rfl ?_
    refine sm_iload (i := 6) 45 3 (by decide +kernel) rfl rfl ?_
    refine sm_callV (M2 := mm_M_at) (av := [.int x6]) (rest := []) 48 (by decide +kernel) ml_M_73 (Nat.le_refl _) rfl rfl (by first | exact Nat.le_of_ble_eq_true rfl | simp [sm_rfc, Value.category]) rfl hf ?_
    rintro r2 h1 ⟨z3, rfl, hf⟩
    change sm_W N (d + 1) mm_M_split 48 [(0, .ref x0), (3, .int x3), (4, .int x4), (6, .int x6)] [.int z3] h1 Q
    refine sm_bipush (i := 46) (x := 46) 50 (by decide +kernel) (by decide) rfl ?_
    refine sm_icmp_eq (off := 9) 53 59 (by decide +kernel) (by decide) rfl (fun q4 => ?_) (fun q4 => ?_)
    · have hf := hf.1 q4
      exact sm_sub [0, 1, 2, 3] rfl hf
    · have hf := hf.2 q4
      refine sm_iinc (i := 6) (j := 3) (z := 1) (y := x6 + 1) 56 [(6, .int (x6 + 1)), (0, .ref x0), (3, .int x3), (4, .int x4)] (by decide +kernel) rfl (by rfl) (by decide) rfl rfl ?_
      refine sm_goto (off := -20) 36 (by decide +kernel) (by decide) ?_
      exact sm_sub [1, 2, 3, 0] rfl hf
def fM_split_59 (N d : Nat) (h : sm_H) (Q : Option Value → sm_H → Prop) (x0 : Nat) (x3 : Int32) (x4 : Int32) (x6 : Int32) : Prop := ((x6 = x4 → Q (some (.int 0)) h) ∧ (¬ x6 = x4 → ∃ z1 : Int32, sm_g h x0 5 24 = some (.int z1) ∧ ((z1 = 8 → Q (some (.int 0)) h) ∧ (¬ z1 = 8 → ∃ z2 : Nat, sm_g h x0 5 25 = some (.ref z2) ∧ ∃ z3 : Int32, sm_g h x0 5 24 = some (.int z3) ∧ ∃ h4, sm_pi h z2 z3 x4 = some h4 ∧ ∃ z5 : Nat, sm_g h4 x0 5 26 = some (.ref z5) ∧ ∃ z6 : Int32, sm_g h4 x0 5 24 = some (.int z6) ∧ ∃ h7, sm_pi h4 z5 z6 (x6 - x4) = some h7 ∧ ∃ z8 : Int32, sm_g h7 x0 5 24 = some (.int z8) ∧ ∃ h9, sm_p h7 x0 5 24 (.int (z8 + 1)) = some h9 ∧ ((x3 ≤ x6 → sm_W N (d + 1) mm_M_split 123 [(0, .ref x0), (3, .int x3), (6, .int x6)] [.int 0] h9 Q) ∧ (¬ x3 ≤ x6 → sm_W N (d + 1) mm_M_split 123 [(0, .ref x0), (3, .int x3), (6, .int x6)] [.int 1] h9 Q))))))
set_option maxRecDepth 20000 in
set_option maxHeartbeats 4000000 in
theorem kM_split_59 {N d : Nat} {h : sm_H} {Q : Option Value → sm_H → Prop} {x0 : Nat} {x3 : Int32} {x4 : Int32} {x6 : Int32} (hf : fM_split_59 N d h Q x0 x3 x4 x6) : sm_W N (d + 1) mm_M_split 59 [(0, .ref x0), (3, .int x3), (4, .int x4), (6, .int x6)] [] h Q := by
  unfold fM_split_59 at hf
  refine sm_iload (i := 6) 61 3 (by decide +kernel) rfl rfl ?_
  refine sm_iload (i := 4) 63 2 (by decide +kernel) rfl rfl ?_
  refine sm_icmp_eq (off := 12) 66 75 (by decide +kernel) (by decide) rfl (fun q12 => ?_) (fun q12 => ?_)
  · have hf := hf.1 q12
    refine sm_iconst (i := 0) (x := 0) 76 (by decide +kernel) rfl rfl ?_
    exact sm_zret rfl (by decide +kernel) (by decide) hf
  · have hf := hf.2 q12
    refine sm_aload_n (k := 0) 67 0 (by decide +kernel) rfl rfl rfl ?_
    obtain ⟨z1, ez1, hf⟩ := hf
    refine sm_get 70 (by decide +kernel) fl_M_186 ez1 rfl ?_
    refine sm_bipush (i := 8) (x := 8) 72 (by decide +kernel) (by decide) rfl ?_
    refine sm_icmp_ne (off := 5) 75 77 (by decide +kernel) (by decide) rfl (fun q11 => ?_) (fun q11 => ?_)
    · have hf := hf.2 q11
      refine sm_aload_n (k := 0) 78 0 (by decide +kernel) rfl rfl rfl ?_
      obtain ⟨z2, ez2, hf⟩ := hf
      refine sm_get 81 (by decide +kernel) fl_M_64 ez2 rfl ?_
      refine sm_aload_n (k := 0) 82 0 (by decide +kernel) rfl rfl rfl ?_
      obtain ⟨z3, ez3, hf⟩ := hf
      refine sm_get 85 (by decide +kernel) fl_M_186 ez3 rfl ?_
      refine sm_iload (i := 4) 87 2 (by decide +kernel) rfl rfl ?_
      obtain ⟨h4, eh4, hf⟩ := hf
      refine sm_iast 88 (by decide +kernel) eh4 rfl ?_
      refine sm_aload_n (k := 0) 89 0 (by decide +kernel) rfl rfl rfl ?_
      obtain ⟨z5, ez5, hf⟩ := hf
      refine sm_get 92 (by decide +kernel) fl_M_67 ez5 rfl ?_
      refine sm_aload_n (k := 0) 93 0 (by decide +kernel) rfl rfl rfl ?_
      obtain ⟨z6, ez6, hf⟩ := hf
      refine sm_get 96 (by decide +kernel) fl_M_186 ez6 rfl ?_
      refine sm_iload (i := 6) 98 3 (by decide +kernel) rfl rfl ?_
      refine sm_iload (i := 4) 100 2 (by decide +kernel) rfl rfl ?_
      refine sm_isub 101 (by decide +kernel) rfl ?_
      obtain ⟨h7, eh7, hf⟩ := hf
      refine sm_iast 102 (by decide +kernel) eh7 rfl ?_
      refine sm_aload_n (k := 0) 103 0 (by decide +kernel) rfl rfl rfl ?_
      refine sm_dup 104 (by decide +kernel) (by first | rfl | simp [sm_rfc]) rfl ?_
      obtain ⟨z8, ez8, hf⟩ := hf
      refine sm_get 107 (by decide +kernel) fl_M_186 ez8 rfl ?_
      refine sm_iconst (i := 1) (x := 1) 108 (by decide +kernel) rfl rfl ?_
      refine sm_iadd 109 (by decide +kernel) rfl ?_
      obtain ⟨h9, eh9, hf⟩ := hf
      refine sm_put (ty := .int) 112 (by decide +kernel) fp_M_186 (fun _ => rfl) rfl rfl eh9 rfl ?_
      refine sm_iload (i := 6) 114 3 (by decide +kernel) rfl rfl ?_
      refine sm_iload_n (k := 3) 115 1 (by decide +kernel) rfl rfl rfl ?_
      refine sm_icmp_ge (off := 7) 118 122 (by decide +kernel) (by decide) rfl (fun q10 => ?_) (fun q10 => ?_)
      · have hf := hf.1 q10
        refine sm_iconst (i := 0) (x := 0) 123 (by decide +kernel) rfl rfl ?_
        exact sm_sub [0, 1, 3] rfl hf
      · have hf := hf.2 q10
        refine sm_iconst (i := 1) (x := 1) 119 (by decide +kernel) rfl rfl ?_
        refine sm_goto (off := 4) 123 (by decide +kernel) (by decide) ?_
        exact sm_sub [0, 1, 3] rfl hf
    · have hf := hf.1 q11
      refine sm_iconst (i := 0) (x := 0) 76 (by decide +kernel) rfl rfl ?_
      exact sm_zret rfl (by decide +kernel) (by decide) hf
def fM_split_123 (N d : Nat) (h : sm_H) (Q : Option Value → sm_H → Prop) (x0 : Nat) (x3 : Int32) (x6 : Int32) (y0 : Int32) : Prop := sm_W N (d + 1) mm_M_split 27 [(0, .ref x0), (3, .int x3), (4, .int (x6 + 1)), (5, .int y0)] [] h Q
set_option maxRecDepth 20000 in
set_option maxHeartbeats 4000000 in
theorem kM_split_123 {N d : Nat} {h : sm_H} {Q : Option Value → sm_H → Prop} {x0 : Nat} {x3 : Int32} {x6 : Int32} {y0 : Int32} (hf : fM_split_123 N d h Q x0 x3 x6 y0) : sm_W N (d + 1) mm_M_split 123 [(0, .ref x0), (3, .int x3), (6, .int x6)] [.int y0] h Q := by
  unfold fM_split_123 at hf
  refine sm_istore (i := 5) 125 [(5, .int y0), (0, .ref x0), (3, .int x3), (6, .int x6)] (by decide +kernel) (by decide) (by first | rfl | simp [sm_rfc]) rfl ?_
  refine sm_iload (i := 6) 127 3 (by decide +kernel) rfl rfl ?_
  refine sm_iconst (i := 1) (x := 1) 128 (by decide +kernel) rfl rfl ?_
  refine sm_iadd 129 (by decide +kernel) rfl ?_
  refine sm_istore (i := 4) 131 [(4, .int (x6 + 1)), (5, .int y0), (0, .ref x0), (3, .int x3), (6, .int x6)] (by decide +kernel) (by decide) (by first | rfl | simp [sm_rfc]) rfl ?_
  refine sm_goto (off := -104) 27 (by decide +kernel) (by decide) ?_
  exact sm_sub [2, 3, 0, 1] rfl hf
theorem cM_split {N d : Nat} {h : sm_H} {Q : Option Value → sm_H → Prop} {x0 : Nat} {x1 : Int32} (hb : ∃ fs, h[x0]? = some (.inr (5, fs))) (hf : fM_split_0 N d h Q x0 x1) : sm_V N (d + 1) mm_M_split 5 x0 [.int x1] h Q := ⟨hb, sm_meth (by decide +kernel) (fun _ => Nat.le_of_ble_eq_true rfl) (fun _ => rfl) (kM_split_0 hf)⟩
def fM_begins_0 (N d : Nat) (h : sm_H) (Q : Option Value → sm_H → Prop) (x0 : Nat) (x1 : Int32) (x2 : Int32) : Prop := ∃ z1 : Nat, sm_g h x0 5 9 = some (.ref z1) ∧ ∃ z2 : Int32, sm_gi h z1 1 x1 = some z2 ∧ ∃ z3 : Nat, sm_g h x0 5 9 = some (.ref z3) ∧ ∃ z4 : Int32, sm_gi h z3 1 x2 = some z4 ∧ ((z4 < z2 → Q (some (.int 0)) h) ∧ (¬ z4 < z2 → ∃ z5 : Nat, sm_g h x0 5 8 = some (.ref z5) ∧ ∃ z6 : Int32, sm_gi h z5 1 x1 = some z6 ∧ ∃ z7 : Nat, sm_g h x0 5 9 = some (.ref z7) ∧ ∃ z8 : Int32, sm_gi h z7 1 x1 = some z8 ∧ ∃ z9 : Nat, sm_g h x0 5 8 = some (.ref z9) ∧ ∃ z10 : Int32, sm_gi h z9 1 x2 = some z10 ∧ ∃ z11 : Nat, sm_g h x0 5 9 = some (.ref z11) ∧ ∃ z12 : Int32, sm_gi h z11 1 x1 = some z12 ∧ sm_V N d mm_M_isAlike 5 x0 [.int z6, .int z8, .int z10, .int z12] h (fun r14 h13 => ∃ z15 : Int32, r14 = some (.int z15) ∧ ((z15 = 0 → Q (some (.int 0)) h13) ∧ (¬ z15 = 0 → ∃ z16 : Nat, sm_g h13 x0 5 9 = some (.ref z16) ∧ ∃ z17 : Int32, sm_gi h13 z16 1 x1 = some z17 ∧ ∃ z18 : Nat, sm_g h13 x0 5 9 = some (.ref z18) ∧ ∃ z19 : Int32, sm_gi h13 z18 1 x2 = some z19 ∧ ((z17 = z19 → sm_W N (d + 1) mm_M_begins 83 [] [] h13 Q) ∧ (¬ z17 = z19 → ∃ z20 : Nat, sm_g h13 x0 5 8 = some (.ref z20) ∧ ∃ z21 : Int32, sm_gi h13 z20 1 x2 = some z21 ∧ ∃ z22 : Nat, sm_g h13 x0 5 9 = some (.ref z22) ∧ ∃ z23 : Int32, sm_gi h13 z22 1 x1 = some z23 ∧ sm_V N d mm_M_at 5 x0 [.int (z21 + z23)] h13 (fun r25 h24 => ∃ z26 : Int32, r25 = some (.int z26) ∧ ((z26 = 46 → sm_W N (d + 1) mm_M_begins 83 [] [] h24 Q) ∧ (¬ z26 = 46 → Q (some (.int 0)) h24))))))))))
set_option maxRecDepth 20000 in
set_option maxHeartbeats 4000000 in
theorem kM_begins_0 {N d : Nat} {h : sm_H} {Q : Option Value → sm_H → Prop} {x0 : Nat} {x1 : Int32} {x2 : Int32} (hf : fM_begins_0 N d h Q x0 x1 x2) : sm_W N (d + 1) mm_M_begins 0 [(0, .ref x0), (1, .int x1), (2, .int x2)] [] h Q := by
  unfold fM_begins_0 at hf
  refine sm_aload_n (k := 0) 1 0 (by decide +kernel) rfl rfl rfl ?_
  obtain ⟨z1, ez1, hf⟩ := hf
  refine sm_get 4 (by decide +kernel) fl_M_27 ez1 rfl ?_
  refine sm_iload_n (k := 1) 5 1 (by decide +kernel) rfl rfl rfl ?_
  obtain ⟨z2, ez2, hf⟩ := hf
  refine sm_iald 6 (by decide +kernel) ez2 rfl ?_
  refine sm_aload_n (k := 0) 7 0 (by decide +kernel) rfl rfl rfl ?_
  obtain ⟨z3, ez3, hf⟩ := hf
  refine sm_get 10 (by decide +kernel) fl_M_27 ez3 rfl ?_
  refine sm_iload_n (k := 2) 11 2 (by decide +kernel) rfl rfl rfl ?_
  obtain ⟨z4, ez4, hf⟩ := hf
  refine sm_iald 12 (by decide +kernel) ez4 rfl ?_
  refine sm_icmp_gt (off := 75) 15 87 (by decide +kernel) (by decide) rfl (fun q30 => ?_) (fun q30 => ?_)
  · have hf := hf.1 q30
    refine sm_iconst (i := 0) (x := 0) 88 (by decide +kernel) rfl rfl ?_
    exact sm_zret rfl (by decide +kernel) (by decide) hf
  · have hf := hf.2 q30
    refine sm_aload_n (k := 0) 16 0 (by decide +kernel) rfl rfl rfl ?_
    refine sm_aload_n (k := 0) 17 0 (by decide +kernel) rfl rfl rfl ?_
    obtain ⟨z5, ez5, hf⟩ := hf
    refine sm_get 20 (by decide +kernel) fl_M_24 ez5 rfl ?_
    refine sm_iload_n (k := 1) 21 1 (by decide +kernel) rfl rfl rfl ?_
    obtain ⟨z6, ez6, hf⟩ := hf
    refine sm_iald 22 (by decide +kernel) ez6 rfl ?_
    refine sm_aload_n (k := 0) 23 0 (by decide +kernel) rfl rfl rfl ?_
    obtain ⟨z7, ez7, hf⟩ := hf
    refine sm_get 26 (by decide +kernel) fl_M_27 ez7 rfl ?_
    refine sm_iload_n (k := 1) 27 1 (by decide +kernel) rfl rfl rfl ?_
    obtain ⟨z8, ez8, hf⟩ := hf
    refine sm_iald 28 (by decide +kernel) ez8 rfl ?_
    refine sm_aload_n (k := 0) 29 0 (by decide +kernel) rfl rfl rfl ?_
    obtain ⟨z9, ez9, hf⟩ := hf
    refine sm_get 32 (by decide +kernel) fl_M_24 ez9 rfl ?_
    refine sm_iload_n (k := 2) 33 2 (by decide +kernel) rfl rfl rfl ?_
    obtain ⟨z10, ez10, hf⟩ := hf
    refine sm_iald 34 (by decide +kernel) ez10 rfl ?_
    refine sm_aload_n (k := 0) 35 0 (by decide +kernel) rfl rfl rfl ?_
    obtain ⟨z11, ez11, hf⟩ := hf
    refine sm_get 38 (by decide +kernel) fl_M_27 ez11 rfl ?_
    refine sm_iload_n (k := 1) 39 1 (by decide +kernel) rfl rfl rfl ?_
    obtain ⟨z12, ez12, hf⟩ := hf
    refine sm_iald 40 (by decide +kernel) ez12 rfl ?_
    refine sm_callV (M2 := mm_M_isAlike) (av := [.int z6, .int z8, .int z10, .int z12]) (rest := []) 43 (by decide +kernel) ml_M_97 (Nat.le_refl _) rfl rfl (by first | exact Nat.le_of_ble_eq_true rfl | simp [sm_rfc, Value.category]) rfl hf ?_
    rintro r14 h13 ⟨z15, rfl, hf⟩
    change sm_W N (d + 1) mm_M_begins 43 [(0, .ref x0), (1, .int x1), (2, .int x2)] [.int z15] h13 Q
    refine sm_if_eq (off := 44) 46 87 (by decide +kernel) (by decide) rfl (fun q29 => ?_) (fun q29 => ?_)
    · have hf := hf.1 q29
      refine sm_iconst (i := 0) (x := 0) 88 (by decide +kernel) rfl rfl ?_
      exact sm_zret rfl (by decide +kernel) (by decide) hf
    · have hf := hf.2 q29
      refine sm_aload_n (k := 0) 47 0 (by decide +kernel) rfl rfl rfl ?_
      obtain ⟨z16, ez16, hf⟩ := hf
      refine sm_get 50 (by decide +kernel) fl_M_27 ez16 rfl ?_
      refine sm_iload_n (k := 1) 51 1 (by decide +kernel) rfl rfl rfl ?_
      obtain ⟨z17, ez17, hf⟩ := hf
      refine sm_iald 52 (by decide +kernel) ez17 rfl ?_
      refine sm_aload_n (k := 0) 53 0 (by decide +kernel) rfl rfl rfl ?_
      obtain ⟨z18, ez18, hf⟩ := hf
      refine sm_get 56 (by decide +kernel) fl_M_27 ez18 rfl ?_
      refine sm_iload_n (k := 2) 57 2 (by decide +kernel) rfl rfl rfl ?_
      obtain ⟨z19, ez19, hf⟩ := hf
      refine sm_iald 58 (by decide +kernel) ez19 rfl ?_
      refine sm_icmp_eq (off := 25) 61 83 (by decide +kernel) (by decide) rfl (fun q28 => ?_) (fun q28 => ?_)
      · have hf := hf.1 q28
        exact sm_sub [] rfl hf
      · have hf := hf.2 q28
        refine sm_aload_n (k := 0) 62 0 (by decide +kernel) rfl rfl rfl ?_
        refine sm_aload_n (k := 0) 63 0 (by decide +kernel) rfl rfl rfl ?_
        obtain ⟨z20, ez20, hf⟩ := hf
        refine sm_get 66 (by decide +kernel) fl_M_24 ez20 rfl ?_
        refine sm_iload_n (k := 2) 67 2 (by decide +kernel) rfl rfl rfl ?_
        obtain ⟨z21, ez21, hf⟩ := hf
        refine sm_iald 68 (by decide +kernel) ez21 rfl ?_
        refine sm_aload_n (k := 0) 69 0 (by decide +kernel) rfl rfl rfl ?_
        obtain ⟨z22, ez22, hf⟩ := hf
        refine sm_get 72 (by decide +kernel) fl_M_27 ez22 rfl ?_
        refine sm_iload_n (k := 1) 73 1 (by decide +kernel) rfl rfl rfl ?_
        obtain ⟨z23, ez23, hf⟩ := hf
        refine sm_iald 74 (by decide +kernel) ez23 rfl ?_
        refine sm_iadd 75 (by decide +kernel) rfl ?_
        refine sm_callV (M2 := mm_M_at) (av := [.int (z21 + z23)]) (rest := []) 78 (by decide +kernel) ml_M_73 (Nat.le_refl _) rfl rfl (by first | exact Nat.le_of_ble_eq_true rfl | simp [sm_rfc, Value.category]) rfl hf ?_
        rintro r25 h24 ⟨z26, rfl, hf⟩
        change sm_W N (d + 1) mm_M_begins 78 [(0, .ref x0), (1, .int x1), (2, .int x2)] [.int z26] h24 Q
        refine sm_bipush (i := 46) (x := 46) 80 (by decide +kernel) (by decide) rfl ?_
        refine sm_icmp_ne (off := 7) 83 87 (by decide +kernel) (by decide) rfl (fun q27 => ?_) (fun q27 => ?_)
        · have hf := hf.2 q27
          refine sm_iconst (i := 0) (x := 0) 88 (by decide +kernel) rfl rfl ?_
          exact sm_zret rfl (by decide +kernel) (by decide) hf
        · have hf := hf.1 q27
          exact sm_sub [] rfl hf
def fM_begins_83 (N d : Nat) (h : sm_H) (Q : Option Value → sm_H → Prop)  : Prop := Q (some (.int 1)) h
set_option maxRecDepth 20000 in
set_option maxHeartbeats 4000000 in
theorem kM_begins_83 {N d : Nat} {h : sm_H} {Q : Option Value → sm_H → Prop}  (hf : fM_begins_83 N d h Q ) : sm_W N (d + 1) mm_M_begins 83 [] [] h Q := by
  unfold fM_begins_83 at hf
  refine sm_iconst (i := 1) (x := 1) 84 (by decide +kernel) rfl rfl ?_
  refine sm_goto (off := 4) 88 (by decide +kernel) (by decide) ?_
  exact sm_zret rfl (by decide +kernel) (by decide) hf
theorem cM_begins {N d : Nat} {h : sm_H} {Q : Option Value → sm_H → Prop} {x0 : Nat} {x1 : Int32} {x2 : Int32} (hb : ∃ fs, h[x0]? = some (.inr (5, fs))) (hf : fM_begins_0 N d h Q x0 x1 x2) : sm_V N (d + 1) mm_M_begins 5 x0 [.int x1, .int x2] h Q := ⟨hb, sm_meth (by decide +kernel) (fun _ => Nat.le_of_ble_eq_true rfl) (fun _ => rfl) (kM_begins_0 hf)⟩
def fM_meetsEarlier_0 (N d : Nat) (h : sm_H) (Q : Option Value → sm_H → Prop) (x0 : Nat) (x1 : Int32) (x2 : Int32) : Prop := ∃ z1 : Nat, sm_g h x0 5 13 = some (.ref z1) ∧ ∃ z2 : Int32, sm_gi h z1 1 x1 = some z2 ∧ sm_W N (d + 1) mm_M_meetsEarlier 7 [(0, .ref x0), (2, .int x2), (3, .int z2)] [] h Q
set_option maxRecDepth 20000 in
set_option maxHeartbeats 4000000 in
theorem kM_meetsEarlier_0 {N d : Nat} {h : sm_H} {Q : Option Value → sm_H → Prop} {x0 : Nat} {x1 : Int32} {x2 : Int32} (hf : fM_meetsEarlier_0 N d h Q x0 x1 x2) : sm_W N (d + 1) mm_M_meetsEarlier 0 [(0, .ref x0), (1, .int x1), (2, .int x2)] [] h Q := by
  unfold fM_meetsEarlier_0 at hf
  refine sm_aload_n (k := 0) 1 0 (by decide +kernel) rfl rfl rfl ?_
  obtain ⟨z1, ez1, hf⟩ := hf
  refine sm_get 4 (by decide +kernel) fl_M_40 ez1 rfl ?_
  refine sm_iload_n (k := 1) 5 1 (by decide +kernel) rfl rfl rfl ?_
  obtain ⟨z2, ez2, hf⟩ := hf
  refine sm_iald 6 (by decide +kernel) ez2 rfl ?_
  refine sm_istore_n (k := 3) 7 [(3, .int z2), (0, .ref x0), (1, .int x1), (2, .int x2)] (by decide +kernel) rfl (by decide) (by first | rfl | simp [sm_rfc]) rfl ?_
  exact sm_sub [1, 3, 0] rfl hf
def fM_meetsEarlier_7 (N d : Nat) (h : sm_H) (Q : Option Value → sm_H → Prop) (x0 : Nat) (x2 : Int32) (x3 : Int32) : Prop := ((x3 < 0 → Q (some (.int 0)) h) ∧ (¬ x3 < 0 → ∃ z1 : Nat, sm_g h x0 5 13 = some (.ref z1) ∧ ∃ z2 : Int32, sm_gi h z1 1 x3 = some z2 ∧ sm_W N (d + 1) mm_M_meetsEarlier 19 [(0, .ref x0), (2, .int x2), (3, .int x3), (4, .int z2)] [] h Q))
set_option maxRecDepth 20000 in
set_option maxHeartbeats 4000000 in
theorem kM_meetsEarlier_7 {N d : Nat} {h : sm_H} {Q : Option Value → sm_H → Prop} {x0 : Nat} {x2 : Int32} {x3 : Int32} (hf : fM_meetsEarlier_7 N d h Q x0 x2 x3) : sm_W N (d + 1) mm_M_meetsEarlier 7 [(0, .ref x0), (2, .int x2), (3, .int x3)] [] h Q := by
  unfold fM_meetsEarlier_7 at hf
  refine sm_iload_n (k := 3) 8 2 (by decide +kernel) rfl rfl rfl ?_
  refine sm_if_lt (off := 68) 11 76 (by decide +kernel) (by decide) rfl (fun q3 => ?_) (fun q3 => ?_)
  · have hf := hf.1 q3
    refine sm_iconst (i := 0) (x := 0) 77 (by decide +kernel) rfl rfl ?_
    exact sm_zret rfl (by decide +kernel) (by decide) hf
  · have hf := hf.2 q3
    refine sm_aload_n (k := 0) 12 0 (by decide +kernel) rfl rfl rfl ?_
    obtain ⟨z1, ez1, hf⟩ := hf
    refine sm_get 15 (by decide +kernel) fl_M_40 ez1 rfl ?_
    refine sm_iload_n (k := 3) 16 2 (by decide +kernel) rfl rfl rfl ?_
    obtain ⟨z2, ez2, hf⟩ := hf
    refine sm_iald 17 (by decide +kernel) ez2 rfl ?_
    refine sm_istore (i := 4) 19 [(4, .int z2), (0, .ref x0), (2, .int x2), (3, .int x3)] (by decide +kernel) (by decide) (by first | rfl | simp [sm_rfc]) rfl ?_
    exact sm_sub [1, 2, 3, 0] rfl hf
def fM_meetsEarlier_19 (N d : Nat) (h : sm_H) (Q : Option Value → sm_H → Prop) (x0 : Nat) (x2 : Int32) (x3 : Int32) (x4 : Int32) : Prop := ((x4 < 0 → ∃ z1 : Nat, sm_g h x0 5 14 = some (.ref z1) ∧ ∃ z2 : Int32, sm_gi h z1 1 x3 = some z2 ∧ sm_W N (d + 1) mm_M_meetsEarlier 7 [(0, .ref x0), (2, .int x2), (3, .int z2)] [] h Q) ∧ (¬ x4 < 0 → ((x4 = x2 → Q (some (.int 0)) h) ∧ (¬ x4 = x2 → sm_V N d mm_M_begins 5 x0 [.int x4, .int x2] h (fun r4 h3 => ∃ z5 : Int32, r4 = some (.int z5) ∧ ((z5 = 0 → sm_V N d mm_M_begins 5 x0 [.int x2, .int x4] h3 (fun r7 h6 => ∃ z8 : Int32, r7 = some (.int z8) ∧ ((z8 = 0 → ∃ z9 : Nat, sm_g h6 x0 5 14 = some (.ref z9) ∧ ∃ z10 : Int32, sm_gi h6 z9 1 x4 = some z10 ∧ sm_W N (d + 1) mm_M_meetsEarlier 19 [(0, .ref x0), (2, .int x2), (3, .int x3), (4, .int z10)] [] h6 Q) ∧ (¬ z8 = 0 → Q (some (.int 1)) h6)))) ∧ (¬ z5 = 0 → Q (some (.int 1)) h3)))))))
set_option maxRecDepth 20000 in
set_option maxHeartbeats 4000000 in
theorem kM_meetsEarlier_19 {N d : Nat} {h : sm_H} {Q : Option Value → sm_H → Prop} {x0 : Nat} {x2 : Int32} {x3 : Int32} {x4 : Int32} (hf : fM_meetsEarlier_19 N d h Q x0 x2 x3 x4) : sm_W N (d + 1) mm_M_meetsEarlier 19 [(0, .ref x0), (2, .int x2), (3, .int x3), (4, .int x4)] [] h Q := by
  unfold fM_meetsEarlier_19 at hf
  refine sm_iload (i := 4) 21 3 (by decide +kernel) rfl rfl ?_
  refine sm_if_lt (off := 45) 24 66 (by decide +kernel) (by decide) rfl (fun q14 => ?_) (fun q14 => ?_)
  · have hf := hf.1 q14
    refine sm_aload_n (k := 0) 67 0 (by decide +kernel) rfl rfl rfl ?_
    obtain ⟨z1, ez1, hf⟩ := hf
    refine sm_get 70 (by decide +kernel) fl_M_43 ez1 rfl ?_
    refine sm_iload_n (k := 3) 71 2 (by decide +kernel) rfl rfl rfl ?_
    obtain ⟨z2, ez2, hf⟩ := hf
    refine sm_iald 72 (by decide +kernel) ez2 rfl ?_
    refine sm_istore_n (k := 3) 73 [(3, .int z2), (0, .ref x0), (2, .int x2), (4, .int x4)] (by decide +kernel) rfl (by decide) (by first | rfl | simp [sm_rfc]) rfl ?_
    refine sm_goto (off := -66) 7 (by decide +kernel) (by decide) ?_
    exact sm_sub [1, 2, 0] rfl hf
  · have hf := hf.2 q14
    refine sm_iload (i := 4) 26 3 (by decide +kernel) rfl rfl ?_
    refine sm_iload_n (k := 2) 27 1 (by decide +kernel) rfl rfl rfl ?_
    refine sm_icmp_ne (off := 5) 30 32 (by decide +kernel) (by decide) rfl (fun q13 => ?_) (fun q13 => ?_)
    · have hf := hf.2 q13
      refine sm_aload_n (k := 0) 33 0 (by decide +kernel) rfl rfl rfl ?_
      refine sm_iload (i := 4) 35 3 (by decide +kernel) rfl rfl ?_
      refine sm_iload_n (k := 2) 36 1 (by decide +kernel) rfl rfl rfl ?_
      refine sm_callV (M2 := mm_M_begins) (av := [.int x4, .int x2]) (rest := []) 39 (by decide +kernel) ml_M_189 (Nat.le_refl _) rfl rfl (by first | exact Nat.le_of_ble_eq_true rfl | simp [sm_rfc, Value.category]) rfl hf ?_
      rintro r4 h3 ⟨z5, rfl, hf⟩
      change sm_W N (d + 1) mm_M_meetsEarlier 39 [(0, .ref x0), (2, .int x2), (3, .int x3), (4, .int x4)] [.int z5] h3 Q
      refine sm_if_ne (off := 13) 42 52 (by decide +kernel) (by decide) rfl (fun q12 => ?_) (fun q12 => ?_)
      · have hf := hf.2 q12
        refine sm_iconst (i := 1) (x := 1) 53 (by decide +kernel) rfl rfl ?_
        exact sm_zret rfl (by decide +kernel) (by decide) hf
      · have hf := hf.1 q12
        refine sm_aload_n (k := 0) 43 0 (by decide +kernel) rfl rfl rfl ?_
        refine sm_iload_n (k := 2) 44 1 (by decide +kernel) rfl rfl rfl ?_
        refine sm_iload (i := 4) 46 3 (by decide +kernel) rfl rfl ?_
        refine sm_callV (M2 := mm_M_begins) (av := [.int x2, .int x4]) (rest := []) 49 (by decide +kernel) ml_M_189 (Nat.le_refl _) rfl rfl (by first | exact Nat.le_of_ble_eq_true rfl | simp [sm_rfc, Value.category]) rfl hf ?_
        rintro r7 h6 ⟨z8, rfl, hf⟩
        change sm_W N (d + 1) mm_M_meetsEarlier 49 [(0, .ref x0), (2, .int x2), (3, .int x3), (4, .int x4)] [.int z8] h6 Q
        refine sm_if_eq (off := 5) 52 54 (by decide +kernel) (by decide) rfl (fun q11 => ?_) (fun q11 => ?_)
        · have hf := hf.1 q11
          refine sm_aload_n (k := 0) 55 0 (by decide +kernel) rfl rfl rfl ?_
          obtain ⟨z9, ez9, hf⟩ := hf
          refine sm_get 58 (by decide +kernel) fl_M_43 ez9 rfl ?_
          refine sm_iload (i := 4) 60 3 (by decide +kernel) rfl rfl ?_
          obtain ⟨z10, ez10, hf⟩ := hf
          refine sm_iald 61 (by decide +kernel) ez10 rfl ?_
          refine sm_istore (i := 4) 63 [(4, .int z10), (0, .ref x0), (2, .int x2), (3, .int x3)] (by decide +kernel) (by decide) (by first | rfl | simp [sm_rfc]) rfl ?_
          refine sm_goto (off := -44) 19 (by decide +kernel) (by decide) ?_
          exact sm_sub [1, 2, 3, 0] rfl hf
        · have hf := hf.2 q11
          refine sm_iconst (i := 1) (x := 1) 53 (by decide +kernel) rfl rfl ?_
          exact sm_zret rfl (by decide +kernel) (by decide) hf
    · have hf := hf.1 q13
      refine sm_iconst (i := 0) (x := 0) 31 (by decide +kernel) rfl rfl ?_
      exact sm_zret rfl (by decide +kernel) (by decide) hf
theorem cM_meetsEarlier {N d : Nat} {h : sm_H} {Q : Option Value → sm_H → Prop} {x0 : Nat} {x1 : Int32} {x2 : Int32} (hb : ∃ fs, h[x0]? = some (.inr (5, fs))) (hf : fM_meetsEarlier_0 N d h Q x0 x1 x2) : sm_V N (d + 1) mm_M_meetsEarlier 5 x0 [.int x1, .int x2] h Q := ⟨hb, sm_meth (by decide +kernel) (fun _ => Nat.le_of_ble_eq_true rfl) (fun _ => rfl) (kM_meetsEarlier_0 hf)⟩
def fM_fail_0 (N d : Nat) (h : sm_H) (Q : Option Value → sm_H → Prop) (x0 : Nat) (x1 : Int32) (x2 : Int32) (x3 : Int32) : Prop := ∃ h1, sm_p h x0 5 4 (.int x2) = some h1 ∧ ∃ h2, sm_p h1 x0 5 5 (.int x3) = some h2 ∧ Q (some (.int x1)) h2
set_option maxRecDepth 20000 in
set_option maxHeartbeats 4000000 in
theorem kM_fail_0 {N d : Nat} {h : sm_H} {Q : Option Value → sm_H → Prop} {x0 : Nat} {x1 : Int32} {x2 : Int32} {x3 : Int32} (hf : fM_fail_0 N d h Q x0 x1 x2 x3) : sm_W N (d + 1) mm_M_fail 0 [(0, .ref x0), (1, .int x1), (2, .int x2), (3, .int x3)] [] h Q := by
  unfold fM_fail_0 at hf
  refine sm_aload_n (k := 0) 1 0 (by decide +kernel) rfl rfl rfl ?_
  refine sm_iload_n (k := 2) 2 2 (by decide +kernel) rfl rfl rfl ?_
  obtain ⟨h1, eh1, hf⟩ := hf
  refine sm_put (ty := .int) 5 (by decide +kernel) fp_M_13 (fun _ => rfl) rfl rfl eh1 rfl ?_
  refine sm_aload_n (k := 0) 6 0 (by decide +kernel) rfl rfl rfl ?_
  refine sm_iload_n (k := 3) 7 3 (by decide +kernel) rfl rfl rfl ?_
  obtain ⟨h2, eh2, hf⟩ := hf
  refine sm_put (ty := .int) 10 (by decide +kernel) fp_M_17 (fun _ => rfl) rfl rfl eh2 rfl ?_
  refine sm_iload_n (k := 1) 11 1 (by decide +kernel) rfl rfl rfl ?_
  exact sm_iret rfl (by decide +kernel) hf
theorem cM_fail {N d : Nat} {h : sm_H} {Q : Option Value → sm_H → Prop} {x0 : Nat} {x1 : Int32} {x2 : Int32} {x3 : Int32} (hb : ∃ fs, h[x0]? = some (.inr (5, fs))) (hf : fM_fail_0 N d h Q x0 x1 x2 x3) : sm_V N (d + 1) mm_M_fail 5 x0 [.int x1, .int x2, .int x3] h Q := ⟨hb, sm_meth (by decide +kernel) (fun _ => Nat.le_of_ble_eq_true rfl) (fun _ => rfl) (kM_fail_0 hf)⟩
