/-! the JDK's String.length and charAt on the text constants; printed by wip/whole/mk_str.py -/
def mm_S_length : sm_M := (⟨"java/lang/String", "length", "()I"⟩, prog_9_method_54_code, 1, some .int)
def mm_S_coder : sm_M := (⟨"java/lang/String", "coder", "()B"⟩, prog_9_method_152_code, 1, some .byte)
def mm_S_charAt : sm_M := (⟨"java/lang/String", "charAt", "(I)C"⟩, prog_9_method_56_code, 2, some .char)
def mm_S_isLatin1 : sm_M := (⟨"java/lang/String", "isLatin1", "()Z"⟩, prog_9_method_154_code, 1, some .boolean)
def mm_S_chk : sm_M := (⟨"java/lang/String", "checkIndex", "(II)V"⟩, prog_9_method_155_code, 2, none)
def mm_S_l1 : sm_M := (⟨"java/lang/StringLatin1", "charAt", "([BI)C"⟩, prog_10_method_2_code, 2, some .char)
def mm_S_pre : sm_M := (⟨"jdk/internal/util/Preconditions", "checkIndex", "(IILjava/util/function/BiFunction;)I"⟩, prog_13_method_11_code, 3, some .int)
theorem ok_S_length : sm_okM mm_S_length 0 := ⟨sm_in 79 (by decide +kernel) (by decide +kernel), sm_in 388 (by decide +kernel) (by decide +kernel), by decide, by decide, (by decide +kernel), by decide⟩
theorem ok_S_coder : sm_okM mm_S_coder 0 := ⟨sm_in 79 (by decide +kernel) (by decide +kernel), sm_in 392 (by decide +kernel) (by decide +kernel), by decide, by decide, (by decide +kernel), by decide⟩
theorem ok_S_charAt : sm_okM mm_S_charAt 1 := ⟨sm_in 79 (by decide +kernel) (by decide +kernel), sm_in 399 (by decide +kernel) (by decide +kernel), by decide, by decide, (by decide +kernel), by decide⟩
theorem ok_S_isLatin1 : sm_okM mm_S_isLatin1 0 := ⟨sm_in 79 (by decide +kernel) (by decide +kernel), sm_in 403 (by decide +kernel) (by decide +kernel), by decide, by decide, (by decide +kernel), by decide⟩
theorem ok_S_chk : sm_okM mm_S_chk 2 := ⟨sm_in 79 (by decide +kernel) (by decide +kernel), sm_in 409 (by decide +kernel) (by decide +kernel), by decide, by decide, (by decide +kernel), by decide⟩
theorem ok_S_l1 : sm_okM mm_S_l1 2 := ⟨sm_in 80 (by decide +kernel) (by decide +kernel), sm_in 406 (by decide +kernel) (by decide +kernel), by decide, by decide, (by decide +kernel), by decide⟩
theorem ok_S_pre : sm_okM mm_S_pre 3 := ⟨sm_in 81 (by decide +kernel) (by decide +kernel), sm_in 414 (by decide +kernel) (by decide +kernel), by decide, by decide, (by decide +kernel), by decide⟩
/-- a method of a String in the pool of own at idx -/
def sm_mw (own : String) (idx : Nat) (M2 : sm_M) (n : Nat) : Prop := Cond.methodLink own idx M2.1 ∈ sm_big ∧ Cond.instanceMethod M2.1 ∈ sm_big ∧ Cond.selects "java/lang/String" M2.1 M2.1 ∈ sm_big ∧ M2.1.cls = "java/lang/String" ∧ sm_okM M2 n
/-- a static method of another file -/
def sm_mo (own : String) (idx : Nat) (M2 : sm_M) (n : Nat) : Prop := Cond.methodLink own idx M2.1 ∈ sm_big ∧ Cond.static M2.1 ∈ sm_big ∧ sm_okM M2 n
theorem mw_length_92 : sm_mw "UpdateDesk$Plan" 92 mm_S_length 0 := ⟨sm_in 385 (by decide +kernel) (by decide +kernel), sm_in 386 (by decide +kernel) (by decide +kernel), sm_in 387 (by decide +kernel) (by decide +kernel), rfl, ok_S_length⟩
theorem mw_charAt_98 : sm_mw "UpdateDesk$Plan" 98 mm_S_charAt 1 := ⟨sm_in 396 (by decide +kernel) (by decide +kernel), sm_in 397 (by decide +kernel) (by decide +kernel), sm_in 398 (by decide +kernel) (by decide +kernel), rfl, ok_S_charAt⟩
theorem mw_coder_335 : sm_mw "java/lang/String" 335 mm_S_coder 0 := ⟨sm_in 389 (by decide +kernel) (by decide +kernel), sm_in 390 (by decide +kernel) (by decide +kernel), sm_in 391 (by decide +kernel) (by decide +kernel), rfl, ok_S_coder⟩
theorem mw_isLatin1_492 : sm_mw "java/lang/String" 492 mm_S_isLatin1 0 := ⟨sm_in 400 (by decide +kernel) (by decide +kernel), sm_in 401 (by decide +kernel) (by decide +kernel), sm_in 402 (by decide +kernel) (by decide +kernel), rfl, ok_S_isLatin1⟩
theorem mo_l1_495 : sm_mo "java/lang/String" 495 mm_S_l1 2 := ⟨sm_in 404 (by decide +kernel) (by decide +kernel), sm_in 405 (by decide +kernel) (by decide +kernel), ok_S_l1⟩
theorem mo_chk_9 : sm_mo "java/lang/StringLatin1" 9 mm_S_chk 2 := ⟨sm_in 407 (by decide +kernel) (by decide +kernel), sm_in 408 (by decide +kernel) (by decide +kernel), ok_S_chk⟩
theorem mo_pre_1059 : sm_mo "java/lang/String" 1059 mm_S_pre 3 := ⟨sm_in 412 (by decide +kernel) (by decide +kernel), sm_in 413 (by decide +kernel) (by decide +kernel), ok_S_pre⟩
theorem fk_value : Cond.fieldLink "java/lang/String" (9 : Nat) "java/lang/String" "value" "[B" ∈ sm_big := sm_in 932 (by decide +kernel) (by decide +kernel)
theorem fk_coder : Cond.fieldLink "java/lang/String" (15 : Nat) "java/lang/String" "coder" "B" ∈ sm_big := sm_in 933 (by decide +kernel) (by decide +kernel)
theorem fk_comp : Cond.fieldLink "java/lang/String" (38 : Nat) "java/lang/String" "COMPACT_STRINGS" "Z" ∈ sm_big := sm_in 393 (by decide +kernel) (by decide +kernel)
theorem fk_fmt : Cond.fieldLink "java/lang/String" (1053 : Nat) "jdk/internal/util/Preconditions" "SIOOBE_FORMATTER" "Ljava/util/function/BiFunction;" ∈ sm_big := sm_in 410 (by decide +kernel) (by decide +kernel)
section Rows6
variable {N d : Nat} {M : sm_M} {pc : Nat} {L : List (Nat × Value)} {st : List Value} {h : sm_H} {Q : Option Value → sm_H → Prop}
theorem sm_v_t (G : sm_G) {j : Nat} (hj : j < 6) : sm_v G (.retAddr j) = .ref (G.2.1 j) := by
  simp only [sm_v]
  rw [if_pos hj]
theorem sm_v_b (G : sm_G) (j : Nat) : sm_v G (.retAddr (6 + j)) = .ref (G.2.2.1 j) := by
  simp only [sm_v]
  rw [if_neg (by omega), show 6 + j - 6 = j by omega]
theorem sm_tval {j : Nat} (n : Nat) (hd : decode M.2.1 pc = .ok (.getfield 9, 3)) (hM : M.1.cls = "java/lang/String") (hj : j < 6) (hp : pc + 3 = n) (k : sm_W N d M n L (.retAddr (6 + j) :: st) h Q) : sm_W N d M pc L (.retAddr j :: st) h Q := by
  subst hp
  refine sm_goR (fun l G p e s m args below meth c H locs ls Z X B hls w => ?_) k
  rw [List.map_cons, sm_v_b] at w
  rw [List.map_cons, sm_v_t G hj]
  exact vk_getf X.1 X.2.1 ((X.2.2.2.2.2.2.2.2.2.2.1).1 j hj).2.2.1 B.2.2 (own := "java/lang/String") (ref := "java/lang/String") (hM ▸ X.2.2.2.2.2.1) (X.2.2.2.2.2.2.1 _ (sm_in_code M fk_value)) (fun _ q => q) hd w
theorem sm_tcod {j : Nat} (n : Nat) (hd : decode M.2.1 pc = .ok (.getfield 15, 3)) (hM : M.1.cls = "java/lang/String") (hj : j < 6) (hp : pc + 3 = n) (k : sm_W N d M n L (.int 0 :: st) h Q) : sm_W N d M pc L (.retAddr j :: st) h Q := by
  subst hp
  refine sm_goR (fun l G p e s m args below meth c H locs ls Z X B hls w => ?_) k
  rw [List.map_cons, sm_v_t G hj]
  exact vk_getf X.1 X.2.1 ((X.2.2.2.2.2.2.2.2.2.2.1).1 j hj).2.1 B.2.2 (own := "java/lang/String") (ref := "java/lang/String") (hM ▸ X.2.2.2.2.2.1) (X.2.2.2.2.2.2.1 _ (sm_in_code M fk_coder)) (fun _ q => q) hd w
theorem sm_tcmp (n : Nat) (hd : decode M.2.1 pc = .ok (.getstatic 38, 3)) (hM : M.1.cls = "java/lang/String") (hp : pc + 3 = n) (k : sm_W N d M n L (.int 1 :: st) h Q) : sm_W N d M pc L st h Q := by
  subst hp
  refine sm_goR (fun l G p e s m args below meth c H locs ls Z X B hls w => ?_) k
  exact va_gets X.1 X.2.1 (X.2.2.2.2.2.2.2.2.2.2.2.1) B.2.2 (own := "java/lang/String") (hM ▸ X.2.2.2.2.2.1) (X.2.2.2.2.2.2.1 _ (sm_in_code M fk_comp)) (fun _ q => q) hd w
theorem sm_tfmt (n : Nat) (hd : decode M.2.1 pc = .ok (.getstatic 1053, 3)) (hM : M.1.cls = "java/lang/String") (hp : pc + 3 = n) (k : sm_W N d M n L (.float 0 :: st) h Q) : sm_W N d M pc L st h Q := by
  subst hp
  refine sm_goR (fun l G p e s m args below meth c H locs ls Z X B hls w => ?_) k
  exact va_gets X.1 X.2.1 (X.2.2.2.2.2.2.2.2.2.2.2.2) B.2.2 (own := "java/lang/String") (hM ▸ X.2.2.2.2.2.1) (X.2.2.2.2.2.2.1 _ (sm_in_code M fk_fmt)) (fun _ q => q) hd w
theorem sm_tlen {j : Nat} (n : Nat) (hd : decode M.2.1 pc = .ok (.arraylength, 1)) (hj : j < 6) (hp : pc + 1 = n) (k : sm_W N d M n L (.int (Int32.ofNat (sm_sl.getD j 0)) :: st) h Q) : sm_W N d M pc L (.retAddr (6 + j) :: st) h Q := by
  subst hp
  refine sm_goR (fun l G p e s m args below meth c H locs ls Z X B hls w => ?_) k
  rw [List.map_cons, sm_v_b]
  exact va_tlen X.1 X.2.1 ((X.2.2.2.2.2.2.2.2.2.2.1).1 j hj).2.2.2 B.2.2 rfl hd w
theorem sm_tbal {j : Nat} {i : Int32} (n : Nat) (hd : decode M.2.1 pc = .ok (.baload, 1)) (hj : j < 6) (hi : 0 ≤ i.toInt ∧ i.toInt < (sm_sl.getD j 0 : Nat)) (hp : pc + 1 = n) (k : sm_W N d M n L (.int ((sm_sb.getD j []).getD i.toNatClampNeg 0) :: st) h Q) : sm_W N d M pc L (.int i :: .retAddr (6 + j) :: st) h Q := by
  subst hp
  refine sm_goR (fun l G p e s m args below meth c H locs ls Z X B hls w => ?_) k
  rw [List.map_cons, List.map_cons, sm_v_b]
  exact va_tb X.1 X.2.1 ((X.2.2.2.2.2.2.2.2.2.2.1).1 j hj).2.2.2 B.2.2 (sm_vpin hi.1 hi.2) rfl hd w
theorem sm_i2c {x : Int32} (n : Nat) (hd : decode M.2.1 pc = .ok (.i2c, 1)) (hp : pc + 1 = n) (k : sm_W N d M n L (.int (x.toUInt32 % 65536).toInt32 :: st) h Q) : sm_W N d M pc L (.int x :: st) h Q := by
  subst hp
  exact sm_go (fun l G p e s m args below meth c H locs ls Z X hl w => lv_i2c X.1 X.2.1 hd rfl w) k
theorem sm_nret {x : Int32} {ty : FieldType} (hr : M.2.2.2 = some ty) (hn : narrow ty (.int x) = .int x) (hd : decode M.2.1 pc = .ok (.ireturn, 1)) (hq : Q (some (.int x)) h) : sm_W N d M pc L [.int x] h Q :=
  ⟨_, h, fun e0 => ⟨e0, fun l G p e s m args below meth c H locs ls X B hl => W.zret X.1 X.2.1 (X.2.2.1.trans hr) hn (fun t ht hW => ⟨rfl, by rw [ht]; exact B.1, B.2.2.F ht⟩) B.2.2.2.2 hd (hlocks := X.2.2.2.1)⟩, hq⟩
/-- a String's method, called -/
theorem sm_callW {dc idx j np : Nat} {M2 : sm_M} {av rest : List Value} {K : Option Value → sm_H → Prop} (n : Nat) (hd : decode M.2.1 pc = .ok (.invokevirtual idx, 3)) (hm : sm_mw M.1.cls idx M2 np) (hdc : dc + 1 ≤ d) (hst : st = av.reverse ++ .retAddr j :: rest) (hj : j < 6) (hn : av.length = np) (hc : (rest.map (fun v => v.category)).sum ≤ 8) (hp : pc + 3 = n) (hT : sm_T N dc M2 (.retAddr j :: av) h K)
    (kk : ∀ r h1, K r h1 → sm_W N d M n L (r.toList ++ rest) h1 Q) : sm_W N d M pc L st h Q := by
  obtain ⟨m1, m2, m3, m4, ⟨o1, o2, o3, o4, o5, o6⟩⟩ := hm
  refine sm_callX n hp hT (rest := rest) (fun l G p e s m args below meth c H locs ls r h1 X B hl hM => ?_) kk
  have hts := X.2.2.2.2.2.2.1
  have hG : GoodIn (sm_ws M) (wsV M.1.cls idx "java/lang/String" M2.1 (sm_ws M2)) := by
    intro w hw
    rcases List.mem_append.mp hw with hw | hw
    · simp only [List.mem_cons, List.not_mem_nil, or_false] at hw
      rcases hw with rfl | rfl | rfl | rfl
      · exact ⟨sm_in_code M m1, sm_big_good m1⟩
      · exact ⟨sm_in_code M m2, sm_big_good m2⟩
      · exact ⟨sm_in_code M m3, sm_big_good m3⟩
      · rw [← m4]; exact ⟨sm_in_code M o1, sm_big_good o1⟩
    · exact sm_goodIn M M2 o2 w hw
  have hcw := cwV (R := sm_R d) (rm := sm_R dc) (mc := 0) (ms := 0) np hts hG rfl rfl rfl ⟨m4, o3, o4, o5⟩ ⟨hdc, by show 8 + (M2.2.2.1 + 11) + 40 * dc ≤ 40 * d; omega⟩
  have hrec := vk_recv (X.2.2.2.2.2.2.2.2.2.2.1) hj B.2.2
  refine va_runV (As := av.map (sm_v G)) (rest := rest.map (sm_v G)) (b := G.2.1 j) ⟨X.1, X.2.1, X.2.2.2.2.1, X.2.2.2.2.2.1, hts⟩ hM hcw ⟨sm_blind G N _ h, hrec, fun U hU hW => ?_⟩ rfl (by rw [List.length_map]; exact hn) hl.1 (by rw [hst, ← sm_v_t G hj]; simp) (lv_room (by rw [List.map_map]; have : ((fun v : Value => v.category) ∘ sm_v G) = (fun v : Value => v.category) := funext (sm_v_cat G); rw [this]; exact hc)) hd ⟨Nat.le_refl _, Nat.le_refl _⟩
  have := sm_pre (av := .retAddr j :: av) X B U hU hW
  rw [List.map_cons, sm_v_t G hj] at this
  exact this
theorem sm_callO {dc idx np : Nat} {M2 : sm_M} {av rest : List Value} {K : Option Value → sm_H → Prop} (n : Nat) (hd : decode M.2.1 pc = .ok (.invokestatic idx, 3)) (hm : sm_mo M.1.cls idx M2 np) (hdc : dc + 1 ≤ d) (hst : st = av.reverse ++ rest) (hn : av.length = np) (hc : (rest.map (fun v => v.category)).sum ≤ 8) (hp : pc + 3 = n) (hT : sm_T N dc M2 av h K)
    (kk : ∀ r h1, K r h1 → sm_W N d M n L (r.toList ++ rest) h1 Q) : sm_W N d M pc L st h Q := by
  obtain ⟨m1, m2, ⟨o1, o2, o3, o4, o5, o6⟩⟩ := hm
  refine sm_callX n hp hT (rest := rest) (fun l G p e s m args below meth c H locs ls r h1 X B hl hM => ?_) kk
  have hts := X.2.2.2.2.2.2.1
  have hG : GoodIn (sm_ws M) (va_wsS M.1.cls idx M2.1 (sm_ws M2)) := by
    intro w hw
    rcases List.mem_append.mp hw with hw | hw
    · simp only [List.mem_cons, List.not_mem_nil, or_false] at hw
      rcases hw with rfl | rfl | rfl
      · exact ⟨sm_in_code M m1, sm_big_good m1⟩
      · exact ⟨sm_in_code M m2, sm_big_good m2⟩
      · exact ⟨sm_in_code M o1, sm_big_good o1⟩
    · exact sm_goodIn M M2 o2 w hw
  have hcw := va_cwS (R := sm_R d) (rm := sm_R dc) (mc := 0) (ms := 0) np hts hG rfl rfl rfl ⟨o3, o4, o5⟩ ⟨hdc, by show 8 + (M2.2.2.1 + 11) + 40 * dc ≤ 40 * d; omega⟩
  exact va_runS (As := av.map (sm_v G)) (rest := rest.map (sm_v G)) ⟨X.1, X.2.1, X.2.2.2.2.1, X.2.2.2.2.2.1, hts⟩ hM hcw ⟨sm_blind G N _ h, fun U hU hW => sm_pre X B U hU hW⟩ rfl (by rw [List.length_map]; exact hn) hl.1 (by rw [hst]; simp) (lv_room (by rw [List.map_map]; have : ((fun v : Value => v.category) ∘ sm_v G) = (fun v : Value => v.category) := funext (sm_v_cat G); rw [this]; exact hc)) hd ⟨Nat.le_refl _, Nat.le_refl _⟩
end Rows6
section Str
variable {N d : Nat} {h : sm_H} {Q : Option Value → sm_H → Prop} {j : Nat}
set_option maxRecDepth 20000 in
theorem sS_coder (hj : j < 6) (hQ : Q (some (.int 0)) h) : sm_T N (d + 1) mm_S_coder [.retAddr j] h Q := by
  refine sm_meth (L := [(0, .retAddr j)]) (by decide +kernel) (fun _ => Nat.le_of_ble_eq_true rfl) (fun _ => rfl) ?_
  refine sm_tcmp 3 (by decide +kernel) rfl rfl ?_
  refine sm_if_eq (off := 10) 6 13 (by decide +kernel) (by decide) rfl (fun q => absurd q (by decide)) (fun q => ?_)
  refine sm_aload_nS (k := 0) 7 0 (by decide +kernel) rfl rfl rfl ?_
  refine sm_tcod 10 (by decide +kernel) rfl hj rfl ?_
  refine sm_goto (off := 4) 14 (by decide +kernel) (by decide) ?_
  exact sm_nret rfl rfl (by decide +kernel) hQ
set_option maxRecDepth 20000 in
theorem sS_latin (hj : j < 6) (hQ : Q (some (.int 1)) h) : sm_T N (d + 1) mm_S_isLatin1 [.retAddr j] h Q := by
  refine sm_meth (L := [(0, .retAddr j)]) (by decide +kernel) (fun _ => Nat.le_of_ble_eq_true rfl) (fun _ => rfl) ?_
  refine sm_tcmp 3 (by decide +kernel) rfl rfl ?_
  refine sm_if_eq (off := 14) 6 17 (by decide +kernel) (by decide) rfl (fun q => absurd q (by decide)) (fun q => ?_)
  refine sm_aload_nS (k := 0) 7 0 (by decide +kernel) rfl rfl rfl ?_
  refine sm_tcod 10 (by decide +kernel) rfl hj rfl ?_
  refine sm_if_ne (off := 7) 13 17 (by decide +kernel) (by decide) rfl (fun q => absurd rfl q) (fun q => ?_)
  refine sm_iconst (i := 1) (x := 1) 14 (by decide +kernel) rfl rfl ?_
  refine sm_goto (off := 4) 18 (by decide +kernel) (by decide) ?_
  exact sm_nret rfl rfl (by decide +kernel) hQ
set_option maxRecDepth 20000 in
theorem sS_length (hj : j < 6) (hQ : Q (some (.int (Int32.ofNat (sm_sl.getD j 0)))) h) : sm_T N (d + 1 + 1) mm_S_length [.retAddr j] h Q := by
  refine sm_meth (L := [(0, .retAddr j)]) (by decide +kernel) (fun _ => Nat.le_of_ble_eq_true rfl) (fun _ => rfl) ?_
  refine sm_aload_nS (k := 0) 1 0 (by decide +kernel) rfl rfl rfl ?_
  refine sm_tval 4 (by decide +kernel) rfl hj rfl ?_
  refine sm_tlen 5 (by decide +kernel) hj rfl ?_
  refine sm_aload_nS (k := 0) 6 0 (by decide +kernel) rfl rfl rfl ?_
  refine sm_callW (M2 := mm_S_coder) (av := []) (rest := [.int (Int32.ofNat (sm_sl.getD j 0))]) 9 (by decide +kernel) mw_coder_335 (Nat.le_refl _) rfl hj rfl (Nat.le_of_ble_eq_true rfl) rfl (sS_coder (Q := fun r h1 => r = some (.int 0) ∧ h1 = h) hj ⟨rfl, rfl⟩) ?_
  rintro r h1 ⟨rfl, rfl⟩
  refine sm_ishr 10 (by decide +kernel) rfl ?_
  refine sm_iret rfl (by decide +kernel) ?_
  rcases (show j = 0 ∨ j = 1 ∨ j = 2 ∨ j = 3 ∨ j = 4 ∨ j = 5 by omega) with rfl | rfl | rfl | rfl | rfl | rfl <;> exact hQ
set_option maxRecDepth 20000 in
theorem sS_pre {x y : Int32} (hx : 0 ≤ x.toInt ∧ x.toInt < y.toInt) (hQ : Q (some (.int x)) h) : sm_T N (d + 1) mm_S_pre [.int x, .int y, .float 0] h Q := by
  have z0 : (0 : Int32).toInt = 0 := rfl
  refine sm_meth (L := [(0, .int x), (1, .int y), (2, .float 0)]) (by decide +kernel) (fun G => ?_) (fun G => ?_) ?_
  · simp only [List.map_cons, List.map_nil, sm_v]
    cases (if G.2.2.1 6 = 0 then none else some (G.2.2.1 6 - 1)) <;> exact Nat.le_of_ble_eq_true rfl
  · simp only [List.map_cons, List.map_nil, sm_l, sm_v]
    cases (if G.2.2.1 6 = 0 then none else some (G.2.2.1 6 - 1)) <;> rfl
  refine sm_iload_n (k := 0) 1 0 (by decide +kernel) rfl rfl rfl ?_
  refine sm_if_lt (off := 8) 4 9 (by decide +kernel) (by decide) rfl (fun q => ?_) (fun q => ?_)
  · have := Int32.lt_iff_toInt_lt.mp q
    omega
  refine sm_iload_n (k := 0) 5 0 (by decide +kernel) rfl rfl rfl ?_
  refine sm_iload_n (k := 1) 6 1 (by decide +kernel) rfl rfl rfl ?_
  refine sm_icmp_lt (off := 10) 9 16 (by decide +kernel) (by decide) rfl (fun q => ?_) (fun q => absurd (Int32.lt_iff_toInt_lt.mpr hx.2) q)
  refine sm_iload_n (k := 0) 17 0 (by decide +kernel) rfl rfl rfl ?_
  exact sm_iret rfl (by decide +kernel) hQ
set_option maxRecDepth 20000 in
theorem sS_chk {x y : Int32} (hx : 0 ≤ x.toInt ∧ x.toInt < y.toInt) (hQ : Q none h) : sm_T N (d + 1 + 1) mm_S_chk [.int x, .int y] h Q := by
  refine sm_meth (L := [(0, .int x), (1, .int y)]) (by decide +kernel) (fun _ => Nat.le_of_ble_eq_true rfl) (fun _ => rfl) ?_
  refine sm_iload_n (k := 0) 1 0 (by decide +kernel) rfl rfl rfl ?_
  refine sm_iload_n (k := 1) 2 1 (by decide +kernel) rfl rfl rfl ?_
  refine sm_tfmt 5 (by decide +kernel) rfl rfl ?_
  refine sm_callO (M2 := mm_S_pre) (av := [.int x, .int y, .float 0]) (rest := []) 8 (by decide +kernel) mo_pre_1059 (Nat.le_refl _) rfl rfl (Nat.le_of_ble_eq_true rfl) rfl (sS_pre (Q := fun r h1 => r = some (.int x) ∧ h1 = h) hx ⟨rfl, rfl⟩) ?_
  rintro r h1 ⟨rfl, rfl⟩
  refine sm_pop 9 (by decide +kernel) rfl rfl ?_
  exact sm_vret rfl (by decide +kernel) hQ
theorem sm_chr (b : Int32) : narrow .char (.int ((b &&& 255).toUInt32 % 65536).toInt32) = .int ((b &&& 255).toUInt32 % 65536).toInt32 ∧ ((b &&& 255).toUInt32 % 65536).toInt32 = b &&& 255 := by
  have h1 : ((b &&& 255).toUInt32 % 65536).toInt32 = b &&& 255 := sc_c2 _
  rw [h1]
  exact ⟨sc_nar _, rfl⟩
set_option maxRecDepth 20000 in
theorem sS_l1 {x : Int32} (hj : j < 6) (hx : 0 ≤ x.toInt ∧ x.toInt < (sm_sl.getD j 0 : Nat)) (hQ : Q (some (.int ((sm_sb.getD j []).getD x.toNatClampNeg 0 &&& 255))) h) : sm_T N (d + 2 + 1) mm_S_l1 [.retAddr (6 + j), .int x] h Q := by
  have hl : (Int32.ofNat (sm_sl.getD j 0)).toInt = (sm_sl.getD j 0 : Nat) := by rcases (show j = 0 ∨ j = 1 ∨ j = 2 ∨ j = 3 ∨ j = 4 ∨ j = 5 by omega) with rfl | rfl | rfl | rfl | rfl | rfl <;> rfl
  refine sm_meth (L := [(0, .retAddr (6 + j)), (1, .int x)]) (by decide +kernel) (fun _ => Nat.le_of_ble_eq_true rfl) (fun _ => rfl) ?_
  refine sm_iload_n (k := 1) 1 1 (by decide +kernel) rfl rfl rfl ?_
  refine sm_aload_nS (k := 0) 2 0 (by decide +kernel) rfl rfl rfl ?_
  refine sm_tlen 3 (by decide +kernel) hj rfl ?_
  refine sm_callO (M2 := mm_S_chk) (av := [.int x, .int (Int32.ofNat (sm_sl.getD j 0))]) (rest := []) 6 (by decide +kernel) mo_chk_9 (Nat.le_refl _) rfl rfl (Nat.le_of_ble_eq_true rfl) rfl (sS_chk (d := d) (Q := fun r h1 => r = none ∧ h1 = h) ⟨hx.1, by rw [hl]; exact hx.2⟩ ⟨rfl, rfl⟩) ?_
  rintro r h1 ⟨rfl, rfl⟩
  refine sm_aload_nS (k := 0) 7 0 (by decide +kernel) rfl rfl rfl ?_
  refine sm_iload_n (k := 1) 8 1 (by decide +kernel) rfl rfl rfl ?_
  refine sm_tbal 9 (by decide +kernel) hj hx rfl ?_
  refine sm_sipush (i := 255) (x := 255) 12 (by decide +kernel) (by decide) rfl ?_
  refine sm_iand 13 (by decide +kernel) rfl ?_
  refine sm_i2c 14 (by decide +kernel) rfl ?_
  obtain ⟨c1, c2⟩ := sm_chr ((sm_sb.getD j []).getD x.toNatClampNeg 0)
  refine sm_nret rfl c1 (by decide +kernel) ?_
  rw [c2]
  exact hQ
set_option maxRecDepth 20000 in
theorem sS_charAt {x : Int32} (hj : j < 6) (hx : 0 ≤ x.toInt ∧ x.toInt < (sm_sl.getD j 0 : Nat)) (hQ : Q (some (.int ((sm_sb.getD j []).getD x.toNatClampNeg 0 &&& 255))) h) : sm_T N (d + 3 + 1) mm_S_charAt [.retAddr j, .int x] h Q := by
  refine sm_meth (L := [(0, .retAddr j), (1, .int x)]) (by decide +kernel) (fun _ => Nat.le_of_ble_eq_true rfl) (fun _ => rfl) ?_
  refine sm_aload_nS (k := 0) 1 0 (by decide +kernel) rfl rfl rfl ?_
  refine sm_callW (M2 := mm_S_isLatin1) (av := []) (rest := []) 4 (by decide +kernel) mw_isLatin1_492 (Nat.le_refl _) rfl hj rfl (Nat.le_of_ble_eq_true rfl) rfl (sS_latin (d := d + 2) (Q := fun r h1 => r = some (.int 1) ∧ h1 = h) hj ⟨rfl, rfl⟩) ?_
  rintro r h1 ⟨rfl, rfl⟩
  refine sm_if_eq (off := 12) 7 16 (by decide +kernel) (by decide) rfl (fun q => absurd q (by decide)) (fun q => ?_)
  refine sm_aload_nS (k := 0) 8 0 (by decide +kernel) rfl rfl rfl ?_
  refine sm_tval 11 (by decide +kernel) rfl hj rfl ?_
  refine sm_iload_n (k := 1) 12 1 (by decide +kernel) rfl rfl rfl ?_
  refine sm_callO (M2 := mm_S_l1) (av := [.retAddr (6 + j), .int x]) (rest := []) 15 (by decide +kernel) mo_l1_495 (Nat.le_refl _) rfl rfl (Nat.le_of_ble_eq_true rfl) rfl (sS_l1 (d := d) (Q := fun r h2 => r = some (.int ((sm_sb.getD j []).getD x.toNatClampNeg 0 &&& 255)) ∧ h2 = h1) hj hx ⟨rfl, rfl⟩) ?_
  rintro r h2 ⟨rfl, rfl⟩
  refine sm_nret rfl ?_ (by decide +kernel) hQ
  obtain ⟨c1, c2⟩ := sm_chr ((sm_sb.getD j []).getD x.toNatClampNeg 0)
  rw [c2] at c1
  exact c1
end Str
