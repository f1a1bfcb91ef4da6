/-! the class's editor: setValue, unsetValue, increase -/
theorem lb8_lw (v : Int64) : lb8 v = lw v 8 := by
  rw [lb8, lw]
  refine List.map_congr_left (fun i _ => ?_)
  rw [← nI_mul, Int64.toInt32_and]
  show ub (Int64.toInt32 (v >>> (Int32.toInt64 (8 * nI i) &&& 63))) = ub (Int64.toInt32 (v >>> (Int32.toInt64 (8 * nI i) &&& 63)) &&& 255)
  rw [ub_and, ub_nI (ub_lt _)]
theorem lw84 (v : Int64) : (lw v 8).take 4 = lw v 4 := rfl
theorem i64_neg (x : Int64) : x < 0 ↔ x.toBitVec.msb = true := by
  rw [Int64.lt_iff_toInt_lt, BitVec.msb_eq_toInt, decide_eq_true_iff]
  rfl
theorem ov_class {a b : Int64} : ¬ 0 ≤ lg_cmp ((a ^^^ (a + b)) &&& (b ^^^ (a + b))) 0 ↔ ovf a b := by
  have h1 : ¬ 0 ≤ lg_cmp ((a ^^^ (a + b)) &&& (b ^^^ (a + b))) 0 ↔ ((a ^^^ (a + b)) &&& (b ^^^ (a + b))) < 0 := by
    generalize (a ^^^ (a + b)) &&& (b ^^^ (a + b)) = z
    rw [lg_cmp]
    by_cases c1 : z > 0
    · rw [if_pos c1]
      refine ⟨fun h => absurd (by decide) h, fun h => ?_⟩
      have := Int64.lt_iff_toInt_lt.mp c1
      have := Int64.lt_iff_toInt_lt.mp h
      omega
    · rw [if_neg c1]
      by_cases c2 : z = 0
      · rw [if_pos c2]
        refine ⟨fun h => absurd (by decide) h, fun h => ?_⟩
        rw [c2] at h
        exact absurd h Int64.lt_irrefl
      · rw [if_neg c2]
        refine ⟨fun _ => ?_, fun _ => by decide⟩
        rw [Int64.lt_iff_toInt_lt]
        have h3 : ¬ (0 : Int64).toInt < z.toInt := fun h => c1 (Int64.lt_iff_toInt_lt.mpr h)
        have h4 : ¬ z.toInt = (0 : Int64).toInt := fun h => c2 (Int64.toInt_inj.mp h)
        omega
  rw [h1, i64_neg]
  have e1 : ((a ^^^ (a + b)) &&& (b ^^^ (a + b))).toBitVec.msb = ((a.toBitVec.msb ^^ (a + b).toBitVec.msb) && (b.toBitVec.msb ^^ (a + b).toBitVec.msb)) := by
    show ((a.toBitVec ^^^ (a + b).toBitVec) &&& (b.toBitVec ^^^ (a + b).toBitVec)).msb = _
    rw [BitVec.msb_and, BitVec.msb_xor, BitVec.msb_xor]
  rw [e1, ovf, i64_neg, i64_neg, i64_neg]
  generalize a.toBitVec.msb = x
  generalize b.toBitVec.msb = y
  generalize (a + b).toBitVec.msb = z
  cases x <;> cases y <;> cases z <;> decide
section Op
variable {N d : Nat} {Q : Option Value → sm_H → Prop} {T : sT} {gs : List Frm} {es l1 l2 : List El} {e a : El} {k x y : Nat} {w A6 B6 : List Nat}
theorem sE_set_n (hE : EdO T) (h7 : bl T 7 = plg gs (encD es)) (hH : HS T gs) (hg : gs.length ≤ 8) (h9 : T.1 9 = -1) (h10 : T.1 10 = nI x) (h11 : T.1 11 = nI y) (hxy : x ≤ y) (hy : y ≤ (bl T 6).length) (hsl : slice (bl T 6) x y = w) (hl6 : bl T 6 = A6 ++ (enc1 a ++ B6)) (wa : wfE a) (hak : a.1 < 256) (hcap : (bl T 7).length + (2 + w.length + a.2.2.length) ≤ 10000) (hQ : ∀ U, frE T U → EdO U → bl U 7 = plg gs (encD (es ++ [(a.1, w, a.2.2)])) → Q (some (.int 1)) (hp U)) : sm_V N (d + 4 + 1) mm_E_setValue 2 9 [.ref 23, .int (nI A6.length)] (hp T) Q := by
  have hb := eB_len hE.1 hl6
  have q1 : (A6 ++ enc1 a).length = A6.length + 2 + a.2.1.length + a.2.2.length := by rw [List.length_append, enc1_len]; omega
  refine cE_setValue (hk_9 T) (eB_vs (j := 6) (d := d + 3) (by omega) hE.1 hl6 wa ⟨_, rfl, eB_ve (j := 6) (d := d + 2) (by omega) hE.1 hl6 wa ⟨_, rfl, _, hg_9_7 T, fun _ => ?_, fun c => absurd h9 c⟩⟩)
  refine eB_kind (j := 6) (d := d + 3) (by omega) hE.1 hl6 ⟨_, rfl, ?_⟩
  refine sE_addElement (d := d) (jn := 6) (js := 6) (v := a.2.2) hE.2.1 (by omega) hE.1 (by omega) (by omega) hE.1 (by omega) hH hg h7 hak h10 h11 hxy hy hsl (by omega) (by omega) (by rw [q1]; exact eB_raw hl6) hcap (fun U hU => ⟨rfl, hQ U (frE_tr (frE_sI T (by omega) _) (frE_eq (Or.inl rfl) hU)) (EdO_eq (Or.inl rfl) (EdO_sI hE (by omega) _) hU) hU.2.2⟩)
theorem sE_set_f (hE : EdO T) (h7 : bl T 7 = plg gs (encD (l1 ++ e :: l2))) (hH : HS T gs) (hg : gs.length ≤ 8) (h9 : T.1 9 = nI (off gs + 4 + (encs l1).length)) (we : wfE e) (hek : e.1 < 256) (hl6 : bl T 6 = A6 ++ (enc1 a ++ B6)) (wa : wfE a) (hak : a.1 < 256) (hcap : (bl T 7).length + a.2.2.length ≤ 10000 + e.2.2.length) (hQ0 : a.1 = e.1 → a.2.2 = e.2.2 → Q (some (.int 0)) (hp T)) (hQ1 : ¬ (a.1 = e.1 ∧ a.2.2 = e.2.2) → ∀ U, frE T U → EdO U → bl U 7 = plg gs (encD (l1 ++ (a.1, e.2.1, a.2.2) :: l2)) → Q (some (.int 1)) (hp U)) : sm_V N (d + 4 + 1) mm_E_setValue 2 9 [.ref 23, .int (nI A6.length)] (hp T) Q := by
  have hb := eB_len hE.1 hl6
  have hlen := bl_lenB hE.2.1
  rw [caps7] at hlen
  have q1 : (A6 ++ enc1 a).length = A6.length + 2 + a.2.1.length + a.2.2.length := by rw [List.length_append, enc1_len]; omega
  have hsm : off gs + 4 + (encs l1).length < 20000 := by
    obtain ⟨A, B, hA, hAB⟩ := nst_c gs (szs gs (encs (l1 ++ e :: l2)).length)
    rw [h7, plg_nst, hAB, List.length_append, hA, List.length_append, encs_app, List.length_append] at hlen
    omega
  refine cE_setValue (hk_9 T) (eB_vs (j := 6) (d := d + 3) (by omega) hE.1 hl6 wa ⟨_, rfl, eB_ve (j := 6) (d := d + 2) (by omega) hE.1 hl6 wa ⟨_, rfl, _, hg_9_7 T, fun c => ?_, fun _ => ?_⟩⟩)
  · rw [h9] at c
    exact absurd c (nI_m1 (by omega))
  · refine eB_kind (j := 6) (d := d + 3) (by omega) hE.1 hl6 ⟨_, rfl, ?_⟩
    refine sE_replaceValue (d := d) (js := 6) (v := a.2.2) hE.2.1 (by omega) hE.1 (by omega) hH hg h7 we hek hak h9 (by omega) (by omega) (by rw [q1]; exact eB_raw hl6) hcap (fun c1 c2 => ⟨_, rfl, hQ0 c1 c2⟩) (fun c U hU => ⟨_, rfl, hQ1 c U (frE_eq (Or.inl rfl) hU) (EdO_eq (Or.inl rfl) hE hU) hU.2.2⟩)
theorem sE_unset (hE : EdO T) (h7 : bl T 7 = plg gs (encD (l1 ++ e :: l2))) (hH : HS T gs) (hg : gs.length ≤ 8) (h8 : T.1 8 = nI k) (hk : k = 3 ∨ k = 4) (h9 : T.1 9 = nI (off gs + 4 + (encs l1).length)) (we : wfE e) (hek : e.1 < 256) (hQ3 : k = 3 → ∀ U, frE T U → EdO U → bl U 7 = plg gs (encD (l1 ++ l2)) → Q (some (.int 1)) (hp U)) (hQ0 : k = 4 → 10 = e.1 → [] = e.2.2 → Q (some (.int 0)) (hp T)) (hQ1 : k = 4 → ¬ (10 = e.1 ∧ [] = e.2.2) → ∀ U, frE T U → EdO U → bl U 7 = plg gs (encD (l1 ++ (10, e.2.1, []) :: l2)) → Q (some (.int 1)) (hp U)) : sm_V N (d + 4 + 1) mm_E_unsetValue 2 9 [] (hp T) Q := by
  have hlen := bl_lenB hE.2.1
  rw [caps7] at hlen
  refine cE_unsetValue (hk_9 T) ⟨_, hg_9_6 T, ?_⟩
  rw [h8]
  refine ⟨fun c => ⟨_, hg_9_2 T, ?_⟩, fun c => ⟨_, hg_9_7 T, _, hg_9_0 T, _, hg_9_7 T, ?_⟩⟩
  · rw [nI_eql (by omega) (by omega)] at c
    refine sE_replaceValue (d := d) (js := 8) (k := 10) (a := 0) (b := 0) (v := []) hE.2.1 (by omega) hE.2.2.1 (by omega) hH hg h7 we hek (by omega) h9 (by omega) (by omega) (sl_nil (Nat.le_refl _)) (by rw [List.length_nil]; omega) (fun c1 c2 => ⟨_, rfl, hQ0 c c1 c2⟩) (fun c2 U hU => ⟨_, rfl, hQ1 c c2 U (frE_eq (Or.inl rfl) hU) (EdO_eq (Or.inl rfl) hE hU) hU.2.2⟩)
  · rw [nI_eql (by omega) (by omega)] at c
    have c' : ¬ k = 4 := c
    obtain ⟨A, B, hA, hAB⟩ := nst_c gs (szs gs (encs (l1 ++ e :: l2)).length)
    have hl1 : bl T 7 = (A ++ encs l1) ++ (enc1 e ++ (encs l2 ++ B)) := by rw [h7, plg_nst, hAB, encs_app, encs_cons]; simp
    have hpos : off gs + 4 + (encs l1).length = (A ++ encs l1).length := by rw [List.length_append, hA]
    have hb := eB_len hE.2.1 hl1
    rw [h9, hpos]
    refine eB_ve (j := 7) (d := d + 2) (by omega) hE.2.1 hl1 we ⟨_, rfl, _, hg_9_7 T, ?_⟩
    rw [h9, hpos, List.length_append (as := A ++ encs l1), pk_sub (Nat.le_add_right _ _), Nat.add_sub_cancel_left, ← hpos]
    have e0 : (0 : Int32) = nI 0 := rfl
    rw [e0]
    have hl2 : bl T 7 = nst gs (encs l1 ++ (enc1 e ++ encs l2)) (szs gs (encs l1 ++ (enc1 e ++ encs l2)).length) := by rw [h7, plg_nst, encs_app, encs_cons]
    refine sE_resize (d := d + 1) (c1 := encs l1) (mid := enc1 e) (c2 := encs l2) (m := 0) hE.2.1 hH hg hl2 (by omega) (fun U m2 hm2 hU => ⟨_, rfl, ?_⟩)
    have hm : m2 = [] := List.length_eq_zero_iff.mp hm2
    subst hm
    refine hQ3 (by omega) U (frE_eq (Or.inl rfl) hU) (EdO_eq (Or.inl rfl) hE hU) ?_
    rw [hU.2.2, plg_nst, encs_app]
    rfl
theorem sE_inc (hE : EdO T) (h7 : bl T 7 = plg gs (encD (l1 ++ e :: l2))) (hH : HS T gs) (hg : gs.length ≤ 8) (h9 : T.1 9 = nI (off gs + 4 + (encs l1).length)) (we : wfE e) (hek : e.1 < 256) (hl6 : bl T 6 = A6 ++ (enc1 a ++ B6)) (wa : wfE a) (hak : a.1 = 16 ∨ a.1 = 18) (hcap : (bl T 7).length + 8 ≤ 10000) (hQ7 : ¬ (e.1 = 16 ∨ e.1 = 18) → Q (some (.int (-7))) (hp T)) (hQ8 : (e.1 = 16 ∨ e.1 = 18) → ovf (nvR e.1 e.2.2) (nvR a.1 a.2.2) → Q (some (.int (-8))) (hp T))
    (hQ : (e.1 = 16 ∨ e.1 = 18) → ¬ ovf (nvR e.1 e.2.2) (nvR a.1 a.2.2) → ∀ v kk, nvR e.1 e.2.2 + nvR a.1 a.2.2 = v → sumK e.1 a.1 v = kk → (kk = e.1 → numR kk v = e.2.2 → ∀ U, frE T U → EdO U → bl U 7 = bl T 7 → Q (some (.int 0)) (hp U)) ∧ (¬ (kk = e.1 ∧ numR kk v = e.2.2) → ∀ U, frE T U → EdO U → bl U 7 = plg gs (encD (l1 ++ (kk, e.2.1, numR kk v) :: l2)) → Q (some (.int 1)) (hp U))) : sm_V N (d + 4 + 1) mm_E_increase 2 9 [.ref 23, .int (nI A6.length)] (hp T) Q := by
  have hlen := bl_lenB hE.2.1
  rw [caps7] at hlen
  obtain ⟨A, B, hA, hAB⟩ := nst_c gs (szs gs (encs (l1 ++ e :: l2)).length)
  have hl1 : bl T 7 = (A ++ encs l1) ++ (enc1 e ++ (encs l2 ++ B)) := by rw [h7, plg_nst, hAB, encs_app, encs_cons]; simp
  have hpos : off gs + 4 + (encs l1).length = (A ++ encs l1).length := by rw [List.length_append, hA]
  have h9' := h9
  rw [hpos] at h9'
  refine cE_increase (hk_9 T) ⟨_, hg_9_0 T, _, hg_9_7 T, ?_⟩
  rw [h9']
  refine eB_kind (j := 7) (d := d + 3) (by omega) hE.2.1 hl1 ⟨_, rfl, sD_isNumber (d := d + 3) hek ⟨_, rfl, fun c => hQ7 (fun z => ?_), fun c => ⟨_, hg_9_0 T, _, hg_9_7 T, ?_⟩⟩⟩
  · rw [if_pos z] at c
    exact absurd c (by decide)
  have hen : e.1 = 16 ∨ e.1 = 18 := by
    by_cases z : e.1 = 16 ∨ e.1 = 18
    · exact z
    · rw [if_neg z] at c
      exact absurd rfl c
  rw [h9']
  refine sB_numberOf (j := 7) (d := d + 1) (by omega) hE.2.1 hl1 we hen ⟨_, rfl, sB_numberOf (j := 6) (d := d + 1) (by omega) hE.1 hl6 wa hak ⟨_, rfl, fun c2 => ?_, fun c2 => ?_⟩⟩
  · have ho : ¬ ovf (nvR e.1 e.2.2) (nvR a.1 a.2.2) := fun z => ov_class.mpr z c2
    obtain ⟨g0, g1⟩ := hQ hen ho _ _ rfl rfl
    generalize hv : nvR e.1 e.2.2 + nvR a.1 a.2.2 = v at *
    generalize hkk : sumK e.1 a.1 v = kk at *
    -- the sum is put down
    have w99 : ∀ yy : Int32, (yy = 0 ∧ kk = 18) ∨ (yy = 1 ∧ kk = 16) → sm_W N (d + 4 + 1) mm_E_increase 99 [(0, .ref 9), (8, .long v)] [.int yy] (hp T) Q := by
      intro yy hyy
      refine kE_increase_99 ⟨_, hg_9_4 T, sB_num (j := 10) (d := d + 2) (by omega) hE.2.2.2.2.1 (by decide) (fun U hU => ⟨rfl, ?_⟩)⟩
      have uF := frE_eq (Or.inr (Or.inr rfl)) hU
      have uE := EdO_eq (Or.inr (Or.inr rfl)) hE hU
      have u7 : bl U 7 = plg gs (encD (l1 ++ e :: l2)) := by rw [eqB_bl hU (by omega)]; exact h7
      have u9 : U.1 9 = nI (off gs + 4 + (encs l1).length) := by rw [eqB_i hU (by omega)]; exact h9
      have uH : HS U gs := HS_fr (eqB_i hU (by omega)) (eqB_a hU (by omega)) hH
      have u10 : bl U 10 = lw v 8 := by rw [hU.2.2, lb8_lw]
      have hl8 := lw_len v 8
      have fin : ∀ (k2 n2 : Nat), k2 = kk → (n2 = if kk = 16 then 4 else 8) → sm_W N (d + 4 + 1) mm_E_increase 139 [] [.int (nI n2), .int 0, .ref 31, .int (nI k2), .ref 9] (hp U) Q := by
        intro k2 n2 hk2 hn2
        subst hk2
        refine kE_increase_139 ?_
        have e0 : (0 : Int32) = nI 0 := rfl
        rw [fE_increase_139, e0]
        have hk3 : k2 = 16 ∨ k2 = 18 := by rcases hyy with ⟨-, z⟩ | ⟨-, z⟩ <;> omega
        have hsl : slice (bl U 10) 0 n2 = numR k2 v := by
          rw [u10, numR, slice, List.drop_zero, Nat.sub_zero, hn2]
          rcases hk3 with rfl | rfl
          · rw [if_pos rfl, if_pos rfl]
            exact lw84 v
          · rw [if_neg (by decide), if_neg (by decide), List.take_of_length_le (by rw [hl8]; exact Nat.le_refl _)]
        have hnl : (numR k2 v).length ≤ 8 := by
          rw [numR]
          split
          · rw [lw_len]; omega
          · rw [lw_len]; omega
        refine sE_replaceValue (d := d) (js := 10) (k := k2) (v := numR k2 v) uE.2.1 (by omega) uE.2.2.2.2.1 (by omega) uH hg u7 we hek (by omega) u9 (by omega) (by rw [u10, hl8, hn2]; split <;> omega) hsl (by rw [u7, ← h7]; omega) (fun c1 c3 => ⟨_, rfl, g0 c1 c3 U uF uE (by rw [u7, h7])⟩) (fun c3 V hV => ⟨_, rfl, g1 c3 V (frE_tr uF (frE_eq (Or.inl rfl) hV)) (EdO_eq (Or.inl rfl) uE hV) hV.2.2⟩)
      rcases hyy with ⟨rfl, z⟩ | ⟨rfl, z⟩
      · exact ⟨fun _ => kE_increase_123 ⟨_, hg_9_4 U, fun _ => fin 18 8 z.symm (by rw [z]; rfl), fun y2 => absurd rfl y2⟩, fun y2 => absurd rfl y2⟩
      · exact ⟨fun y2 => absurd y2 (by decide), fun _ => kE_increase_123 ⟨_, hg_9_4 U, fun y2 => absurd y2 (by decide), fun _ => fin 16 4 z.symm (by rw [z]; rfl)⟩⟩
    have w98 : kk = 18 → sm_W N (d + 4 + 1) mm_E_increase 98 [(0, .ref 9), (8, .long v)] [] (hp T) Q := fun z => kE_increase_98 (w99 0 (Or.inl ⟨rfl, z⟩))
    refine ⟨fun c3 => eB_kind (j := 6) (d := d + 3) (by omega) hE.1 hl6 ⟨_, rfl, fun c4 => ⟨fun c5 => ?_, fun c5 => ?_⟩, fun c4 => ?_⟩, fun c3 => ?_⟩
    · rw [nI_eql (by omega) (by omega)] at c3 c4
      rw [cmp0] at c5
      refine w99 1 (Or.inr ⟨rfl, ?_⟩)
      rw [← hkk, sumK, if_pos ⟨c3, c4, c5⟩]
    · rw [cmp0] at c5
      refine w98 ?_
      rw [← hkk, sumK, if_neg (fun z => c5 z.2.2)]
    · rw [nI_eql (by omega) (by omega)] at c4
      refine w98 ?_
      rw [← hkk, sumK, if_neg (fun z => c4 z.2.1)]
    · rw [nI_eql (by omega) (by omega)] at c3
      refine w98 ?_
      rw [← hkk, sumK, if_neg (fun z => c3 z.1)]
  · exact hQ8 hen (ov_class.mp c2)
end Op
