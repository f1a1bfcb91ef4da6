/-! the class's editor: addElement, replaceValue -/
theorem plg_at (es : List El) : ∀ fs : List Frm, ∃ A0 B0, A0.length = off fs ∧ plg fs (encD es) = A0 ++ (encD es ++ B0) := by
  intro fs
  induction fs with
  | nil => exact ⟨[], [], rfl, by simp [plg]⟩
  | cons f fs ih =>
    obtain ⟨A0, B0, q1, q2⟩ := ih
    refine ⟨le4 (5 + (encs (f.1 ++ (f.2.1, f.2.2.1, plg fs (encD es)) :: f.2.2.2)).length) ++ (encs f.1 ++ (f.2.1 :: (f.2.2.1 ++ 0 :: A0))), B0 ++ (encs f.2.2.2 ++ [0]), ?_, ?_⟩
    · simp only [List.length_append, le4_len, List.length_cons, q1, off]
      omega
    · rw [plg, encD, encs_app, encs_cons, enc1, q2]
      simp
theorem HS_sI {S : sT} {fs : List Frm} {k : Nat} {x : Int32} (hk : k ≠ 7) (h : HS S fs) : HS (sI S k x) fs := HS_fr (S := S) (T := sI S k x) (by simp only [sI, va_up]; rw [if_neg (fun z => hk z.symm)]) rfl h
section Ed3
variable {N d : Nat} {Q : Option Value → sm_H → Prop}
theorem sE_addElement {S : sT} {fs : List Frm} {es : List El} {k jn js x y a b : Nat} {w v : List Nat} (hw7 : okB S 7) (hjn : jn < 11) (hwn : okB S jn) (hn7 : jn ≠ 7) (hjs : js < 11) (hws : okB S js) (hs7 : js ≠ 7) (hH : HS S fs) (hf : fs.length ≤ 8) (hl : bl S 7 = plg fs (encD es)) (hk : k < 256) (h10 : S.1 10 = nI x) (h11 : S.1 11 = nI y) (hxy : x ≤ y) (hy : y ≤ (bl S jn).length) (hw : slice (bl S jn) x y = w) (hab : a ≤ b) (hb : b ≤ (bl S js).length) (hv : slice (bl S js) a b = v) (hcap : (bl S 7).length + (2 + w.length + v.length) ≤ 10000)
    (hQ : ∀ T, eqB 7 (plg fs (encD (es ++ [(k, w, v)]))) (sI S 9 (nI (off fs + 4 + (encs es).length))) T → Q none (hp T)) :
    sm_V N (d + 3 + 1) mm_E_addElement 2 9 [.int (nI k), .ref (11 + 2 * jn), .ref (11 + 2 * js), .int (nI a), .int (nI b)] (hp S) Q := by
  have hlen := bl_lenB hw7
  rw [caps7] at hlen
  have hwl : w.length = y - x := by rw [← hw, slice_len hy]
  have hvl : v.length = b - a := by rw [← hv, slice_len hb]
  have hyn := bl_lenB hwn
  have hcn := caps_le jn
  have hbn := bl_lenB hws
  have hcs := caps_le js
  obtain ⟨A0, B0, hA0, hl0⟩ := plg_at es fs
  refine cE_addElement (hk_9 S) ⟨_, hg_9_9 S, _, hg_9_8 S, _, hg_9_0 S, sE_holder (d := d + 2) hH hf ⟨_, rfl, ?_⟩⟩
  rw [← hA0]
  refine eB_last (j := 7) (d := d + 1) (by omega) hw7 (by rw [hl]; exact hl0) ⟨_, rfl, _, hu_9_7 S _, ?_⟩
  rw [hA0]
  have i9 : (sI S 9 (nI (off fs + 4 + (encs es).length))).1 9 = nI (off fs + 4 + (encs es).length) := by simp [sI, va_up]
  have i10 : (sI S 9 (nI (off fs + 4 + (encs es).length))).1 10 = nI x := by simp [sI, va_up]; exact h10
  have i11 : (sI S 9 (nI (off fs + 4 + (encs es).length))).1 11 = nI y := by simp [sI, va_up]; exact h11
  have b7 : bl (sI S 9 (nI (off fs + 4 + (encs es).length))) 7 = bl S 7 := bl_sI (by omega)
  have k7 : okB (sI S 9 (nI (off fs + 4 + (encs es).length))) 7 := okB_sI (by omega) hw7
  have bn : bl (sI S 9 (nI (off fs + 4 + (encs es).length))) jn = bl S jn := bl_sI (by omega)
  have kn : okB (sI S 9 (nI (off fs + 4 + (encs es).length))) jn := okB_sI (by omega) hwn
  have bs : bl (sI S 9 (nI (off fs + 4 + (encs es).length))) js = bl S js := bl_sI (by omega)
  have ks : okB (sI S 9 (nI (off fs + 4 + (encs es).length))) js := okB_sI (by omega) hws
  have HS1 : HS (sI S 9 (nI (off fs + 4 + (encs es).length))) fs := HS_sI (by omega) hH
  generalize sI S 9 (nI (off fs + 4 + (encs es).length)) = S1 at *
  refine ⟨_, hg_9_7 S1, ?_⟩
  rw [i9, h10, h11, pk_sub hxy, nI_la, nI_add, pk_sub (Nat.le_trans hab (Nat.le_add_left _ _))]
  have hm : OfNat.ofNat 2 + (y - x) + b - a = 2 + w.length + v.length := by rw [hwl, hvl]; show 2 + (y - x) + b - a = _; omega
  rw [hm]
  have hl1 : bl S1 7 = nst fs (encs es ++ ([] ++ [])) (szs fs (encs es ++ ([] ++ [])).length) := by rw [b7, hl, plg_nst]; simp
  refine sE_resize (d := d) (c1 := encs es) (mid := []) (c2 := []) (m := 2 + w.length + v.length) k7 HS1 hf hl1 (by rw [b7, List.length_nil]; omega) (fun T m2 hm2 hT => ⟨_, rfl, fun c => absurd c (by decide), fun _ => ?_⟩)
  obtain ⟨x0, n0, z0, v0, rfl, hn0, hv0⟩ := spl4 hm2
  obtain ⟨A, B, hA, hAB⟩ := nst_c fs (szs fs (encs es ++ ((x0 :: (n0 ++ (z0 :: v0))) ++ [])).length)
  have hlT : bl T 7 = (A ++ encs es) ++ (x0 :: (n0 ++ (z0 :: (v0 ++ B)))) := by rw [hT.2.2, hAB]; simp
  have hpos : off fs + 4 + (encs es).length = (A ++ encs es).length := by rw [List.length_append, hA]
  have t9 : T.1 9 = nI (A ++ encs es).length := by rw [eqB_i hT (by omega), i9, hpos]
  refine ⟨_, hg_9_0 T, _, hg_9_7 T, ?_⟩
  rw [t9]
  refine eB_put1 (j := 7) (d := d + 2) (by omega) hT.2.1 hlT (fun T1 hT1 => ⟨rfl, _, hg_9_0 T1, _, hg_9_7 T1, _, hg_9_8 T1, _, hg_9_9 T1, ?_⟩)
  have e1 := eqB_tr hT hT1
  rw [ub_nI hk] at e1 hT1
  rw [eqB_i e1 (by omega), eqB_i e1 (by omega), eqB_i e1 (by omega), i9, i10, i11, hpos]
  have p1 : nI (A ++ encs es).length + 1 = nI ((A ++ encs es) ++ [k]).length := by rw [nI_1, List.length_append (as := A ++ encs es)]; rfl
  rw [p1]
  refine eB_wr (j := 7) (j2 := jn) (d := d + 2) (w := n0) (s := w) (by omega) hT1.2.1 hjn (eqB_ok e1 kn) hxy (by rw [eqB_bl e1 hn7, bn]; exact hy) (by rw [eqB_bl e1 hn7, bn]; exact hw) (B := z0 :: (v0 ++ B)) (by rw [hT1.2.2]; simp) (by omega) (fun T2 hT2 => ⟨rfl, _, hg_9_0 T2, _, hg_9_7 T2, ?_⟩)
  have e2 := eqB_tr e1 hT2
  rw [eqB_i e2 (by omega), i9, hpos, nI_1, nI_add]
  have p2 : (A ++ encs es).length + 1 + (y - x) = ((A ++ encs es) ++ [k] ++ w).length := by rw [List.length_append (as := (A ++ encs es) ++ [k]), List.length_append (as := A ++ encs es), hwl]; rfl
  rw [p2]
  refine eB_put1 (j := 7) (d := d + 2) (x := z0) (B := v0 ++ B) (by omega) hT2.2.1 (by rw [hT2.2.2]; simp) (fun T3 hT3 => ⟨rfl, _, hg_9_0 T3, _, hg_9_7 T3, ?_⟩)
  have e3 := eqB_tr e2 hT3
  have hu0 : ub (0 : Int32) = 0 := by decide
  rw [hu0] at e3 hT3
  rw [eqB_i e3 (by omega), i9, hpos, nI_al, nI_add]
  have p3 : (A ++ encs es).length + OfNat.ofNat 2 + (y - x) = ((A ++ encs es) ++ [k] ++ w ++ [0]).length := by rw [List.length_append (as := (A ++ encs es) ++ [k] ++ w), List.length_append (as := (A ++ encs es) ++ [k]), List.length_append (as := A ++ encs es), hwl]; show (A ++ encs es).length + 2 + (y - x) = (A ++ encs es).length + 1 + (y - x) + 1; omega
  rw [p3]
  refine eB_wr (j := 7) (j2 := js) (d := d + 2) (w := v0) (s := v) (by omega) hT3.2.1 hjs (eqB_ok e3 ks) hab (by rw [eqB_bl e3 hs7, bs]; exact hb) (by rw [eqB_bl e3 hs7, bs]; exact hv) (B := B) (by rw [hT3.2.2]; simp) (by omega) (fun T4 hT4 => ⟨rfl, hQ T4 ?_⟩)
  have e4 := eqB_tr e3 hT4
  have hfin : plg fs (encD (es ++ [(k, w, v)])) = (A ++ encs es) ++ [k] ++ w ++ [0] ++ (v ++ B) := by
    have hll : (encs (es ++ [(k, w, v)])).length = (encs es ++ ((x0 :: (n0 ++ (z0 :: v0))) ++ [])).length := by
      rw [encs_app, encs_cons, encs_nil, List.append_nil, List.length_append, enc1_len, List.length_append, List.append_nil, hm2]
    rw [plg_nst, hll, hAB, encs_app, encs_cons, encs_nil, enc1]
    simp
  rw [hfin]
  exact e4
theorem sE_replaceValue {S : sT} {fs : List Frm} {l1 l2 : List El} {e : El} {k js a b : Nat} {v : List Nat} (hw7 : okB S 7) (hjs : js < 11) (hws : okB S js) (hs7 : js ≠ 7) (hH : HS S fs) (hf : fs.length ≤ 8) (hl : bl S 7 = plg fs (encD (l1 ++ e :: l2))) (we : wfE e) (hek : e.1 < 256) (hk : k < 256) (h9 : S.1 9 = nI (off fs + 4 + (encs l1).length)) (hab : a ≤ b) (hb : b ≤ (bl S js).length) (hv : slice (bl S js) a b = v) (hcap : (bl S 7).length + v.length ≤ 10000 + e.2.2.length)
    (hQ0 : k = e.1 → v = e.2.2 → Q (some (.int 0)) (hp S)) (hQ1 : ¬ (k = e.1 ∧ v = e.2.2) → ∀ T, eqB 7 (plg fs (encD (l1 ++ (k, e.2.1, v) :: l2))) S T → Q (some (.int 1)) (hp T)) :
    sm_V N (d + 3 + 1) mm_E_replaceValue 2 9 [.int (nI k), .ref (11 + 2 * js), .int (nI a), .int (nI b)] (hp S) Q := by
  have hlen := bl_lenB hw7
  rw [caps7] at hlen
  have hvl : v.length = b - a := by rw [← hv, slice_len hb]
  have hbn := bl_lenB hws
  have hcs := caps_le js
  obtain ⟨A, B, hA, hAB⟩ := nst_c fs (szs fs (encs (l1 ++ e :: l2)).length)
  have hl1 : bl S 7 = (A ++ encs l1) ++ (enc1 e ++ (encs l2 ++ B)) := by rw [hl, plg_nst, hAB, encs_app, encs_cons]; simp
  have hb1 := eB_len hw7 hl1
  have hpos : off fs + 4 + (encs l1).length = (A ++ encs l1).length := by rw [List.length_append, hA]
  rw [hpos] at h9
  have w61 : ¬ (k = e.1 ∧ v = e.2.2) → sm_W N (d + 3 + 1) mm_E_replaceValue 61 [(0, .ref 9), (1, .int (nI k)), (2, .ref (11 + 2 * js)), (3, .int (nI a)), (4, .int (nI b)), (5, .int (nI ((A ++ encs l1).length + 2 + e.2.1.length))), (6, .int (nI ((A ++ encs l1) ++ enc1 e).length))] [] (hp S) Q := by
    intro hne
    refine kE_replaceValue_61 ?_
    have q1 : ((A ++ encs l1) ++ enc1 e).length = (A ++ encs l1).length + 2 + e.2.1.length + e.2.2.length := by rw [List.length_append (as := A ++ encs l1), enc1_len]; omega
    have q2 : (A ++ encs l1).length + 2 + e.2.1.length = off fs + 4 + (encs l1 ++ (e.1 :: (e.2.1 ++ [0]))).length := by
      rw [← hpos, List.length_append]
      simp only [List.length_cons, List.length_append, List.length_nil]
      omega
    rw [fE_replaceValue_61, q1, pk_sub (show (A ++ encs l1).length + 2 + e.2.1.length ≤ _ by omega), pk_sub hab, show (A ++ encs l1).length + 2 + e.2.1.length + e.2.2.length - ((A ++ encs l1).length + 2 + e.2.1.length) = e.2.2.length by omega, ← hvl]
    have hl2 : bl S 7 = nst fs ((encs l1 ++ (e.1 :: (e.2.1 ++ [0]))) ++ (e.2.2 ++ encs l2)) (szs fs ((encs l1 ++ (e.1 :: (e.2.1 ++ [0]))) ++ (e.2.2 ++ encs l2)).length) := by
      have : encs (l1 ++ e :: l2) = (encs l1 ++ (e.1 :: (e.2.1 ++ [0]))) ++ (e.2.2 ++ encs l2) := by rw [encs_app, encs_cons, enc1]; simp
      rw [hl, plg_nst, this]
    rw [q2]
    refine sE_resize (d := d) (c1 := encs l1 ++ (e.1 :: (e.2.1 ++ [0]))) (mid := e.2.2) (c2 := encs l2) (m := v.length) hw7 hH hf hl2 (by omega) (fun T m2 hm2 hT => ⟨_, rfl, fun c => absurd c (by decide), fun _ => ⟨_, hg_9_0 T, _, hg_9_7 T, ?_⟩⟩)
    obtain ⟨A2, B2, hA2, hAB2⟩ := nst_c fs (szs fs ((encs l1 ++ (e.1 :: (e.2.1 ++ [0]))) ++ (m2 ++ encs l2)).length)
    have hlT : bl T 7 = (A2 ++ encs l1) ++ (e.1 :: (e.2.1 ++ (0 :: (m2 ++ (encs l2 ++ B2))))) := by rw [hT.2.2, hAB2]; simp
    have hpos2 : (A ++ encs l1).length = (A2 ++ encs l1).length := by rw [List.length_append, List.length_append, hA, hA2]
    rw [eqB_i hT (by omega), h9, hpos2]
    refine eB_put1 (j := 7) (d := d + 2) (by omega) hT.2.1 hlT (fun T1 hT1 => ⟨rfl, _, hg_9_0 T1, ?_⟩)
    have e1 := eqB_tr hT hT1
    rw [ub_nI hk] at e1 hT1
    have q3 : off fs + 4 + (encs l1 ++ (e.1 :: (e.2.1 ++ [0]))).length = ((A2 ++ encs l1) ++ (k :: (e.2.1 ++ [0]))).length := by
      rw [List.length_append, List.length_append (as := A2 ++ encs l1), List.length_append (as := A2), hA2]
      simp only [List.length_cons, List.length_append, List.length_nil]
      omega
    rw [q3]
    refine eB_wr (j := 7) (j2 := js) (d := d + 2) (w := m2) (s := v) (by omega) hT1.2.1 hjs (eqB_ok e1 hws) hab (by rw [eqB_bl e1 hs7]; exact hb) (by rw [eqB_bl e1 hs7]; exact hv) (B := encs l2 ++ B2) (by rw [hT1.2.2]; simp) (by omega) (fun T2 hT2 => ⟨rfl, hQ1 hne T2 ?_⟩)
    have e2 := eqB_tr e1 hT2
    have hfin : plg fs (encD (l1 ++ (k, e.2.1, v) :: l2)) = (A2 ++ encs l1) ++ (k :: (e.2.1 ++ [0])) ++ (v ++ (encs l2 ++ B2)) := by
      have hll : (encs (l1 ++ (k, e.2.1, v) :: l2)).length = ((encs l1 ++ (e.1 :: (e.2.1 ++ [0]))) ++ (m2 ++ encs l2)).length := by
        rw [encs_app, encs_cons, List.length_append, List.length_append, enc1_len]
        simp only [List.length_append, List.length_cons, List.length_nil, hm2]
        omega
      rw [plg_nst, hll, hAB2, encs_app, encs_cons, enc1]
      simp
    rw [hfin]
    exact e2
  refine cE_replaceValue (hk_9 S) ⟨_, hg_9_0 S, _, hg_9_7 S, ?_⟩
  rw [h9]
  refine eB_vs (j := 7) (d := d + 2) (by omega) hw7 hl1 we ⟨_, rfl, _, hg_9_0 S, _, hg_9_7 S, ?_⟩
  rw [h9]
  refine eB_ve (j := 7) (d := d + 1) (by omega) hw7 hl1 we ⟨_, rfl, _, hg_9_0 S, _, hg_9_7 S, ?_⟩
  rw [h9]
  refine eB_kind (j := 7) (d := d + 2) (by omega) hw7 hl1 ⟨_, rfl, fun c => ⟨_, hg_9_0 S, ?_⟩, fun c => ?_⟩
  · rw [nI_eq (by omega) (by omega)] at c
    have q1 : ((A ++ encs l1) ++ enc1 e).length = (A ++ encs l1).length + 2 + e.2.1.length + e.2.2.length := by rw [List.length_append (as := A ++ encs l1), enc1_len]; omega
    refine sD_sameRange (j := 7) (j2 := js) (d := d + 1) (by omega) hw7 hjs hws (by omega) (by omega) hab hb ⟨_, rfl, fun c2 => ?_, fun c2 => ?_⟩
    · refine w61 (fun z => ?_)
      rw [q1, eB_raw hl1, hv, if_pos z.2.symm] at c2
      exact absurd c2 (by decide)
    · rw [q1, eB_raw hl1, hv] at c2
      refine hQ0 c.symm ?_
      by_cases z : e.2.2 = v
      · exact z.symm
      · rw [if_neg z] at c2
        exact absurd rfl c2
  · rw [nI_eq (by omega) (by omega)] at c
    exact w61 (fun z => c z.1.symm)
end Ed3
