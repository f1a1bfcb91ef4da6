/-! the class's editor: addItem, hasItem, moveItem -/
section It
variable {N d : Nat} {Q : Option Value → sm_H → Prop} {T : sT} {gs : List Frm} {l1 l2 items : List El} {e a : El} {A6 B6 : List Nat}
theorem ai_20 (hE : EdO T) (h7 : bl T 7 = plg gs (encD (l1 ++ e :: l2))) (hH : HS T gs) (hg : gs.length ≤ 7) (h9 : T.1 9 = nI (off gs + 4 + (encs l1).length)) (we : wfE e) (hek : e.1 < 256) (hit : e.1 = 4 → e.2.2 = encD items ∧ ∀ b ∈ items, wfE b) (hl6 : bl T 6 = A6 ++ (enc1 a ++ B6)) (wa : wfE a) (hak : a.1 < 256) (hcap : (bl T 7).length + (7 + a.2.2.length) ≤ 10000) (hQ7 : e.1 ≠ 4 → Q (some (.int (-7))) (hp T)) (hQ : e.1 = 4 → ∀ U, frE T U → EdO U → bl U 7 = plg gs (encD (l1 ++ (4, e.2.1, encD (items ++ [(a.1, dg items.length, a.2.2)])) :: l2)) → Q (some (.int 1)) (hp U)) : sm_W N (d + 4 + 1) mm_E_addItem 20 [(0, .ref 9), (1, .ref 23), (2, .int (nI A6.length))] [] (hp T) Q := by
  have hlen := bl_lenB hE.2.1
  rw [caps7] at hlen
  obtain ⟨A, B, hA, hAB⟩ := nst_c gs (szs gs (encs (l1 ++ e :: l2)).length)
  have hl1 : bl T 7 = (A ++ encs l1) ++ (enc1 e ++ (encs l2 ++ B)) := by rw [h7, plg_nst, hAB, encs_app, encs_cons]; simp
  have hpos : off gs + 4 + (encs l1).length = (A ++ encs l1).length := by rw [List.length_append, hA]
  have hbe := eB_len hE.2.1 hl1
  have hb6 := eB_len hE.1 hl6
  rw [hpos] at h9
  refine kE_addItem_20 ⟨_, hg_9_0 T, _, hg_9_7 T, ?_⟩
  rw [h9]
  refine eB_kind (j := 7) (d := d + 3) (by omega) hE.2.1 hl1 ⟨_, rfl, fun c => ⟨_, hg_9_0 T, _, hg_9_7 T, ?_⟩, fun c => ?_⟩
  · rw [nI_eql (by omega) (by omega)] at c
    have e4 : e.1 = 4 := c
    obtain ⟨hraw, hwi⟩ := hit e4
    have hrl := encD_len items
    rw [← hraw] at hrl
    have hil := es_le items
    rw [h9]
    refine eB_vs (j := 7) (d := d + 3) (by omega) hE.2.1 hl1 we ⟨_, rfl, ?_⟩
    refine sE_enter (d := d + 3) hH.1 (by omega) (fun W w7 w8 w16 wI wA wL => ⟨rfl, _, hg_9_3 W, _, hg_9_0 W, ?_⟩)
    have hoff : (A ++ encs l1).length + 2 + e.2.1.length = off (gs ++ [(l1, 4, e.2.1, l2)]) := by
      rw [off_snoc, ← hpos]
      simp only
      omega
    rw [hoff] at w16
    have wF : frE T W := ⟨fun i hi _ _ _ => wI i (by omega) (by omega), fun i _ _ _ hi => wA i hi, wL⟩
    have ok : ∀ j, j < 11 → okB T j → okB W j := fun j hj ho => by
      obtain ⟨n, q1, q2, q3⟩ := ho
      exact ⟨n, q1, by rw [wI _ (by omega) (by omega)]; exact q2, fun i => by rw [wA _ (by omega)]; exact q3 i⟩
    have wE : EdO W := EdO_fr wF hE (ok 7 (by omega) hE.2.1) (ok 9 (by omega) hE.2.2.2.1) (ok 10 (by omega) hE.2.2.2.2.1)
    have wH := HS_snoc (T := W) (f := (l1, 4, e.2.1, l2)) hH w7 w16
    have hpl : ∀ its : List El, plg (gs ++ [(l1, 4, e.2.1, l2)]) (encD its) = plg gs (encD (l1 ++ (4, e.2.1, encD its) :: l2)) := fun its => by rw [plg_app]; rfl
    have wb7 : bl W 7 = plg (gs ++ [(l1, 4, e.2.1, l2)]) (encD items) := by
      rw [hpl, ← hraw, ← e4, bl, wI _ (by omega) (by omega), wA _ (by omega)]
      exact h7
    have hgl : (gs ++ [(l1, 4, e.2.1, l2)]).length ≤ 8 := by rw [List.length_append, List.length_singleton]; omega
    generalize gs ++ [(l1, 4, e.2.1, l2)] = g2 at *
    refine sE_holder (d := d + 3) wH hgl ⟨_, rfl, ?_⟩
    obtain ⟨A0, B0, hA0, hl0⟩ := plg_at items g2
    rw [← hA0]
    refine sB_count (j := 7) (d := d + 1) (by omega) wE.2.1 (by rw [wb7]; exact hl0) hwi ⟨_, rfl, ?_⟩
    have hnd := nd_le items.length
    refine sB_digits (j := 9) (d := d + 2) (by omega) wE.2.2.2.1 (by omega) (by rw [show caps 9 = 10 from rfl]; omega) (fun V hV => ⟨rfl, _, hu_9_8 V _, ?_⟩)
    have vF := frE_tr wF (frE_eq (Or.inr (Or.inl rfl)) hV)
    have vE := EdO_eq (Or.inr (Or.inl rfl)) wE hV
    have v7 : bl V 7 = plg g2 (encD items) := by rw [eqB_bl hV (by omega)]; exact wb7
    have vH : HS V g2 := HS_fr (eqB_i hV (by omega)) (eqB_a hV (by omega)) wH
    have v39 : V.1 39 = nI (dg items.length).length := by
      obtain ⟨nn, a1, a2, a3⟩ := hV.2.1
      have a2' : V.1 39 = nI nn := a2
      rw [a2']
      congr 1
      rw [← hV.2.2]
      exact (bl_len a1 a2).symm
    have v9b := hV.2.2
    -- the name of the item
    have x10 : (sI V 10 0).1 10 = nI 0 := by simp [sI, va_up]; rfl
    have xI : ∀ i, i ≠ 10 → (sI V 10 0).1 i = V.1 i := fun i hi => by simp [sI, va_up, hi]
    have xF := frE_tr vF (frE_sI V (k := 10) (by omega) 0)
    have xE := EdO_sI vE (k := 10) (by omega) 0
    have x7 : bl (sI V 10 0) 7 = plg g2 (encD items) := by rw [bl_sI (by omega)]; exact v7
    have x9 : bl (sI V 10 0) 9 = dg items.length := by rw [bl_sI (by omega)]; exact v9b
    have xH : HS (sI V 10 0) g2 := HS_sI (by omega) vH
    generalize sI V 10 0 = X at *
    have x39 : X.1 (30 + 9) = nI (dg items.length).length := by rw [xI _ (by omega)]; exact v39
    refine ⟨_, hg_9_3 X, _, hb_g1 (j := 9) X (by omega), _, hu_9_9 X _, ?_⟩
    rw [x39]
    have y11 : (sI X 11 (nI (dg items.length).length)).1 11 = nI (dg items.length).length := by simp [sI, va_up]
    have y10 : (sI X 11 (nI (dg items.length).length)).1 10 = nI 0 := by simp [sI, va_up]; exact x10
    have yF := frE_tr xF (frE_sI X (k := 11) (by omega) (nI (dg items.length).length))
    have yE := EdO_sI xE (k := 11) (by omega) (nI (dg items.length).length)
    have y7 : bl (sI X 11 (nI (dg items.length).length)) 7 = plg g2 (encD items) := by rw [bl_sI (by omega)]; exact x7
    have y9 : bl (sI X 11 (nI (dg items.length).length)) 9 = dg items.length := by rw [bl_sI (by omega)]; exact x9
    have yH : HS (sI X 11 (nI (dg items.length).length)) g2 := HS_sI (by omega) xH
    generalize sI X 11 (nI (dg items.length).length) = Y at *
    have y6 : bl Y 6 = A6 ++ (enc1 a ++ B6) := by rw [frE_6 yF (Or.inl rfl)]; exact hl6
    have q1 : (A6 ++ enc1 a).length = A6.length + 2 + a.2.1.length + a.2.2.length := by rw [List.length_append, enc1_len]; omega
    have hdl := dg_len items.length
    have hl7 : (plg g2 (encD items)).length = (bl T 7).length := by
      rw [hpl, ← hraw, ← e4, h7]
    have hbY := eB_len yE.1 y6
    refine eB_kind (j := 6) (d := d + 3) (by omega) yE.1 y6 ⟨_, rfl, _, hg_9_3 Y, eB_vs (j := 6) (d := d + 3) (by omega) yE.1 y6 wa ⟨_, rfl, eB_ve (j := 6) (d := d + 2) (by omega) yE.1 y6 wa ⟨_, rfl, ?_⟩⟩⟩
    refine sE_addElement (d := d) (jn := 9) (js := 6) (x := 0) (y := (dg items.length).length) (w := dg items.length) (v := a.2.2) yE.2.1 (by omega) yE.2.2.2.1 (by omega) (by omega) yE.1 (by omega) yH hgl y7 hak y10 y11 (by omega) (by rw [y9]; exact Nat.le_refl _) (by rw [y9]; exact sl_all _) (by omega) (by omega) (by rw [q1]; exact eB_raw y6) (by rw [y7, hl7]; omega) (fun Z hZ => ⟨rfl, hQ e4 Z (frE_tr yF (frE_tr (frE_sI Y (k := 9) (by omega) _) (frE_eq (Or.inl rfl) hZ))) (EdO_eq (Or.inl rfl) (EdO_sI yE (k := 9) (by omega) _) hZ) ?_⟩)
    rw [hZ.2.2, hpl]
  · rw [nI_eql (by omega) (by omega)] at c
    exact hQ7 c
theorem sE_addItem_f (hE : EdO T) (h7 : bl T 7 = plg gs (encD (l1 ++ e :: l2))) (hH : HS T gs) (hg : gs.length ≤ 7) (h9 : T.1 9 = nI (off gs + 4 + (encs l1).length)) (we : wfE e) (hek : e.1 < 256) (hit : e.1 = 4 → e.2.2 = encD items ∧ ∀ b ∈ items, wfE b) (hl6 : bl T 6 = A6 ++ (enc1 a ++ B6)) (wa : wfE a) (hak : a.1 < 256) (hcap : (bl T 7).length + (7 + a.2.2.length) ≤ 10000) (hQ7 : e.1 ≠ 4 → Q (some (.int (-7))) (hp T)) (hQ : e.1 = 4 → ∀ U, frE T U → EdO U → bl U 7 = plg gs (encD (l1 ++ (4, e.2.1, encD (items ++ [(a.1, dg items.length, a.2.2)])) :: l2)) → Q (some (.int 1)) (hp U)) : sm_V N (d + 4 + 1) mm_E_addItem 2 9 [.ref 23, .int (nI A6.length)] (hp T) Q := by
  have hlen := bl_lenB hE.2.1
  rw [caps7] at hlen
  have hsm : off gs + 4 + (encs l1).length < 20000 := by
    obtain ⟨A, B, hA, hAB⟩ := nst_c gs (szs gs (encs (l1 ++ e :: l2)).length)
    rw [h7, plg_nst, hAB, List.length_append, hA, List.length_append, encs_app, List.length_append] at hlen
    omega
  refine cE_addItem (hk_9 T) ⟨_, hg_9_7 T, fun c => ?_, fun _ => ai_20 hE h7 hH hg h9 we hek hit hl6 wa hak hcap hQ7 hQ⟩
  rw [h9] at c
  exact absurd c (nI_m1 (by omega))
theorem sE_addItem_n {es : List El} {x y : Nat} {w : List Nat} (hE : EdO T) (h7 : bl T 7 = plg gs (encD es)) (hH : HS T gs) (hg : gs.length ≤ 7) (h9 : T.1 9 = -1) (h10 : T.1 10 = nI x) (h11 : T.1 11 = nI y) (hxy : x ≤ y) (hy : y ≤ (bl T 6).length) (hsl : slice (bl T 6) x y = w) (hwz : ∀ b ∈ w, b ≠ 0) (hl6 : bl T 6 = A6 ++ (enc1 a ++ B6)) (wa : wfE a) (hak : a.1 < 256) (hcap : (bl T 7).length + (14 + w.length + a.2.2.length) ≤ 10000) (hQ : ∀ U, frE T U → EdO U → bl U 7 = plg gs (encD (es ++ [(4, w, encD [(a.1, dg 0, a.2.2)])])) → Q (some (.int 1)) (hp U)) : sm_V N (d + 4 + 1) mm_E_addItem 2 9 [.ref 23, .int (nI A6.length)] (hp T) Q := by
  have e5 : ([5, 0, 0, 0, 0] : List Nat) = encD [] := by decide
  refine cE_addItem (hk_9 T) ⟨_, hg_9_7 T, fun _ => ⟨_, hg_9_2 T, ?_⟩, fun c => absurd h9 c⟩
  refine sE_addElement (d := d) (k := 4) (jn := 6) (js := 8) (x := x) (y := y) (a := 0) (b := 5) (w := w) (v := [5, 0, 0, 0, 0]) hE.2.1 (by omega) hE.1 (by omega) (by omega) hE.2.2.1 (by omega) hH (by omega) h7 (by omega) h10 h11 hxy hy hsl (by omega) (by rw [hE.2.2.2.2.2]; decide) (by rw [hE.2.2.2.2.2]; decide) (by show _ + (2 + w.length + 5) ≤ 10000; omega) (fun V hV => ⟨rfl, ?_⟩)
  have vF := frE_tr (frE_sI T (k := 9) (by omega) (nI (off gs + 4 + (encs es).length))) (frE_eq (Or.inl rfl) hV)
  have vE := EdO_eq (Or.inl rfl) (EdO_sI hE (k := 9) (by omega) (nI (off gs + 4 + (encs es).length))) hV
  have vI : ∀ i, i ≠ 9 → i ≠ 37 → V.1 i = T.1 i := fun i h1 h2 => by
    rw [eqB_i hV (by omega)]
    simp only [sI, va_up]
    rw [if_neg h1]
  have v9 : V.1 9 = nI (off gs + 4 + (encs es).length) := by rw [eqB_i hV (by omega)]; simp [sI, va_up]
  have v16 : V.2.1 16 = T.2.1 16 := by rw [eqB_a hV (by omega)]; rfl
  rw [e5] at hV
  have v7 : bl V 7 = plg gs (encD (es ++ (4, w, encD []) :: [])) := hV.2.2
  have hlV : (bl V 7).length = (bl T 7).length + (2 + w.length + 5) := by
    have hq1 := szs_hd gs (es ++ [(4, w, encD [])])
    have hq2 := szs_hd gs es
    have hq3 := szs_add gs (encs es).length (encs (es ++ [(4, w, encD [])])).length 0 (by omega)
    rw [hq1, hq2] at hq3
    have hq4 : (encs (es ++ [(4, w, encD [])])).length = (encs es).length + (2 + w.length + 5) := by rw [encs_app, encs_cons, encs_nil, List.append_nil, List.length_append, enc1_len]; rfl
    rw [v7, h7]
    omega
  refine ai_20 (items := []) (e := (4, w, encD [])) (l1 := es) (l2 := []) vE v7 (HS_fr (vI 7 (by omega) (by omega)) v16 hH) hg v9 ⟨hwz, show vlen 4 (encD []) = (encD []).length by decide, fun _ => show 4 ≤ (encD []).length by decide⟩ (show 4 < 256 by omega) (fun _ => ⟨rfl, fun b hb => absurd hb (by simp)⟩) (by rw [frE_6 vF (Or.inl rfl)]; exact hl6) wa hak (by omega) (fun c => absurd rfl c) (fun _ U uF uE u7 => hQ U (frE_tr vF uF) uE u7)
theorem sE_hasItem (hE : EdO T) (h7 : bl T 7 = plg gs (encD (l1 ++ e :: l2))) (h9 : T.1 9 = nI (off gs + 4 + (encs l1).length)) (we : wfE e) (hek : e.1 < 256) (hit : e.1 = 4 → e.2.2 = encD items ∧ ∀ b ∈ items, wfE b ∧ VD 24 b.1 b.2.2) (hl6 : bl T 6 = A6 ++ (enc1 a ++ B6)) (wa : wfE a) (va : VD 24 a.1 a.2.2) (hQn : e.1 ≠ 4 → Q (some (.int 0)) (hp T)) (hQ : e.1 = 4 → Q (some (.int (if items.any (fun x => sameV 24 x.1 x.2.2 a.1 a.2.2) then 1 else 0))) (hp T)) : sm_V N (d + 52 + 1) mm_E_hasItem 2 9 [.ref 23, .int (nI A6.length)] (hp T) Q := by
  have hlen := bl_lenB hE.2.1
  rw [caps7] at hlen
  obtain ⟨A, B, hA, hAB⟩ := nst_c gs (szs gs (encs (l1 ++ e :: l2)).length)
  have hl1 : bl T 7 = (A ++ encs l1) ++ (enc1 e ++ (encs l2 ++ B)) := by rw [h7, plg_nst, hAB, encs_app, encs_cons]; simp
  have hpos : off gs + 4 + (encs l1).length = (A ++ encs l1).length := by rw [List.length_append, hA]
  have hbe := eB_len hE.2.1 hl1
  rw [hpos] at h9
  have hlb : T.1 37 = nI (bl T 7).length := by
    obtain ⟨nn, a1, a2, a3⟩ := hE.2.1
    have a2' : T.1 37 = nI nn := a2
    rw [a2', bl_len a1 a2]
  refine cE_hasItem (hk_9 T) ⟨_, hg_9_7 T, fun c => ?_, fun _ => ⟨_, hg_9_0 T, _, hg_9_7 T, ?_⟩⟩
  · rw [h9] at c
    exact absurd c (nI_m1 (by omega))
  rw [h9]
  refine eB_kind (j := 7) (d := d + 51) (by omega) hE.2.1 hl1 ⟨_, rfl, fun c => ⟨_, hg_9_0 T, _, hg_9_7 T, ?_⟩, fun c => ?_⟩
  · rw [nI_eql (by omega) (by omega)] at c
    have e4 : e.1 = 4 := c
    obtain ⟨hraw, hwi⟩ := hit e4
    have hrl := encD_len items
    rw [← hraw] at hrl
    have hq := hQ e4
    rw [h9]
    refine eB_vs (j := 7) (d := d + 51) (by omega) hE.2.1 hl1 we ⟨_, rfl, _, hg_9_0 T, ?_⟩
    have hlA : (A ++ encs l1).length + 2 + e.2.1.length = ((A ++ encs l1) ++ (e.1 :: (e.2.1 ++ [0]))).length := by rw [List.length_append (as := A ++ encs l1)]; simp; omega
    have hl4 : bl T 7 = ((A ++ encs l1) ++ (e.1 :: (e.2.1 ++ [0]))) ++ (encD items ++ (encs l2 ++ B)) := by rw [← hraw, hl1]; simp [enc1]
    rw [hlA]
    refine eB_last (j := 7) (d := d + 50) (by omega) hE.2.1 hl4 ⟨_, rfl, ?_⟩
    generalize (A ++ encs l1) ++ (e.1 :: (e.2.1 ++ [0])) = P at *
    have e2 : nI P.length + 4 = nI (P ++ le4 (5 + (encs items).length)).length := by rw [nI_al, List.length_append, le4_len]
    rw [e2]
    have hl5 : bl T 7 = (P ++ le4 (5 + (encs items).length)) ++ (encs items ++ ([0] ++ (encs l2 ++ B))) := by rw [hl4, encD]; simp
    have key : ∀ (fs : List El) (X Y : List Nat) (n : Nat), bl T 7 = X ++ (encs fs ++ Y) → X.length + (encs fs).length = P.length + 4 + (encs items).length → n ≤ X.length → (∀ b ∈ fs, wfE b ∧ VD 24 b.1 b.2.2) → Q (some (.int (if fs.any (fun x => sameV 24 x.1 x.2.2 a.1 a.2.2) then 1 else 0))) (hp T) → sm_W N (d + 52 + 1) mm_E_hasItem 55 [(0, .ref 9), (1, .ref 23), (2, .int (nI A6.length)), (4, .int (nI (P.length + 4 + (encs items).length))), (5, .int (nI X.length)), (6, .int (nI n))] [] (hp T) Q := by
      intro fs
      induction fs with
      | nil =>
        intro X Y n hX hla hn hv hq
        have z := congrArg List.length hX
        simp only [encs_nil, List.length_append, List.length_nil] at z hla
        exact kE_hasItem_55 ⟨_, hg_9_0 T, _, hb_g1 (j := 7) T (by omega), fun _ => hq, fun _ => ⟨fun _ => hq, fun c => absurd ((nI_leI (by omega) (by omega)).mpr (by omega)) c⟩⟩
      | cons b fs ih =>
        intro X Y n hX hla hn hv hq
        obtain ⟨wb, vb⟩ := hv b List.mem_cons_self
        have hee := enc1_len b
        have g1 : bl T 7 = X ++ (enc1 b ++ (encs fs ++ Y)) := by rw [hX, encs_cons, List.append_assoc]
        have z := congrArg List.length hX
        rw [encs_cons, List.length_append] at hla
        simp only [encs_cons, List.length_append] at z
        rw [List.any_cons] at hq
        refine kE_hasItem_55 ⟨_, hg_9_0 T, _, hb_g1 (j := 7) T (by omega), fun c => ?_, fun _ => ⟨fun c => ?_, fun _ => ⟨_, hg_9_0 T, ?_⟩⟩⟩
        · rw [show T.1 (30 + 7) = T.1 37 from rfl, hlb, nI_leI (by omega) (by omega)] at c
          omega
        · rw [nI_leI (by omega) (by omega)] at c
          omega
        · refine sD_sameV (j := 7) (j2 := 6) (by omega) hE.2.1 (by omega) hE.1 24 d 0 X _ b A6 B6 a _ (by omega) g1 hl6 wb wa vb va ⟨_, rfl, fun c => ?_, fun c => ?_⟩
          · have hs : sameV 24 b.1 b.2.2 a.1 a.2.2 = false := by
              cases h : sameV 24 b.1 b.2.2 a.1 a.2.2 with
              | false => rfl
              | true => rw [h] at c; exact absurd c (by decide)
            rw [hs, Bool.false_or] at hq
            refine ⟨_, hg_9_0 T, eB_ve (j := 7) (d := d + 50) (by omega) hE.2.1 g1 wb ⟨_, rfl, ?_⟩⟩
            rw [nI_1]
            exact ih (X ++ enc1 b) Y (n + 1) (by rw [g1, List.append_assoc]) (by rw [List.length_append]; omega) (by rw [List.length_append]; omega) (fun q hq => hv q (List.mem_cons_of_mem _ hq)) hq
          · have hs : sameV 24 b.1 b.2.2 a.1 a.2.2 = true := by
              cases h : sameV 24 b.1 b.2.2 a.1 a.2.2 with
              | true => rfl
              | false => rw [h] at c; exact absurd rfl c
            rw [hs, Bool.true_or] at hq
            exact hq
    exact key items _ _ 0 hl5 (by rw [List.length_append, le4_len]) (by omega) hwi hq
  · rw [nI_eql (by omega) (by omega)] at c
    exact hQn c
theorem sE_hasItem_n (h9 : T.1 9 = -1) (hQ : Q (some (.int 0)) (hp T)) {x : Int32} : sm_V N (d + 1) mm_E_hasItem 2 9 [.ref 23, .int x] (hp T) Q := cE_hasItem (hk_9 T) ⟨_, hg_9_7 T, fun _ => hQ, fun c => absurd h9 c⟩
theorem sE_moveItem {P J R : List Nat} {n : Nat} (hE : EdO T) (hl : bl T 7 = P ++ (J ++ (enc1 e ++ R))) (we : wfE e) (hek : e.1 < 256) (hn : n < 100000) (hfit : (dg n).length ≤ J.length + e.2.1.length) (hQ : ∀ U J2, J2.length + (dg n).length = J.length + e.2.1.length → frE T U → EdO U → bl U 7 = P ++ (enc1 (e.1, dg n, e.2.2) ++ (J2 ++ R)) → (∀ k, k ≠ 37 → k ≠ 39 → U.1 k = T.1 k) → U.2.1 16 = T.2.1 16 → Q (some (.int (nI (P ++ enc1 (e.1, dg n, e.2.2)).length))) (hp U)) : sm_V N (d + 2 + 1) mm_E_moveItem 2 9 [.int (nI (P ++ J).length), .int (nI ((P ++ J) ++ enc1 e).length), .int (nI P.length), .int (nI n)] (hp T) Q := by
  have hlen := bl_lenB hE.2.1
  rw [caps7] at hlen
  have hl1 : bl T 7 = (P ++ J) ++ (enc1 e ++ R) := by rw [hl, List.append_assoc]
  have hb := eB_len hE.2.1 hl1
  rw [List.length_append] at hb
  have hdl := dg_len n
  have hnd := nd_le n
  obtain ⟨x0, n0, z0, M, hm, hn0, hM⟩ := spl4 (m := J ++ (e.1 :: (e.2.1 ++ [0]))) (a := (dg n).length) (b := J.length + e.2.1.length - (dg n).length) (by simp; omega)
  have hmv : J ++ (enc1 e ++ R) = x0 :: (n0 ++ (z0 :: (M ++ (e.2.2 ++ R)))) := by
    have h2 : J ++ (enc1 e ++ R) = (J ++ (e.1 :: (e.2.1 ++ [0]))) ++ (e.2.2 ++ R) := by simp [enc1]
    rw [h2, hm]
    simp
  refine cE_moveItem (hk_9 T) ⟨_, hg_9_0 T, eB_vs (j := 7) (d := d + 1) (by omega) hE.2.1 hl1 we ⟨_, rfl, _, hg_9_0 T, eB_kind (j := 7) (d := d + 1) (by omega) hE.2.1 hl1 ⟨_, rfl, _, hg_9_3 T, ?_⟩⟩⟩
  refine sB_digits (j := 9) (d := d) (by omega) hE.2.2.2.1 hn (by rw [show caps 9 = 10 from rfl]; omega) (fun V hV => ⟨rfl, _, hg_9_3 V, _, hb_g1 (j := 9) V (by omega), _, hg_9_0 V, ?_⟩)
  have vF := frE_eq (Or.inr (Or.inl rfl)) hV
  have vE := EdO_eq (Or.inr (Or.inl rfl)) hE hV
  have v39 : V.1 (30 + 9) = nI (dg n).length := by
    obtain ⟨nn, a1, a2, a3⟩ := hV.2.1
    rw [a2]
    congr 1
    rw [← hV.2.2]
    exact (bl_len a1 a2).symm
  have v7 : bl V 7 = P ++ (x0 :: (n0 ++ (z0 :: (M ++ (e.2.2 ++ R))))) := by rw [eqB_bl hV (by omega), hl, hmv]
  rw [v39]
  refine eB_put1 (j := 7) (d := d + 1) (by omega) vE.2.1 v7 (fun V1 hV1 => ⟨rfl, _, hg_9_0 V1, _, hg_9_3 V1, _, hg_9_3 V1, _, hb_g1 (j := 9) V1 (by omega), ?_⟩)
  rw [ub_nI hek] at hV1
  have v391 : V1.1 (30 + 9) = nI (dg n).length := by rw [eqB_i hV1 (by omega)]; exact v39
  have b91 : bl V1 9 = dg n := by rw [eqB_bl hV1 (by omega)]; exact hV.2.2
  have e0 : (0 : Int32) = nI 0 := rfl
  have p1 : nI P.length + 1 = nI (P ++ [e.1]).length := by rw [nI_1, List.length_append]; rfl
  rw [v391, p1, e0]
  refine eB_wr (j := 7) (j2 := 9) (a := 0) (b := (dg n).length) (d := d + 1) (w := n0) (s := dg n) (by omega) hV1.2.1 (by omega) (eqB_ok hV1 vE.2.2.2.1) (by omega) (by rw [b91]; exact Nat.le_refl _) (by rw [b91]; exact sl_all _) (B := z0 :: (M ++ (e.2.2 ++ R))) (by rw [hV1.2.2]; simp) (by omega) (fun V2 hV2 => ⟨rfl, _, hg_9_0 V2, ?_⟩)
  have p2 : nI P.length + 2 + nI (dg n).length = nI (P.length + 2 + (dg n).length) := by rw [nI_al, nI_add]
  have p3 : nI (P.length + 2 + (dg n).length) - 1 = nI ((P ++ [e.1]) ++ dg n).length := by
    rw [nI_sl (show 1 ≤ P.length + 2 + (dg n).length by omega)]
    congr 1
    rw [List.length_append, List.length_append]
    show P.length + 2 + (dg n).length - 1 = P.length + 1 + (dg n).length
    omega
  rw [p2, p3]
  refine eB_put1 (j := 7) (d := d + 1) (x := z0) (B := M ++ (e.2.2 ++ R)) (by omega) hV2.2.1 (by rw [hV2.2.2]; simp) (fun V3 hV3 => ⟨rfl, _, hg_9_0 V3, _, hg_9_0 V3, ?_⟩)
  have hu0 : ub (nI 0) = 0 := by decide
  rw [hu0] at hV3
  have p4 : P.length + 2 + (dg n).length = ((P ++ [e.1]) ++ dg n ++ [0]).length := by rw [List.length_append, List.length_append, List.length_append]; show P.length + 2 + (dg n).length = P.length + 1 + (dg n).length + 1; omega
  rw [p4]
  have hsv : slice (bl V3 7) ((P ++ J).length + 2 + e.2.1.length) ((P ++ J) ++ enc1 e).length = e.2.2 := by
    have h5 : bl V3 7 = ((P ++ [e.1]) ++ dg n ++ (0 :: M)) ++ (e.2.2 ++ R) := by rw [hV3.2.2]; simp
    have h6 : (P ++ J).length + 2 + e.2.1.length = ((P ++ [e.1]) ++ dg n ++ (0 :: M)).length := by
      simp only [List.length_append, List.length_cons, List.length_nil, hM]
      omega
    have h7 : ((P ++ J) ++ enc1 e).length = (P ++ J).length + 2 + e.2.1.length + e.2.2.length := by rw [List.length_append (as := P ++ J), enc1_len]; omega
    rw [h7, h6, h5, slice, List.drop_left, Nat.add_sub_cancel_left, List.take_left]
  have hl3 : (bl V3 7).length = (bl T 7).length := by
    rw [hV3.2.2, hl, hmv]
    simp only [List.length_append, List.length_cons, List.length_nil, hn0]
    omega
  have h7 : ((P ++ J) ++ enc1 e).length = (P ++ J).length + 2 + e.2.1.length + e.2.2.length := by rw [List.length_append (as := P ++ J), enc1_len]; omega
  have hMv : M ++ (e.2.2 ++ R) = (M ++ e.2.2).take e.2.2.length ++ ((M ++ e.2.2).drop e.2.2.length ++ R) := by rw [← List.append_assoc (as := List.take _ _), List.take_append_drop, List.append_assoc]
  refine eB_wr (j := 7) (j2 := 7) (d := d + 1) (w := (M ++ e.2.2).take e.2.2.length) (s := e.2.2) (B := (M ++ e.2.2).drop e.2.2.length ++ R) (by omega) hV3.2.1 (by omega) hV3.2.1 (by omega) (by rw [hl3, h7, List.length_append]; omega) hsv (by rw [hV3.2.2, hMv]; simp) (by rw [List.length_take, List.length_append]; omega) (fun V4 hV4 => ⟨rfl, ?_⟩)
  have f1 := eqB_tr hV1 (eqB_tr hV2 (eqB_tr hV3 hV4))
  have hans : nI ((P ++ [e.1]) ++ dg n ++ [0]).length + nI ((P ++ J) ++ enc1 e).length - nI ((P ++ J).length + 2 + e.2.1.length) = nI (P ++ enc1 (e.1, dg n, e.2.2)).length := by
    rw [nI_add, pk_sub (by omega), ← p4, h7]
    congr 1
    have h8 : (P ++ enc1 (e.1, dg n, e.2.2)).length = P.length + (2 + (dg n).length + e.2.2.length) := by rw [List.length_append, enc1_len]
    rw [h8, List.length_append]
    omega
  rw [hans]
  refine hQ V4 ((M ++ e.2.2).drop e.2.2.length) (by rw [List.length_drop, List.length_append, hM]; omega) (frE_tr vF (frE_eq (Or.inl rfl) f1)) (EdO_eq (Or.inl rfl) vE f1) ?_ (fun k h1 h2 => by rw [eqB_i f1 (by omega), eqB_i hV (by omega)]) (by rw [eqB_a f1 (by omega), eqB_a hV (by omega)])
  rw [hV4.2.2, enc1]
  simp
end It
