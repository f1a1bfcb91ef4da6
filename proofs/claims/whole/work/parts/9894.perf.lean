/-! the class's editor: performPath -/
section Pf
variable {N d : Nat} {Q : Option Value → sm_H → Prop}
theorem sE_performPath {S : sT} {raw A6 B6 : List Nat} {a : El} {op : Nat} (hE : EdO S) (h7 : bl S 7 = raw) (hv : VD 24 3 raw) (hl6 : bl S 6 = A6 ++ (enc1 a ++ B6)) (wa : wfE a) (va : VD 14 a.1 a.2.2) (hnw : okW a.2.1) (hsp : spOK a.2.1) (hop : 1 ≤ op ∧ op ≤ 6) (hop3 : op = 3 → a.1 = 16 ∨ a.1 = 18) (hcap : raw.length + 4 * (2 + a.2.1.length + a.2.2.length) ≤ 9960)
    (hF : (doP op a raw).1 ≠ 0 → ∀ U, frE S U → EdO U → Q (some (.int (-(nI (doP op a raw).1)))) (hp U))
    (hO : (doP op a raw).1 = 0 → ∀ U, frE S U → EdO U → bl U 7 = (doP op a raw).2 → Q (some (.int (if (doP op a raw).2 = raw then 0 else 1))) (hp U)) :
    sm_V N (d + 53 + 1) mm_E_performPath 2 9 [.ref 23, .int (nI A6.length), .int (nI (op - 1))] (hp S) Q := by
  have hb6 := eB_len hE.1 hl6
  have hc6 := bl_lenB hE.1
  rw [caps6] at hc6
  have hlen := stp_len a.2.1
  have hge := lsum_ge hsp.1
  have hne := stp_ne a.2.1
  have h8 := hsp.2
  have hak := VD_k va
  have va24 : VD 24 a.1 a.2.2 := VD_to (by omega) va
  have hw : ∀ w ∈ stp a.2.1, okW w := fun w hw => ⟨fun b hb => hnw.1 b (stp_in hw b hb), stp_rt hnw.2 hw⟩
  have hlastm : (stp a.2.1).getLastD [] ∈ stp a.2.1 := List.mem_of_getElem? (last_at hne)
  have w15 : sm_W N (d + 53 + 1) mm_E_performPath 15 [(0, .ref 9), (1, .ref 23), (2, .int (nI A6.length)), (3, .int (nI (op - 1)))] [.int (if decide (op ≠ 2 ∧ op ≠ 5) then 1 else 0)] (hp S) Q := by
    refine kE_performPath_15 (eB_ne (j := 6) (d := d + 51) (by omega) hE.1 hl6 wa ⟨_, rfl, ?_⟩)
    rw [nI_1]
    refine sE_reach (d := d + 48) (mk := decide (op ≠ 2 ∧ op ≠ 5)) hE h7 hv hl6 wa hsp (by omega) (fun hno U uF uE u7 => ⟨_, rfl, fun _ => ⟨fun c => ?_, fun c => ?_⟩, fun c => absurd rfl c⟩) (fun gs k2 es hso hmk hfn U uF uE u7 => ⟨_, rfl, fun _ => ⟨fun _ => ?_, fun c => ?_⟩, fun c => absurd rfl c⟩) (fun gs k2 es hso hor U x2 y2 uF uE u7 uH ug u8 un us u10 u11 hxy hy hsl => ⟨_, rfl, fun c => absurd c (by decide), fun _ => ?_⟩)
    · have h25 : op = 2 ∨ op = 5 := by
        by_cases z : op ≠ 2 ∧ op ≠ 5
        · rw [if_pos (decide_eq_true z)] at c
          exact absurd c (by decide)
        · omega
      have hd := doP_n hno
      rw [if_pos h25] at hd
      have := hO (by rw [hd]) U uF uE (by rw [hd]; exact u7 (decide_eq_false (by omega)))
      rw [hd, if_pos rfl] at this
      exact this
    · have h25 : ¬ (op = 2 ∨ op = 5) := fun z => by
        rw [if_neg (by rw [decide_eq_true_iff]; omega)] at c
        exact c rfl
      have hd := doP_n hno
      rw [if_neg h25] at hd
      have := hF (by rw [hd]; exact Nat.succ_ne_zero _) U uF uE
      rw [hd] at this
      exact this
    · have h25 : op = 2 ∨ op = 5 := by
        have := of_decide_eq_false hmk
        omega
      have hp1 := (wlk_pure (stp a.2.1) 3 raw 24 gs k2 es hso hv (by omega) (by omega) hw).2.2.2.2.2.2 hmk
      have hd := doP_s hso rfl
      have hfe : fnE op a k2 es ((stp a.2.1).getLastD []) = (0, es) := by
        rw [fnE, hfn]
        show (if op = 2 ∨ op = 5 then ((0 : Nat), es) else (0, es ++ [nwE op a _])) = _
        rw [if_pos h25]
      rw [hfe] at hd
      have := hO (by rw [hd]) U uF uE (by rw [hd, u7]; exact hp1.symm)
      rw [hd, if_pos hp1] at this
      exact this
    · rw [hmk] at c
      exact absurd rfl c
    · -- there, or free
      obtain ⟨g1, g2, g3, g4, g5, ⟨L, g6, g7⟩, -⟩ := wlk_pure (stp a.2.1) 3 raw 24 gs k2 es hso hv (by omega) (by omega) hw
      obtain ⟨ge1, ge2⟩ := wlk_ge (stp a.2.1) 3 raw 24 gs k2 es hso hv (by omega) (by omega)
      have hd := doP_s hso rfl
      generalize hwl : (stp a.2.1).getLastD [] = w at *
      obtain ⟨v, hvv⟩ : ∃ v, 24 - gs.length = v + 1 := ⟨24 - gs.length - 1, by omega⟩
      rw [hvv] at g3
      have hlp := g6 (encD es)
      have hel0 := encD_len es
      obtain ⟨-, hnm, hwf, hel⟩ := VD_h g2 (by omega) g3
      rw [g4] at hnm hwf hel
      have u6 : bl U 6 = A6 ++ (enc1 a ++ B6) := by rw [frE_6 uF (Or.inl rfl)]; exact hl6
      have hy6 : y2 ≤ (bl U 6).length := by rw [frE_6 uF (Or.inl rfl)]; exact hy
      have hsl6 : slice (bl U 6) x2 y2 = w := by rw [frE_6 uF (Or.inl rfl)]; exact hsl
      have hlu : (bl U 7).length = (encD es).length + L := by rw [u7]; exact hlp
      have hww := hw w hlastm
      -- what becomes of an answer
      have one : ∀ (fe : List El), fnE op a k2 es w = (0, fe) → (plg gs (encD fe)).length ≠ raw.length → ∀ V, frE U V → EdO V → bl V 7 = plg gs (encD fe) → Q (some (.int 1)) (hp V) := by
        intro fe hfe hne2 V vF vE v7
        rw [hfe] at hd
        have := hO (by rw [hd]) V (frE_tr uF vF) vE (by rw [hd]; exact v7)
        rw [hd, if_neg (fun z => hne2 (congrArg List.length z))] at this
        exact this
      have flt : ∀ (f0 : Nat) (fe : List El), fnE op a k2 es w = (f0 + 1, fe) → Q (some (.int (-(nI (f0 + 1))))) (hp U) := by
        intro f0 fe hfe
        rw [hfe] at hd
        have := hF (by rw [hd]; exact Nat.succ_ne_zero _) U uF uE
        rw [hd] at this
        exact this
      have rep : ∀ (l1 l2 : List El) (e e2 : El), fsp w es = some (l1, e, l2) → es = l1 ++ e :: l2 → e2.2.1 = e.2.1 → fnE op a k2 es w = (0, l1 ++ e2 :: l2) → (e2.1 = e.1 → e2.2.2 = e.2.2 → ∀ V, frE U V → EdO V → bl V 7 = bl U 7 → Q (some (.int 0)) (hp V)) ∧ (¬ (e2.1 = e.1 ∧ e2.2.2 = e.2.2) → ∀ V, frE U V → EdO V → bl V 7 = plg gs (encD (l1 ++ e2 :: l2)) → Q (some (.int 1)) (hp V)) := by
        intro l1 l2 e e2 hfs hes hn2 hfe
        rw [hfe] at hd
        have hraw := ge2 (by rw [hfs]; simp)
        have hre := rep_eq (gs := gs) (l1 := l1) (l2 := l2) hn2
        rw [← hes, hraw] at hre
        refine ⟨fun c1 c2 V vF vE v7 => ?_, fun c V vF vE v7 => ?_⟩
        · have h5 := hre.mpr ⟨c1, c2⟩
          have := hO (by rw [hd]) V (frE_tr uF vF) vE (by rw [hd, v7, u7, hraw]; exact h5.symm)
          rw [hd, if_pos h5] at this
          exact this
        · have := hO (by rw [hd]) V (frE_tr uF vF) vE (by rw [hd]; exact v7)
          rw [hd, if_neg (fun z => c (hre.mp z))] at this
          exact this
      -- a value set where nothing is
      have setn : fsp w es = none → op = 1 ∨ op = 3 → sm_V N (d + 53) mm_E_setValue 2 9 [.ref 23, .int (nI A6.length)] (hp U) (fun r8 h7 => ∃ z9 : Int32, r8 = some (.int z9) ∧ Q (some (.int z9)) h7) := by
        intro hfn h13
        have hfe : fnE op a k2 es w = (0, es ++ [(a.1, w, a.2.2)]) := by
          rw [fnE, hfn]
          show (if op = 2 ∨ op = 5 then ((0 : Nat), es) else (0, es ++ [nwE op a w])) = _
          rw [if_neg (by omega), nwE, if_neg (by omega)]
        refine sE_set_n (d := d + 48) uE u7 uH (by omega) (un hfn) u10 u11 hxy hy6 hsl6 u6 wa hak (by omega) (fun V vF vE v7 => ⟨_, rfl, one _ hfe ?_ V vF vE v7⟩)
        have := plg_len (gs := gs) (es := es) (es2 := es ++ [(a.1, w, a.2.2)])
        rw [encs_app, encs_cons, encs_nil, List.append_nil, List.length_append, enc1_len] at this
        omega
      -- an item put behind the others
      have itn : fsp w es = none → op = 4 ∨ op = 6 → sm_V N (d + 53) mm_E_addItem 2 9 [.ref 23, .int (nI A6.length)] (hp U) (fun r8 h7 => ∃ z9 : Int32, r8 = some (.int z9) ∧ Q (some (.int z9)) h7) := by
        intro hfn h46
        have hfe : fnE op a k2 es w = (0, es ++ [(4, w, encD [(a.1, dg 0, a.2.2)])]) := by
          rw [fnE, hfn]
          show (if op = 2 ∨ op = 5 then ((0 : Nat), es) else (0, es ++ [nwE op a w])) = _
          rw [if_neg (by omega), nwE, if_pos h46]
        refine sE_addItem_n (d := d + 48) uE u7 uH (by omega) (un hfn) u10 u11 hxy hy6 hsl6 (fun b hb => (hww.1 b hb).1) u6 wa hak (by omega) (fun V vF vE v7 => ⟨_, rfl, one _ hfe ?_ V vF vE v7⟩)
        have := plg_len (gs := gs) (es := es) (es2 := es ++ [(4, w, encD [(a.1, dg 0, a.2.2)])])
        rw [encs_app, encs_cons, encs_nil, List.append_nil, List.length_append, enc1_len] at this
        omega
      have itf : ∀ l1 e l2, fsp w es = some (l1, e, l2) → (op = 4 ∨ op = 6) → (op = 6 → e.1 = 4 → (els e.2.2).any (fun x => sameV 24 x.1 x.2.2 a.1 a.2.2) = false) → sm_V N (d + 53) mm_E_addItem 2 9 [.ref 23, .int (nI A6.length)] (hp U) (fun r8 h7 => ∃ z9 : Int32, r8 = some (.int z9) ∧ Q (some (.int z9)) h7) := by
        intro l1 e l2 hfs h46 hno6
        obtain ⟨hes, hew, -⟩ := fsp_some hfs
        have hee : e ∈ es := by rw [hes]; simp
        have hle := el_len hee
        have hve := (hel e hee).2.2
        have hfe : fnE op a k2 es w = chE op a k2 l1 e l2 := by rw [fnE, hfs]
        refine sE_addItem_f (d := d + 48) (items := els e.2.2) uE (by rw [u7, hes]) uH (by omega) (us l1 e l2 hfs) (hwf e hee) (VD_k hve) (fun e4 => ?_) u6 wa hak (by omega) (fun e4 => ⟨_, rfl, ?_⟩) (fun e4 V vF vE v7 => ⟨_, rfl, ?_⟩)
        · obtain ⟨v', rfl⟩ : ∃ v', v = v' + 1 := ⟨v - 1, by omega⟩
          rw [e4] at hve
          obtain ⟨z1, -, z3, -⟩ := VD_h (Or.inr rfl) (by omega) hve
          exact ⟨z1, z3⟩
        · exact flt 6 _ (by rw [hfe, chE, if_neg (by omega), if_neg (by omega), if_neg (by omega), if_pos e4])
        · have hfe2 : fnE op a k2 es w = (0, l1 ++ (4, e.2.1, encD (els e.2.2 ++ [(a.1, dg (els e.2.2).length, a.2.2)])) :: l2) := by
            rw [hfe, chE, if_neg (by omega), if_neg (by omega), if_neg (by omega), if_neg (fun y => y e4), if_neg (by omega), if_neg (fun y => by rw [hno6 y.1 e4] at y; exact absurd y.2 (by decide))]
          refine one _ hfe2 ?_ V vF vE v7
          have hl9 := plg_len (gs := gs) (es := es) (es2 := l1 ++ (4, e.2.1, encD (els e.2.2 ++ [(a.1, dg (els e.2.2).length, a.2.2)])) :: l2)
          have hraw := ge2 (by rw [hfs]; simp)
          rw [hraw] at hl9
          obtain ⟨v', rfl⟩ : ∃ v', v = v' + 1 := ⟨v - 1, by omega⟩
          rw [e4] at hve
          obtain ⟨z1, -, -, -⟩ := VD_h (Or.inr rfl) (by omega) hve
          have z2 := encD_len (els e.2.2)
          rw [← z1] at z2
          have z3 := encD_len (els e.2.2 ++ [(a.1, dg (els e.2.2).length, a.2.2)])
          rw [encs_app, List.length_append, encs_cons, encs_nil, List.append_nil, enc1_len] at z3
          have z4 : (encs es).length = (encs l1).length + (2 + e.2.1.length + e.2.2.length + (encs l2).length) := by rw [hes, encs_app, encs_cons, List.length_append, List.length_append, enc1_len]
          rw [encs_app, encs_cons, List.length_append, List.length_append, enc1_len] at hl9
          simp only at hl9
          omega
      refine ⟨fun c => ?_, fun c => ?_, fun c => ?_, fun c => ?_, fun c => ?_, fun c => ?_, fun c => ?_⟩
      · rw [nI_eql (by omega) (by omega)] at c
        have o1 : op = 1 := by have : op - 1 = 0 := c; omega
        cases hfs : fsp w es with
        | none => exact setn hfs (Or.inl o1)
        | some q =>
          obtain ⟨l1, e, l2⟩ := q
          obtain ⟨hes, hew, -⟩ := fsp_some hfs
          have hee : e ∈ es := by rw [hes]; simp
          obtain ⟨r0, r1⟩ := rep l1 l2 e (a.1, e.2.1, a.2.2) hfs hes rfl (by rw [fnE, hfs]; show chE op a k2 l1 e l2 = _; rw [chE, if_pos o1])
          exact sE_set_f (d := d + 48) uE (by rw [u7, hes]) uH (by omega) (us l1 e l2 hfs) (hwf e hee) (VD_k (hel e hee).2.2) u6 wa hak (by omega) (fun c1 c2 => ⟨_, rfl, r0 c1 c2 U (frE_rf U) uE rfl⟩) (fun c1 V vF vE v7 => ⟨_, rfl, r1 c1 V vF vE v7⟩)
      · rw [nI_eql (by omega) (by omega)] at c
        have o2 : op = 2 := by have : op - 1 = 1 := c; omega
        have hfn : fsp w es ≠ none := by
          rcases hor with z | z
          · rw [decide_eq_true_iff] at z
            omega
          · exact z
        cases hfs : fsp w es with
        | none => exact absurd hfs hfn
        | some q =>
          obtain ⟨l1, e, l2⟩ := q
          obtain ⟨hes, hew, -⟩ := fsp_some hfs
          have hee : e ∈ es := by rw [hes]; simp
          have hfe : fnE op a k2 es w = if k2 = 3 then (0, l1 ++ l2) else (0, l1 ++ (10, e.2.1, []) :: l2) := by rw [fnE, hfs]; show chE op a k2 l1 e l2 = _; rw [chE, if_neg (by omega), if_pos o2]
          refine sE_unset (d := d + 48) uE (by rw [u7, hes]) uH (by omega) u8 g2 (us l1 e l2 hfs) (hwf e hee) (VD_k (hel e hee).2.2) (fun k3 V vF vE v7 => ⟨_, rfl, ?_⟩) (fun k4 c1 c2 => ⟨_, rfl, ?_⟩) (fun k4 c1 V vF vE v7 => ⟨_, rfl, ?_⟩)
          · rw [if_pos k3] at hfe
            refine one _ hfe ?_ V vF vE v7
            have hl9 := plg_len (gs := gs) (es := es) (es2 := l1 ++ l2)
            have hraw := ge2 hfn
            rw [hraw] at hl9
            have z4 : (encs es).length = (encs l1).length + (2 + e.2.1.length + e.2.2.length + (encs l2).length) := by rw [hes, encs_app, encs_cons, List.length_append, List.length_append, enc1_len]
            rw [encs_app, List.length_append] at hl9
            omega
          · rw [if_neg (by omega)] at hfe
            exact (rep l1 l2 e (10, e.2.1, []) hfs hes rfl hfe).1 c1 c2 U (frE_rf U) uE rfl
          · rw [if_neg (by omega)] at hfe
            exact (rep l1 l2 e (10, e.2.1, []) hfs hes rfl hfe).2 c1 V vF vE v7
      · rw [nI_eql (by omega) (by omega)] at c
        have o3 : op = 3 := by have : op - 1 = 2 := c; omega
        refine ⟨_, hg_9_7 U, fun c9 => ?_, fun c9 => ?_⟩
        · cases hfs : fsp w es with
          | none => exact setn hfs (Or.inr o3)
          | some q =>
            obtain ⟨l1, e, l2⟩ := q
            obtain ⟨hes, hew, -⟩ := fsp_some hfs
            rw [us l1 e l2 hfs] at c9
            have hbl := bl_lenB uE.2.1
            rw [caps7, u7] at hbl
            obtain ⟨A, B, hA, hAB⟩ := nst_c gs (szs gs (encs es).length)
            rw [plg_nst, hAB, List.length_append, hA, List.length_append, hes, encs_app, List.length_append] at hbl
            exact absurd c9 (nI_m1 (by omega))
        · cases hfs : fsp w es with
          | none => exact absurd (un hfs) c9
          | some q =>
            obtain ⟨l1, e, l2⟩ := q
            obtain ⟨hes, hew, -⟩ := fsp_some hfs
            have hee : e ∈ es := by rw [hes]; simp
            have hfe : fnE op a k2 es w = chE op a k2 l1 e l2 := by rw [fnE, hfs]
            have hch : chE op a k2 l1 e l2 = (if e.1 = 16 ∨ e.1 = 18 then (if ovB (nvR e.1 e.2.2) (nvR a.1 a.2.2) = true then (8, l1 ++ e :: l2) else (0, l1 ++ (sumK e.1 a.1 (nvR e.1 e.2.2 + nvR a.1 a.2.2), e.2.1, numR (sumK e.1 a.1 (nvR e.1 e.2.2 + nvR a.1 a.2.2)) (nvR e.1 e.2.2 + nvR a.1 a.2.2)) :: l2)) else (7, l1 ++ e :: l2)) := by rw [chE, if_neg (by omega), if_neg (by omega), if_pos o3]
            rw [hch] at hfe
            refine sE_inc (d := d + 48) uE (by rw [u7, hes]) uH (by omega) (us l1 e l2 hfs) (hwf e hee) (VD_k (hel e hee).2.2) u6 wa (hop3 o3) (by omega) (fun hn => ⟨_, rfl, ?_⟩) (fun hn ho => ⟨_, rfl, ?_⟩) (fun hn ho vv kk hvv2 hkk => ?_)
            · rw [if_neg hn] at hfe
              exact flt 6 _ hfe
            · rw [if_pos hn, if_pos (ovB_iff.mpr ho)] at hfe
              exact flt 7 _ hfe
            · rw [if_pos hn, if_neg (fun z => ho (ovB_iff.mp z)), hvv2, hkk] at hfe
              obtain ⟨r0, r1⟩ := rep l1 l2 e (kk, e.2.1, numR kk vv) hfs hes rfl hfe
              exact ⟨fun c1 c2 V vF vE v7 => ⟨_, rfl, r0 c1 c2 V vF vE v7⟩, fun c1 V vF vE v7 => ⟨_, rfl, r1 c1 V vF vE v7⟩⟩
      · rw [nI_eql (by omega) (by omega)] at c
        have o4 : op = 4 := by have : op - 1 = 3 := c; omega
        cases hfs : fsp w es with
        | none => exact itn hfs (Or.inl o4)
        | some q =>
          obtain ⟨l1, e, l2⟩ := q
          exact itf l1 e l2 hfs (Or.inl o4) (fun z => absurd z (by omega))
      · rw [nI_eql (by omega) (by omega)] at c
        have o5 : op = 5 := by have : op - 1 = 4 := c; omega
        have hfn : fsp w es ≠ none := by
          rcases hor with z | z
          · rw [decide_eq_true_iff] at z
            omega
          · exact z
        cases hfs : fsp w es with
        | none => exact absurd hfs hfn
        | some q =>
          obtain ⟨l1, e, l2⟩ := q
          obtain ⟨hes, hew, -⟩ := fsp_some hfs
          have hee : e ∈ es := by rw [hes]; simp
          have hle := el_len hee
          have hve := (hel e hee).2.2
          obtain ⟨v', rfl⟩ : ∃ v', v = v' + 1 := ⟨v - 1, by omega⟩
          have hfe : fnE op a k2 es w = chE op a k2 l1 e l2 := by rw [fnE, hfs]
          refine sE_pull (d := d) (items := els e.2.2) uE (by rw [u7, hes]) uH (by omega) (us l1 e l2 hfs) (hwf e hee) (VD_k hve) (fun e4 => ?_) u6 wa va24 (fun e4 => ⟨_, rfl, ?_⟩) (fun e4 V vF vE v7 => ⟨_, rfl, ?_⟩)
          · rw [e4] at hve
            obtain ⟨z1, z2, z3, z4⟩ := VD_h (Or.inr rfl) (by omega) hve
            exact ⟨z1, z2.2 rfl, fun b hb => ⟨z3 b hb, VD_to (by omega) (z4 b hb).2.2, VD_k (z4 b hb).2.2⟩⟩
          · exact flt 6 _ (by rw [hfe, chE, if_neg (by omega), if_neg (by omega), if_neg (by omega), if_pos e4])
          · have hfe2 : fnE op a k2 es w = (0, l1 ++ (4, e.2.1, encD (rnm 0 ((els e.2.2).filter (fun x => !sameV 24 x.1 x.2.2 a.1 a.2.2)))) :: l2) := by
              rw [hfe, chE, if_neg (by omega), if_neg (by omega), if_neg (by omega), if_neg (fun y => y e4), if_pos o5]
            obtain ⟨r0, r1⟩ := rep l1 l2 e (4, e.2.1, encD (rnm 0 ((els e.2.2).filter (fun x => !sameV 24 x.1 x.2.2 a.1 a.2.2)))) hfs hes rfl hfe2
            rw [e4] at hve
            obtain ⟨z1, z2, z3, z4⟩ := VD_h (Or.inr rfl) (by omega) hve
            by_cases hit : rnm 0 ((els e.2.2).filter (fun x => !sameV 24 x.1 x.2.2 a.1 a.2.2)) = els e.2.2
            · rw [if_pos hit]
              refine r0 e4.symm (by rw [hit]; exact z1.symm) V vF vE ?_
              have hae : (4, e.2.1, e.2.2) = e := by rw [← e4]
              rw [v7, hit, ← z1, hae, u7, hes]
            · rw [if_neg hit]
              refine r1 (fun z => hit ?_) V vF vE v7
              have z5 := z.2
              rw [show (4, e.2.1, encD (rnm 0 ((els e.2.2).filter (fun x => !sameV 24 x.1 x.2.2 a.1 a.2.2)))).2.2 = encD (rnm 0 ((els e.2.2).filter (fun x => !sameV 24 x.1 x.2.2 a.1 a.2.2))) from rfl] at z5
              have z6 := els_encD (es := rnm 0 ((els e.2.2).filter (fun x => !sameV 24 x.1 x.2.2 a.1 a.2.2))) (rnm_el (P := wfE) (fun x i hx => ⟨fun b hb => ((okW_dg i).1 b hb).1, hx.2⟩) _ 0 (fun x hx => z3 x (List.mem_filter.mp hx).1))
              rw [z5] at z6
              exact z6.symm
      · rw [nI_eql (by omega) (by omega)] at c
        have o6 : op = 6 := by have : op - 1 = 5 := c; omega
        cases hfs : fsp w es with
        | none => exact sE_hasItem_n (d := d + 52) (un hfs) ⟨_, rfl, fun _ => itn hfs (Or.inr o6), fun z => absurd rfl z⟩
        | some q =>
          obtain ⟨l1, e, l2⟩ := q
          obtain ⟨hes, hew, -⟩ := fsp_some hfs
          have hee : e ∈ es := by rw [hes]; simp
          have hle := el_len hee
          have hve := (hel e hee).2.2
          obtain ⟨v', rfl⟩ : ∃ v', v = v' + 1 := ⟨v - 1, by omega⟩
          have hfe : fnE op a k2 es w = chE op a k2 l1 e l2 := by rw [fnE, hfs]
          refine sE_hasItem (d := d) (items := els e.2.2) uE (by rw [u7, hes]) (us l1 e l2 hfs) (hwf e hee) (VD_k hve) (fun e4 => ?_) u6 wa va24 (fun e4 => ⟨_, rfl, fun _ => itf l1 e l2 hfs (Or.inr o6) (fun _ z => absurd z e4), fun z => absurd rfl z⟩) (fun e4 => ⟨_, rfl, fun z => itf l1 e l2 hfs (Or.inr o6) (fun _ _ => ?_), fun z => ?_⟩)
          · rw [e4] at hve
            obtain ⟨z1, z2, z3, z4⟩ := VD_h (Or.inr rfl) (by omega) hve
            exact ⟨z1, fun b hb => ⟨z3 b hb, VD_to (by omega) (z4 b hb).2.2⟩⟩
          · cases h : (els e.2.2).any (fun x => sameV 24 x.1 x.2.2 a.1 a.2.2) with
            | false => rfl
            | true => rw [h] at z; exact absurd z (by decide)
          · have hany : (els e.2.2).any (fun x => sameV 24 x.1 x.2.2 a.1 a.2.2) = true := by
              cases h : (els e.2.2).any (fun x => sameV 24 x.1 x.2.2 a.1 a.2.2) with
              | true => rfl
              | false => rw [h] at z; exact absurd rfl z
            have hfe2 : fnE op a k2 es w = (0, l1 ++ e :: l2) := by
              rw [hfe, chE, if_neg (by omega), if_neg (by omega), if_neg (by omega), if_neg (fun y => y e4), if_neg (by omega), if_pos ⟨o6, hany⟩]
            exact (rep l1 l2 e e hfs hes rfl hfe2).1 rfl rfl U (frE_rf U) uE rfl
      · exfalso
        rw [nI_eql (by omega) (by omega), nI_eql (by omega) (by omega), nI_eql (by omega) (by omega), nI_eql (by omega) (by omega), nI_eql (by omega) (by omega), nI_eql (by omega) (by omega)] at c
        obtain ⟨c0, c1, c2, c3, c4, c5⟩ := c
        have y0 : ¬ op - 1 = 0 := c0
        have y1 : ¬ op - 1 = 1 := c1
        have y2 : ¬ op - 1 = 2 := c2
        have y3 : ¬ op - 1 = 3 := c3
        have y4 : ¬ op - 1 = 4 := c4
        have y5 : ¬ op - 1 = 5 := c5
        omega
  have w14 : op = 2 ∨ op = 5 → sm_W N (d + 53 + 1) mm_E_performPath 14 [(0, .ref 9), (1, .ref 23), (2, .int (nI A6.length)), (3, .int (nI (op - 1)))] [] (hp S) Q := by
    intro h25
    have hdc : decide (op ≠ 2 ∧ op ≠ 5) = false := decide_eq_false (by omega)
    rw [hdc] at w15
    exact kE_performPath_14 w15
  refine cE_performPath (hk_9 S) ⟨fun c => w14 ?_, fun c => ⟨fun c2 => w14 ?_, fun c2 => ?_⟩⟩
  · rw [nI_eql (by omega) (by omega)] at c
    have : op - 1 = 1 := c
    omega
  · rw [nI_eql (by omega) (by omega)] at c2
    have : op - 1 = 4 := c2
    omega
  · rw [nI_eql (by omega) (by omega)] at c c2
    have q1 : ¬ op - 1 = 1 := c
    have q2 : ¬ op - 1 = 4 := c2
    have hdc : decide (op ≠ 2 ∧ op ≠ 5) = true := decide_eq_true ⟨by omega, by omega⟩
    rw [hdc] at w15
    exact w15
end Pf
