/-! calls: apply -/
theorem flP_mem {op o : Nat} {q : Nat × Nat × Nat × El} : ∀ (es : List El) (p : Nat), q ∈ flP op o es p → q.1 = op ∧ q.2.2.2 ∈ es := by
  intro es
  induction es with
  | nil => intro p h; rw [flP] at h; simp at h
  | cons a es ih =>
    intro p h
    rw [flP] at h
    rcases List.mem_cons.mp h with rfl | h
    · exact ⟨rfl, List.mem_cons_self⟩
    · exact ⟨(ih _ h).1, List.mem_cons_of_mem _ (ih _ h).2⟩
theorem flO_mem {q : Nat × Nat × Nat × El} : ∀ (es : List El) (o : Nat), q ∈ flO es o → ∃ e ∈ es, q.1 = opOf e.2.1 ∧ q.2.2.2 ∈ els e.2.2 := by
  intro es
  induction es with
  | nil => intro p h; rw [flO] at h; simp at h
  | cons a es ih =>
    intro p h
    rw [flO] at h
    rcases List.mem_append.mp h with h | h
    · obtain ⟨h1, h2⟩ := flP_mem _ _ h
      exact ⟨a, List.mem_cons_self, h1, h2⟩
    · obtain ⟨e, h1, h2⟩ := ih _ h
      exact ⟨e, List.mem_cons_of_mem _ h1, h2⟩
theorem csum_app : ∀ (l m : List (Nat × Nat × Nat × El)), csum (l ++ m) = csum l + csum m := by
  intro l m
  induction l with
  | nil => rw [List.nil_append, csum]; omega
  | cons a l ih => rw [List.cons_append, csum, csum, ih]; omega
theorem csum_P (op o : Nat) : ∀ (es : List El) (p : Nat), csum (flP op o es p) = (encs es).length := by
  intro es
  induction es with
  | nil => intro p; rfl
  | cons a es ih => intro p; rw [flP, csum, ih, encs_cons, List.length_append, enc1_len]
theorem csum_O : ∀ (es : List El) (o : Nat), (∀ e ∈ es, e.2.2 = encD (els e.2.2)) → csum (flO es o) + 7 * es.length ≤ (encs es).length := by
  intro es
  induction es with
  | nil => intro o _; exact Nat.le_refl 0
  | cons a es ih =>
    intro o h
    have h1 := ih (o + 1) (fun e he => h e (List.mem_cons_of_mem _ he))
    have h2 := encD_len (els a.2.2)
    rw [← h a List.mem_cons_self] at h2
    rw [flO, csum_app, csum_P, encs_cons, List.length_append, enc1_len, List.length_cons]
    omega
theorem csum_len : ∀ (l : List (Nat × Nat × Nat × El)), 2 * l.length ≤ csum l := by
  intro l
  induction l with
  | nil => exact Nat.le_refl 0
  | cons a l ih => rw [List.length_cons, csum]; omega
theorem rnF_le : ∀ (l : List (Nat × Nat × Nat × El)) (m : Nat) (raw : List Nat), (rnF l m raw).1 ≤ 8 ∧ (rnF l m raw).2.2.2.1 ≤ m + l.length := by
  intro l
  induction l with
  | nil => intro m raw; exact ⟨Nat.zero_le _, Nat.le_refl _⟩
  | cons q l ih =>
    intro m raw
    have hd := doP_le q.1 q.2.2.2 raw
    rw [rnF, List.length_cons]
    split
    · obtain ⟨h1, h2⟩ := ih (m + (if (doP q.1 q.2.2.2 raw).2 = raw then 0 else 1)) (doP q.1 q.2.2.2 raw).2
      refine ⟨h1, ?_⟩
      have : (if (doP q.1 q.2.2.2 raw).2 = raw then 0 else 1) ≤ 1 := by split <;> omega
      omega
    · exact ⟨hd, by show m ≤ _; omega⟩
theorem BaI_F {S U : sT} (h : frF S U) (hE : EdO U) (hB : BaI S) : BaI U ∧ frCl S U := by
  have fc : frCl S U := ⟨fun k a b => h.1 k (by omega) (by omega) (by omega) (by omega), fun k a => h.2.1 k (by omega) (by omega) (by omega) (by omega), h.2.2⟩
  refine ⟨⟨frCl_ok fc hB.1, fun j hj => ?_, hE.2.2.2.2.2, frCl_29 fc hB.2.2.2.1, frCl_F fc hB.2.2.2.2⟩, fc⟩
  by_cases c : j < 6
  · obtain ⟨n, a, b, c⟩ := hB.2.1 j hj
    exact ⟨n, a, by rw [h.1 _ (by omega) (by omega) (by omega) (by omega)]; exact b, fun i => by rw [h.2.1 _ (by omega) (by omega) (by omega) (by omega)]; exact c i⟩
  · rcases (show j = 6 ∨ j = 7 ∨ j = 8 ∨ j = 9 ∨ j = 10 by omega) with rfl | rfl | rfl | rfl | rfl
    · exact hE.1
    · exact hE.2.1
    · exact hE.2.2.1
    · exact hE.2.2.2.1
    · exact hE.2.2.2.2.1
theorem frF_bl {S T : sT} (h : frF S T) {j : Nat} (hj : j < 7) : bl T j = bl S j := by rw [bl, bl, h.1 _ (by omega) (by omega) (by omega) (by omega), h.2.1 _ (by omega) (by omega) (by omega) (by omega)]
theorem ap_end {S X T : sT} (hI : Inv S) (hB : BaI X) (fc : frCl S X) (fT : frA X T) (b0 : bl X 0 = bl S 0) (i0 : X.1 0 = S.1 0) (e17 : T.1 17 = X.1 1) (e18 : T.1 18 = X.1 2) (hst : ∀ a b, b ≤ 14100 → 8000 ≤ a → slice (stl T) a b = slice (stl S) a b) (hsl : SlI T) (b6 : bl X 6 = bl S 6) (h4 : X.1 4 = S.1 4) (ha : ∀ k, 12 ≤ k → k ≤ 15 → X.2.1 k = S.2.1 k) : Inv T := by
  obtain ⟨-, hE, ⟨tp, htp, h15, hb0⟩, -, hC⟩ := hI
  have hm : frMo X T := ⟨fun k hk => fT.1 k (by omega), fun k hk => fT.2.1 k (by omega)⟩
  refine ⟨BaI_Mo hm hB fT.2.2.1 fT.2.2.2.1 fT.2.2.2.2, ⟨?_, ?_, ?_⟩, ⟨tp, htp, ?_, ?_⟩, hsl, ?_⟩
  · rw [fT.1 16 (by omega), fT.1 0 (by omega), fc.1 16 (by omega) (by omega), i0]; exact hE.1
  · rw [e17, fT.1 1 (by omega)]
  · rw [e18, fT.1 2 (by omega)]
  · rw [fT.1 15 (by omega), fc.1 15 (by omega) (by omega)]; exact h15
  · rw [frMo_bl hm (by omega), b0, hst _ _ (by omega) (by omega)]; exact hb0
  · have hu : u4 (stl T) 8000 = u4 (stl S) 8000 := by
      have h1 := hst 8000 (8000 + 4) (by omega) (by omega)
      have h2 : u4 (slice (stl T) 8000 (8000 + 4)) 0 = u4 (stl T) 8000 := sl_u4 (by omega)
      have h3 : u4 (slice (stl S) 8000 (8000 + 4)) 0 = u4 (stl S) 8000 := sl_u4 (by omega)
      rw [← h2, h1, h3]
    unfold ChI
    rw [fT.1 0 (by omega), i0]
    rcases hC with hC | ⟨c1, c2, c3, c4, c5, ps, c6, c7⟩
    · exact Or.inl hC
    · have hcd : chd T = chd S := by rw [chd, hu, hst _ _ (by omega) (by omega)]; rfl
      rw [hcd, hu, frMo_bl hm (by omega), b6]
      exact Or.inr ⟨c1, c2, c3, c4, c5, ps, frMo_P hm (PlA_i h4 ha b6 c6), c7⟩
theorem SlI_st {S X T : sT} (hst : stl T = stl S) (fT : frA X T) (hS : SlI S) (hb : ∀ k, k < 4 → bl X (1 + k) = bl S (1 + k)) : SlI T := by
  obtain ⟨q1, q2⟩ := okSl_st hst hS.1
  have hm : frMo X T := ⟨fun k hk => fT.1 k (by omega), fun k hk => fT.2.1 k (by omega)⟩
  exact ⟨q1, fun k hk => by rw [frMo_bl hm (by omega), hb k hk, q2]; exact hS.2 k hk⟩
section Ce
variable {N d : Nat} {Q : Option Value → sm_H → Prop} {S : sT}
theorem sP_of1 : Q (some (.int (-1))) (hp S) → sm_V N (d + 1) mm_P_operatorOf 3 4 [.int (-1)] (hp S) Q ∧ sm_V N (d + 1) mm_P_numberOf 3 4 [.int (-1)] (hp S) Q := by
  intro h
  exact ⟨cP_operatorOf (hk_4 S) ⟨fun _ => h, fun z => absurd (by decide) z⟩, cP_numberOf (hk_4 S) ⟨fun _ => h, fun z => absurd (by decide) z⟩⟩
theorem pr_apply {s : Int32} (hI : Inv S) : okP N (d + 60) mm_D_apply mm_M_apply [.int s] S := by
  obtain ⟨hB, hE, hT, hS, hC⟩ := hI
  have hI : Inv S := ⟨hB, hE, hT, hS, hC⟩
  have hlen := stl_len S
  have hcd : S.1 16 ≠ 0 → u4 (stl S) 8000 ≤ 2000 ∧ okD (chd S) = true ∧ (lkO (els (chd S)) [] 0).1 = 0 := fun h => by
    rcases hC with hC | ⟨c1, c2, c3, c4, -⟩
    · exact absurd (hE.1.trans hC) h
    · exact ⟨c2, c3, c4⟩
  refine cD_apply (hk_0 S) (sD_slotOf (d := d + 58) (fun hn => ⟨none, rfl, fun _ => ⟨_, rfl, ?_⟩, fun a4 c => (by cases c)⟩) (fun k hk hs => ⟨some (11 + 2 * (1 + k)), rfl, fun c => (by cases c), fun a4 c => ?_⟩))
  · exact sM_apply (d := d + 54) hB.1 hB.2.2.2.1 hB.2.2.2.2 hS.1 hcd (fun _ => ⟨rfl, S, rfl, hI⟩) (fun z _ => absurd z hn) (fun k hk hs => absurd (by rw [hs, nI_t (by omega)]; exact ⟨by omega, by omega⟩) hn)
  cases c
  subst hs
  have hsr : 0 ≤ (nI k).toInt ∧ (nI k).toInt < 4 := by rw [nI_t (by omega)]; exact ⟨by omega, by omega⟩
  refine ⟨_, hg_0_5 S, fun c => ⟨_, rfl, ?_⟩, fun c => ⟨_, hg_0_4 S, _, hg_9_0 S, _, hb_g1 (j := 1 + k) S (by omega), ?_⟩⟩
  · exact sM_apply (d := d + 54) hB.1 hB.2.2.2.1 hB.2.2.2.2 hS.1 hcd (fun z => absurd hsr z) (fun _ _ => ⟨rfl, S, rfl, hI⟩) (fun _ _ _ h16 => absurd (hE.1.trans c) h16)
  have h16 : S.1 16 ≠ 0 := fun z => c (hE.1.symm.trans z)
  rcases id hC with z | ⟨c1, c2, c3, c4, c5, ps, c6, c7⟩
  · exact absurd z c
  obtain ⟨vk, vl, -⟩ := slot_VD hS.1 hk
  have hbk := hS.2 k hk
  have hckl : (chd S).length ≤ 2000 := by rw [chd, slice_len (by omega)]; omega
  have hcv := okD_VD (v := chd S) (stl_b S) c3
  obtain ⟨r1, -, -, r4⟩ := VD_h (Or.inl rfl) (by omega) hcv
  have hel := VD_el (Or.inl rfl) (by omega) hcv
  have hlo := lkO_ok _ _ _ c4
  have hrl := encD_len (els (chd S))
  rw [← r1] at hrl
  have eel : ∀ e ∈ els (chd S), e.2.2.length ≤ 2000 ∧ VD 15 3 e.2.2 := fun e he => by
    have h1 := el_len he
    have h2 := (hel e he).2
    rw [(hlo e he).2.1] at h2
    exact ⟨by omega, h2⟩
  have hcs := csum_O (els (chd S)) 0 (fun e he => (VD_h (Or.inl rfl) (by have := (eel e he).1; omega) (eel e he).2).1)
  have hcb : csum (ps.map pPr) ≤ 1988 := by
    rw [c7]
    by_cases hz : els (chd S) = []
    · rw [hz, flO, csum]; omega
    · have : 0 < (els (chd S)).length := List.length_pos_iff.mpr hz
      omega
  have hpl : ps.length ≤ 999 := by
    have := csum_len (ps.map pPr)
    rw [List.length_map] at this
    omega
  have hval : ∀ p ∈ ps, 1 ≤ p.2.1 ∧ p.2.1 ≤ 6 ∧ VD 14 p.2.2.2.2.1 p.2.2.2.2.2.2 ∧ okW p.2.2.2.2.2.1 ∧ spOK p.2.2.2.2.2.1 ∧ (p.2.1 = 3 → p.2.2.2.2.1 = 16 ∨ p.2.2.2.2.1 = 18) := fun p hp1 => by
    have h1 : pPr p ∈ flO (els (chd S)) 0 := by rw [← c7]; exact List.mem_map_of_mem hp1
    obtain ⟨e, he, h2, h3⟩ := flO_mem _ _ h1
    have h2' : p.2.1 = opOf e.2.1 := h2
    have h3' : p.2.2.2.2 ∈ els e.2.2 := h3
    obtain ⟨l1, l2, l3⟩ := hlo e he
    obtain ⟨v1, v2⟩ := VD_el (Or.inl rfl) (by have := (eel e he).1; omega) (eel e he).2 _ h3'
    obtain ⟨s1, s2⟩ := l3 _ h3'
    have := opOf_le e.2.1
    exact ⟨by omega, by omega, v2, v1, s1, fun y => s2 (h2'.symm.trans y)⟩
  generalize hrr : rnF (ps.map pPr) 0 (sld S k) = r
  obtain ⟨lk1, lk2, lk3⟩ := rnF_O (els (chd S)) 0 0 (sld S k)
  rw [← c7, hrr] at lk1 lk2 lk3
  obtain ⟨rb1, rb2⟩ := rnF_le (ps.map pPr) 0 (sld S k)
  rw [hrr] at rb1 rb2
  rw [List.length_map] at rb2
  have mref : ∀ X, BaI X → frCl S X → ∀ QQ : Option Value → sm_H → Prop,
      (r.1 ≠ 0 → ∀ T, frA X T → T.1 17 = nI r.2.1 → T.1 18 = nI r.2.2.1 → stl T = stl S → QQ (some (.int (nI r.1 - 20))) (hp T)) →
      (r.1 = 0 → (2000 < r.2.2.2.2.length ∨ 16 < dep 24 3 r.2.2.2.2) → ∀ T, frA X T → T.1 17 = -1 → T.1 18 = -1 → stl T = stl S → QQ (some (.int (9 - 20))) (hp T)) →
      (r.1 = 0 → r.2.2.2.2.length ≤ 2000 → dep 24 3 r.2.2.2.2 ≤ 16 → VD 24 3 r.2.2.2.2 → ∀ T, frA X T → T.1 17 = X.1 17 → T.1 18 = X.1 18 → (∀ j, (stl T).getD j 0 = if 2000 * k ≤ j ∧ j < 2000 * k + r.2.2.2.2.length then r.2.2.2.2.getD (j - 2000 * k) 0 else (stl S).getD j 0) → QQ (some (.int (nI r.2.2.2.1))) (hp T)) →
      sm_V N (d + 60) mm_M_apply 5 33 [.int (nI k)] (hp X) QQ := by
    intro X bX fX QQ hA hBB hCC
    have st := frCl_st fX
    have sX : ∀ k, sld X k = sld S k := fun k => by rw [sld, sld, st]
    have cX : chd X = chd S := by rw [chd, chd, st]
    refine sM_apply (d := d + 54) bX.1 bX.2.2.2.1 bX.2.2.2.2 (okSl_st st hS.1).1 (fun _ => by rw [cX, st]; exact ⟨c2, c3, c4⟩) (fun z => absurd hsr z) (fun _ z => absurd ((fX.1 16 (by omega) (by omega)).symm.trans z) h16) (fun k2 hk2 hs2 _ r2 hr2 => ?_)
    have ek : k2 = k := ((nI_eq (by omega) (by omega)).mp hs2).symm
    subst ek
    rw [cX, sX] at hr2
    rw [hr2] at lk1 lk2 lk3
    rw [st]
    refine ⟨fun y => ?_, fun y => ?_, fun y => ?_⟩
    · rw [← lk2 y]
      exact hA (by rw [lk1]; exact y)
    · rw [← lk3]
      exact hBB (by rw [lk1]; exact y)
    · rw [← lk3]
      exact hCC (by rw [lk1]; exact y)
  have n1 := bl_n (hB.2.1 (1 + k) (by omega))
  rw [n1]
  refine sB_become (j := 7) (j2 := 1 + k) (d := d + 58) (by omega) (hB.2.1 7 (by omega)) (by omega) (hB.2.1 (1 + k) (by omega)) (Nat.le_refl _) (by rw [hbk]; exact Nat.le_trans vl (by decide)) (fun S1 e1 => ⟨rfl, _, hg_0_4 S1, _, hg_0_3 S1, ?_⟩)
  rw [List.take_length, hbk] at e1
  have hB1 := BaI_eq (by omega) (by omega) e1 hB
  have f1 := frCl_eq (S := S) (by omega) e1
  have cap : caps (1 + k) = 2000 := by rcases (show k = 0 ∨ k = 1 ∨ k = 2 ∨ k = 3 by omega) with rfl | rfl | rfl | rfl <;> rfl
  refine sE_perform (d := d + 4) (r := r) (PlA_i (eqB_i e1 (by omega)) (fun k _ _ => eqB_a e1 (by omega)) (eqB_bl e1 (by omega)) c6) hpl hval (BaI_E hB1) e1.2.2 (VD_to (by omega) vk) (by omega) hrr (fun y U i p fU eU hi po pn h13 => ?_) (fun y U fU eU h7 hv h13 => ⟨fun hor => ?_, fun hl hdp => ?_⟩)
  · obtain ⟨bU, cU⟩ := BaI_F fU eU hB1
    have ng : ¬ (0 : Int32) ≤ -(nI r.1) := by
      have h1 : 1 ≤ r.1 := by omega
      generalize r.1 = q at h1 rb1
      rcases (show q = 1 ∨ q = 2 ∨ q = 3 ∨ q = 4 ∨ q = 5 ∨ q = 6 ∨ q = 7 ∨ q = 8 by omega) with rfl | rfl | rfl | rfl | rfl | rfl | rfl | rfl <;> decide
    have pU : PlA U ps := PlA_F fU (PlA_i (eqB_i e1 (by omega)) (fun k _ _ => eqB_a e1 (by omega)) (eqB_bl e1 (by omega)) c6)
    refine ⟨_, rfl, fun z => absurd z ng, fun _ => ⟨_, hg_0_3 U, _, hg_0_4 U, _, hg_9_11 U, ?_⟩⟩
    rw [h13]
    refine (sP_of (d := d + 58) pU hi hpl).2.2.1 ⟨_, rfl, _, hu_0_6 U _, _, hg_0_3 _, _, hg_0_4 _, _, hg_9_11 _, ?_⟩
    have q13 : (sI U 1 (nI p.2.2.1)).1 13 = nI i := by rw [← h13]; simp [sI, va_up]
    rw [q13]
    have pU2 : PlA (sI U 1 (nI p.2.2.1)) ps := PlA_i (by simp [sI, va_up]) (fun _ _ _ => rfl) (bl_sI (by omega)) pU
    refine (sP_of (d := d + 58) pU2 hi hpl).2.2.2 ⟨_, rfl, _, hu_0_7 _ _, _, rfl, ?_⟩
    rw [po, pn]
    have bX := BaI_i (k := 2) (by omega) (nI r.2.2.1) (BaI_i (k := 1) (by omega) (nI r.2.1) bU)
    have cX := frCl_tr f1 (frCl_tr cU (frCl_tr (frCl_sI U (k := 1) (by omega) (nI r.2.1)) (frCl_sI (sI U 1 (nI r.2.1)) (k := 2) (by omega) (nI r.2.2.1))))
    have bo : ∀ j, j < 7 → bl (sI (sI U 1 (nI r.2.1)) 2 (nI r.2.2.1)) j = bl S j := fun j hj => by rw [bl_sI (by omega), bl_sI (by omega), frF_bl fU hj, eqB_bl e1 (by omega)]
    have x0 : ∀ k, k = 0 ∨ k = 4 → (sI (sI U 1 (nI r.2.1)) 2 (nI r.2.2.1)).1 k = S.1 k := fun k hk => by
      have : (sI (sI U 1 (nI r.2.1)) 2 (nI r.2.2.1)).1 k = U.1 k := by
        simp only [sI, va_up]
        rw [if_neg (by omega), if_neg (by omega)]
      rw [this, fU.1 k (by omega) (by omega) (by omega) (by omega), eqB_i e1 (by omega)]
    have x1 : (sI (sI U 1 (nI r.2.1)) 2 (nI r.2.2.1)).1 1 = nI r.2.1 := by simp [sI, va_up]
    have x2 : (sI (sI U 1 (nI r.2.1)) 2 (nI r.2.2.1)).1 2 = nI r.2.2.1 := by simp [sI, va_up]
    have xa : ∀ k, 12 ≤ k → k ≤ 15 → (sI (sI U 1 (nI r.2.1)) 2 (nI r.2.2.1)).2.1 k = S.2.1 k := fun k h1 h2 => by
      show U.2.1 k = _
      rw [fU.2.1 k (by omega) (by omega) (by omega) (by omega), eqB_a e1 (by omega)]
    generalize sI (sI U 1 (nI r.2.1)) 2 (nI r.2.2.1) = X at *
    refine mref X bX cX _ (fun _ T fT t1 t2 st => ⟨?_, T, rfl, ?_⟩) (fun z => absurd z y) (fun z => absurd z y)
    · rw [Int32.neg_neg]
    · exact ap_end hI bX cX fT (bo 0 (by omega)) (x0 0 (by omega)) (by rw [t1, x1]) (by rw [t2, x2]) (fun a b _ _ => by rw [st]) (SlI_st st fT hS (fun k hk => bo (1 + k) (by omega))) (bo 6 (by omega)) (x0 4 (by omega)) xa
  · obtain ⟨bU, cU⟩ := BaI_F fU eU hB1
    refine ⟨_, rfl, fun z => absurd z (by decide), fun _ => ⟨_, hg_0_3 U, _, hg_0_4 U, _, hg_9_11 U, ?_⟩⟩
    rw [h13]
    refine (sP_of1 (N := N) (d := d + 58) ⟨_, rfl, _, hu_0_6 U _, _, hg_0_3 _, _, hg_0_4 _, _, hg_9_11 _, ?_⟩).1
    have q13 : (sI U 1 (-1)).1 13 = -1 := by rw [← h13]; simp [sI, va_up]
    rw [q13]
    refine (sP_of1 (N := N) (d := d + 58) ⟨_, rfl, _, hu_0_7 _ _, _, rfl, ?_⟩).2
    have bX := BaI_i (k := 2) (by omega) (-1) (BaI_i (k := 1) (by omega) (-1) bU)
    have cX := frCl_tr f1 (frCl_tr cU (frCl_tr (frCl_sI U (k := 1) (by omega) (-1)) (frCl_sI (sI U 1 (-1)) (k := 2) (by omega) (-1))))
    have bo : ∀ j, j < 7 → bl (sI (sI U 1 (-1)) 2 (-1)) j = bl S j := fun j hj => by rw [bl_sI (by omega), bl_sI (by omega), frF_bl fU hj, eqB_bl e1 (by omega)]
    have x0 : ∀ k, k = 0 ∨ k = 4 → (sI (sI U 1 (-1)) 2 (-1)).1 k = S.1 k := fun k hk => by
      have : (sI (sI U 1 (-1)) 2 (-1)).1 k = U.1 k := by
        simp only [sI, va_up]
        rw [if_neg (by omega), if_neg (by omega)]
      rw [this, fU.1 k (by omega) (by omega) (by omega) (by omega), eqB_i e1 (by omega)]
    have x1 : (sI (sI U 1 (-1)) 2 (-1)).1 1 = -1 := by simp [sI, va_up]
    have x2 : (sI (sI U 1 (-1)) 2 (-1)).1 2 = -1 := by simp [sI, va_up]
    have xa : ∀ k, 12 ≤ k → k ≤ 15 → (sI (sI U 1 (-1)) 2 (-1)).2.1 k = S.2.1 k := fun k h1 h2 => by
      show U.2.1 k = _
      rw [fU.2.1 k (by omega) (by omega) (by omega) (by omega), eqB_a e1 (by omega)]
    generalize sI (sI U 1 (-1)) 2 (-1) = X at *
    refine mref X bX cX _ (fun z => absurd y z) (fun _ _ T fT t1 t2 st => ⟨by decide, T, rfl, ?_⟩) (fun _ z1 z2 => ?_)
    · exact ap_end hI bX cX fT (bo 0 (by omega)) (x0 0 (by omega)) (by rw [t1, x1]) (by rw [t2, x2]) (fun a b _ _ => by rw [st]) (SlI_st st fT hS (fun k hk => bo (1 + k) (by omega))) (bo 6 (by omega)) (x0 4 (by omega)) xa
    · omega
  · obtain ⟨bU, cU⟩ := BaI_F fU eU hB1
    have nn : (0 : Int32) ≤ nI r.2.2.2.1 := by
      rw [ti_le, nI_t (by omega)]
      have : (0 : Int32).toInt = 0 := rfl
      omega
    have n7 := bl_n (bU.2.1 7 (by omega))
    refine ⟨_, rfl, fun _ => ⟨_, hg_0_4 U, _, hg_9_0 U, _, hg_0_4 U, _, hg_9_0 U, _, hb_g1 (j := 7) U (by omega), ?_⟩, fun z => absurd nn z⟩
    rw [n7]
    refine sB_become (j := 1 + k) (j2 := 7) (d := d + 58) (by omega) (bU.2.1 (1 + k) (by omega)) (by omega) (bU.2.1 7 (by omega)) (Nat.le_refl _) (by rw [h7, cap]; exact hl) (fun X e2 => ⟨rfl, _, rfl, ?_⟩)
    rw [List.take_length, h7] at e2
    have bX := BaI_eq (by omega) (by omega) e2 bU
    have cX := frCl_tr f1 (frCl_tr cU (frCl_eq (by omega) e2))
    have st := frCl_st cX
    have bo : ∀ j, j < 7 → j ≠ 1 + k → bl X j = bl S j := fun j hj hne => by rw [eqB_bl e2 hne, frF_bl fU hj, eqB_bl e1 (by omega)]
    have x0 : ∀ i, i < 7 → X.1 i = S.1 i := fun i hi => by rw [eqB_i e2 (by omega), fU.1 i (by omega) (by omega) (by omega) (by omega), eqB_i e1 (by omega)]
    have xa : ∀ i, 12 ≤ i → i ≤ 15 → X.2.1 i = S.2.1 i := fun i h1 h2 => by rw [eqB_a e2 (by omega), fU.2.1 i (by omega) (by omega) (by omega) (by omega), eqB_a e1 (by omega)]
    refine mref X bX cX _ (fun z => absurd y z) (fun _ z => ?_) (fun _ _ _ _ T fT t1 t2 hj => ⟨rfl, T, rfl, ?_⟩)
    · omega
    · have hlT := stl_len T
      have hin : slice (stl T) (2000 * k) (2000 * k + r.2.2.2.2.length) = r.2.2.2.2 := by
        conv => rhs; rw [← sl_all r.2.2.2.2]
        refine sl_ext (by omega) (Nat.le_refl _) (by omega) (fun i hi => ?_)
        rw [hj, if_pos ⟨by omega, by omega⟩, show 2000 * k + i - 2000 * k = 0 + i by omega]
      have hout : ∀ a b, b ≤ 14100 → (b ≤ 2000 * k ∨ 2000 * k + 2000 ≤ a) → slice (stl T) a b = slice (stl S) a b := fun a b hb ho => by
        refine sl_ext (by omega) (by omega) (by omega) (fun i hi => ?_)
        rw [hj, if_neg (by omega)]
      have hok := VD_okD (by omega) (VD_dep 24 16 3 _ (by omega) hv hdp)
      obtain ⟨u1, u2, u3, -⟩ := st_upd hk hok hl hin hout hS.1
      have hm : frMo X T := ⟨fun k hk => fT.1 k (by omega), fun k hk => fT.2.1 k (by omega)⟩
      refine ap_end hI bX cX fT (bo 0 (by omega) (by omega)) (x0 0 (by omega)) (by rw [t1, cX.1 17 (by omega) (by omega), x0 1 (by omega)]; exact hE.2.1) (by rw [t2, cX.1 18 (by omega) (by omega), x0 2 (by omega)]; exact hE.2.2) (fun a b h1 h2 => hout a b h1 (by omega)) ⟨u1, fun i hi => ?_⟩ (bo 6 (by omega) (by omega)) (x0 4 (by omega)) xa
      rw [frMo_bl hm (by omega)]
      by_cases ci : i = k
      · subst ci
        rw [u2]
        exact e2.2.2
      · rw [u3 i hi ci, bo (1 + i) (by omega) (by omega)]
        exact hS.2 i hi
end Ce
