/-! class and reference side by side: what holds between calls -/
def BaI (S : sT) : Prop := okSt S ∧ (∀ j, j < 11 → okB S j) ∧ bl S 8 = [5, 0, 0, 0, 0] ∧ (∀ i, sB (S.2.1 29 i)) ∧ okF S
def EqI (S : sT) : Prop := S.1 16 = S.1 0 ∧ S.1 17 = S.1 1 ∧ S.1 18 = S.1 2
def TpI (S : sT) : Prop := ∃ tp : Nat, tp ≤ 2000 ∧ S.1 15 = nI tp ∧ bl S 0 = slice (stl S) 10000 (10000 + tp)
def SlI (S : sT) : Prop := okSl S ∧ ∀ k, k < 4 → bl S (1 + k) = sld S k
def ChI (S : sT) : Prop := S.1 0 = 0 ∨ (S.1 0 = 1 ∧ u4 (stl S) 8000 ≤ 2000 ∧ okD (chd S) = true ∧ (lkO (els (chd S)) [] 0).1 = 0 ∧ bl S 6 = chd S ∧ ∃ ps, PlA S ps ∧ ps.map pPr = flO (els (chd S)) 0)
def Inv (S : sT) : Prop := BaI S ∧ EqI S ∧ TpI S ∧ SlI S ∧ ChI S
/-- a change of the class's side alone -/
def frCl (S T : sT) : Prop := (∀ k, 14 ≤ k → k ≤ 29 → T.1 k = S.1 k) ∧ (∀ k, 17 ≤ k → T.2.1 k = S.2.1 k) ∧ T.2.2 = S.2.2
/-- a change of the reference's side alone -/
def frMo (S T : sT) : Prop := (∀ k, (k < 14 ∨ 29 < k) → T.1 k = S.1 k) ∧ ∀ k, k < 17 → T.2.1 k = S.2.1 k
theorem frCl_tr {S T U : sT} (h1 : frCl S T) (h2 : frCl T U) : frCl S U := ⟨fun k a b => (h2.1 k a b).trans (h1.1 k a b), fun k a => (h2.2.1 k a).trans (h1.2.1 k a), h2.2.2.trans h1.2.2⟩
theorem frCl_rf (S : sT) : frCl S S := ⟨fun _ _ _ => rfl, fun _ _ => rfl, rfl⟩
theorem frMo_tr {S T U : sT} (h1 : frMo S T) (h2 : frMo T U) : frMo S U := ⟨fun k a => (h2.1 k a).trans (h1.1 k a), fun k a => (h2.2 k a).trans (h1.2 k a)⟩
theorem frCl_st {S T : sT} (h : frCl S T) : stl T = stl S := by rw [stl, stl, h.2.1 17 (by omega)]
theorem frCl_ok {S T : sT} (h : frCl S T) (hs : okSt S) : okSt T := fun i => by rw [h.2.1 17 (by omega)]; exact hs i
theorem frCl_F {S T : sT} (h : frCl S T) (hs : okF S) : okF T := by
  obtain ⟨m, a, b, c⟩ := hs
  exact ⟨m, a, by rw [h.1 22 (by omega) (by omega)]; exact b, fun i => by rw [h.2.1 30 (by omega)]; exact c i⟩
theorem frCl_29 {S T : sT} (h : frCl S T) (hs : ∀ i, sB (S.2.1 29 i)) : ∀ i, sB (T.2.1 29 i) := fun i => by rw [h.2.1 29 (by omega)]; exact hs i
theorem frCl_eq {S T : sT} {j : Nat} {l : List Nat} (hj : j < 11) (h : eqB j l S T) : frCl S T := ⟨fun k a b => eqB_i h (by omega), fun k a => eqB_a h (by omega), eqB_l h⟩
theorem frCl_sI (S : sT) {k : Nat} (hk : k < 14 ∨ 29 < k) (x : Int32) : frCl S (sI S k x) := ⟨fun i a b => by simp only [sI, va_up]; rw [if_neg (by omega)], fun _ _ => rfl, rfl⟩
theorem frMo_bl {S T : sT} (h : frMo S T) {j : Nat} (hj : j < 11) : bl T j = bl S j := by rw [bl, bl, h.1 _ (by omega), h.2 _ (by omega)]
theorem frMo_ok {S T : sT} (h : frMo S T) {j : Nat} (hj : j < 11) (hw : okB S j) : okB T j := by
  obtain ⟨n, a, b, c⟩ := hw
  exact ⟨n, a, by rw [h.1 _ (by omega)]; exact b, fun i => by rw [h.2 _ (by omega)]; exact c i⟩
theorem frMo_P {S T : sT} {ps : List Pth} (h : frMo S T) (hP : PlA S ps) : PlA T ps := PlA_i (h.1 4 (by omega)) (fun k _ _ => h.2 k (by omega)) (frMo_bl h (by omega)) hP
theorem bl_n {S : sT} {j : Nat} (hw : okB S j) : S.1 (30 + j) = nI (bl S j).length := by
  obtain ⟨nn, a1, a2, a3⟩ := hw
  rw [a2]
  congr 1
  exact (bl_len a1 a2).symm
theorem BaI_Mo {S T : sT} (h : frMo S T) (hB : BaI S) (h1 : okSt T) (h2 : ∀ i, sB (T.2.1 29 i)) (h3 : okF T) : BaI T := ⟨h1, fun j hj => frMo_ok h hj (hB.2.1 j hj), by rw [frMo_bl h (by omega)]; exact hB.2.2.1, h2, h3⟩
theorem BaI_E {S : sT} (h : BaI S) : EdO S := ⟨h.2.1 6 (by omega), h.2.1 7 (by omega), h.2.1 8 (by omega), h.2.1 9 (by omega), h.2.1 10 (by omega), h.2.2.1⟩
/-- only the reference's scratch has changed -/
theorem Inv_scr {S T : sT} (hI : Inv S) (h : frMo S T) (h15 : ∀ k, 15 ≤ k → k ≤ 18 → T.1 k = S.1 k) (h17 : T.2.1 17 = S.2.1 17) (h29 : ∀ i, sB (T.2.1 29 i)) (hF : okF T) : Inv T := by
  obtain ⟨hB, hE, hT, hS, hC⟩ := hI
  have hst : stl T = stl S := by rw [stl, stl, h17]
  refine ⟨BaI_Mo h hB (fun i => by rw [h17]; exact hB.1 i) h29 hF, ⟨?_, ?_, ?_⟩, ?_, ⟨?_, ?_⟩, ?_⟩
  · rw [h15 16 (by omega) (by omega), h.1 0 (by omega)]; exact hE.1
  · rw [h15 17 (by omega) (by omega), h.1 1 (by omega)]; exact hE.2.1
  · rw [h15 18 (by omega) (by omega), h.1 2 (by omega)]; exact hE.2.2
  · obtain ⟨tp, a, b, c⟩ := hT
    exact ⟨tp, a, by rw [h15 15 (by omega) (by omega)]; exact b, by rw [frMo_bl h (by omega), hst]; exact c⟩
  · intro k hk
    rw [hst]
    exact hS.1 k hk
  · intro k hk
    rw [frMo_bl h (by omega), sld, hst]
    exact hS.2 k hk
  · unfold ChI
    rw [h.1 0 (by omega), chd, hst, frMo_bl h (by omega)]
    rcases hC with hC | ⟨c1, c2, c3, c4, c5, ps, c6, c7⟩
    · exact Or.inl hC
    · exact Or.inr ⟨c1, c2, c3, c4, c5, ps, frMo_P h c6, c7⟩
/-- a method of the class, the reference's with the same arguments behind it: the same answer -/
def okP (N d : Nat) (mc mm : sm_M) (args : List Value) (S : sT) : Prop := sm_V N d mc 4 0 args (hp S) (fun r h1 => ∃ z : Int32, r = some (.int z) ∧ sm_V N d mm 5 33 args h1 (fun r2 h2 => r2 = some (.int z) ∧ ∃ T, h2 = hp T ∧ Inv T))
section Ca
variable {N d : Nat} {Q : Option Value → sm_H → Prop} {S : sT}
theorem sD_slotOf {s : Int32} (hN : ¬ (0 ≤ s.toInt ∧ s.toInt < 4) → Q (some .null) (hp S)) (hY : ∀ k, k < 4 → s = nI k → Q (some (.ref (11 + 2 * (1 + k)))) (hp S)) : sm_V N (d + 1) mm_D_slotOf 4 0 [.int s] (hp S) Q := by
  have z0 : (0 : Int32).toInt = 0 := rfl
  have z4 : (4 : Int32).toInt = 4 := rfl
  refine cD_slotOf (hk_0 S) ⟨fun c => hN (fun y => ?_), fun c => ⟨_, hg_0_1 S, _, hn_1 S, fun c2 => hN (fun y => ?_), fun c2 => ?_⟩⟩
  · rw [ti_lt] at c; omega
  · rw [ti_le] at c2; omega
  · rw [ti_lt] at c
    rw [ti_le] at c2
    obtain ⟨k, hk, rfl⟩ := nat_of (s := s) (m := 4) (by omega) (by omega) (by omega)
    refine ⟨_, hg_0_1 S, some (13 + 2 * k), ?_, ?_⟩
    · rw [ha_1, nI_t (by omega), if_pos ⟨by omega, by omega⟩, nI_clamp (by omega), slF, if_pos hk]
    · have := hY k hk rfl
      rw [show 11 + 2 * (1 + k) = 13 + 2 * k by omega] at this
      exact this
theorem sD_tapeHas {x : Int32} {tp : Nat} (h : S.1 30 = nI tp) (ht : tp ≤ 2000) (hQ : Q (some (.int (if 0 ≤ x.toInt ∧ x.toInt ≤ tp then 1 else 0))) (hp S)) : sm_V N (d + 1) mm_D_tapeHas 4 0 [.int x] (hp S) Q := by
  have z0 : (0 : Int32).toInt = 0 := rfl
  refine cD_tapeHas (hk_0 S) ⟨fun c => ?_, fun c => ⟨_, hg_0_0 S, _, hb_g1 (j := 0) S (by omega), ?_⟩⟩
  · rw [ti_lt] at c
    rw [if_neg (by omega)] at hQ
    exact hQ
  · rw [ti_lt] at c
    rw [show S.1 (30 + 0) = nI tp from h]
    refine ⟨fun c2 => ?_, fun c2 => ?_⟩
    · rw [ti_lt, nI_t (by omega)] at c2
      rw [if_neg (by omega)] at hQ
      exact hQ
    · rw [ti_lt, nI_t (by omega)] at c2
      rw [if_pos ⟨by omega, by omega⟩] at hQ
      exact hQ
theorem TpI_n {tp : Nat} (hw : okB S 0) (htp : tp ≤ 2000) (h : bl S 0 = slice (stl S) 10000 (10000 + tp)) : S.1 30 = nI tp ∧ (bl S 0).length = tp := by
  have hl : (bl S 0).length = tp := by
    have := stl_len S
    rw [h, slice_len (by omega)]
    omega
  exact ⟨by rw [← hl]; exact bl_n hw, hl⟩
theorem pr_feed {v1 v2 v3 v4 v5 : Int32} (hI : Inv S) : okP N (d + 60) mm_D_feed mm_M_feed [.int v1, .int v2, .int v3, .int v4, .int v5] S := by
  obtain ⟨hB, hE, ⟨tp, htp, h15, hb0⟩, hS, hC⟩ := hI
  obtain ⟨h30, hl0⟩ := TpI_n (hB.2.1 0 (by omega)) htp hb0
  have hlen := stl_len S
  refine cD_feed (hk_0 S) ⟨_, hg_0_0 S, _, hb_g1 (j := 0) S (by omega), ?_⟩
  rw [show S.1 (30 + 0) = nI tp from h30, nI_al]
  refine ⟨fun c => ⟨_, hg_0_0 S, ?_⟩, fun c => ⟨_, rfl, ?_⟩⟩
  · rw [nI_lel (by show tp + 20 < _; omega) (by omega)] at c
    have c' : tp + 20 ≤ 2000 := c
    have cap : caps 0 = 2000 := rfl
    refine sB_addHF (j := 0) (d := d + 57) (by omega) (hB.2.1 0 (by omega)) (by omega) (fun S1 e1 => ⟨rfl, _, hg_0_0 S1, ?_⟩)
    have q1 : (bl S1 0).length = tp + 4 := by rw [e1.2.2, List.length_append, hl0]; rfl
    refine sB_addHF (j := 0) (d := d + 57) (by omega) e1.2.1 (by omega) (fun S2 e2 => ⟨rfl, _, hg_0_0 S2, ?_⟩)
    have q2 : (bl S2 0).length = tp + 8 := by rw [e2.2.2, List.length_append, q1]; rfl
    refine sB_addHF (j := 0) (d := d + 57) (by omega) e2.2.1 (by omega) (fun S3 e3 => ⟨rfl, _, hg_0_0 S3, ?_⟩)
    have q3 : (bl S3 0).length = tp + 12 := by rw [e3.2.2, List.length_append, q2]; rfl
    refine sB_addHF (j := 0) (d := d + 57) (by omega) e3.2.1 (by omega) (fun S4 e4 => ⟨rfl, _, hg_0_0 S4, ?_⟩)
    have q4 : (bl S4 0).length = tp + 16 := by rw [e4.2.2, List.length_append, q3]; rfl
    refine sB_addHF (j := 0) (d := d + 57) (by omega) e4.2.1 (by omega) (fun S5 e5 => ⟨rfl, _, hg_0_0 S5, _, hb_g1 (j := 0) S5 (by omega), _, rfl, ?_⟩)
    have q5 : (bl S5 0).length = tp + 20 := by rw [e5.2.2, List.length_append, q4]; rfl
    have ee := eqB_tr e1 (eqB_tr e2 (eqB_tr e3 (eqB_tr e4 e5)))
    have hb5 : bl S5 0 = bl S 0 ++ (hb4 v1 ++ (hb4 v2 ++ (hb4 v3 ++ (hb4 v4 ++ hb4 v5)))) := by rw [e5.2.2, e4.2.2, e3.2.2, e2.2.2, e1.2.2]; simp
    have fc := frCl_eq (by omega) ee
    have h30' : S5.1 (30 + 0) = nI (tp + 20) := by rw [bl_n ee.2.1, q5]
    rw [h30']
    have hst := frCl_st fc
    refine sM_feed (d := d + 58) (frCl_ok fc hB.1) (by rw [fc.1 15 (by omega) (by omega)]; exact h15) htp (fun z => absurd c' z) (fun _ T hT => ⟨rfl, T, rfl, ?_⟩)
    obtain ⟨t1, t2, t3, t4, t5, t6, t7⟩ := hT
    have hm : frMo S5 T := ⟨fun k hk => t1 k (by omega), fun k hk => t2 k (by omega)⟩
    have hB5 : BaI S5 := ⟨frCl_ok fc hB.1, fun j hj => eqB_ok ee (hB.2.1 j hj), by rw [eqB_bl ee (by omega)]; exact hB.2.2.1, frCl_29 fc hB.2.2.2.1, frCl_F fc hB.2.2.2.2⟩
    have hl20 : (hb4 v1 ++ (hb4 v2 ++ (hb4 v3 ++ (hb4 v4 ++ hb4 v5)))).length = 20 := rfl
    rw [hl20] at t5 t6
    rw [hst] at t6 t7
    have sw : ∀ k, u4 (stl T) k = u4 (stl S) k ∨ 9997 ≤ k + 1 := fun k => by
      by_cases hk : k + 4 ≤ 10000
      · left
        have h1 := t7 k (k + 4) hk
        have h2 : u4 (slice (stl T) k (k + 4)) 0 = u4 (stl T) k := sl_u4 (by omega)
        have h3 : u4 (slice (stl S) k (k + 4)) 0 = u4 (stl S) k := sl_u4 (by omega)
        rw [← h2, h1, h3]
      · right; omega
    have hu : ∀ k, k + 4 ≤ 9000 → u4 (stl T) k = u4 (stl S) k := fun k hk => by rcases sw k with h | h; exact h; omega
    refine ⟨BaI_Mo hm hB5 t4 (fun i => by rw [t2 29 (by omega)]; exact hB5.2.2.2.1 i) ?_, ⟨?_, ?_, ?_⟩, ⟨tp + 20, c', t5, ?_⟩, ⟨?_, ?_⟩, ?_⟩
    · obtain ⟨mm, a1, a2, a3⟩ := hB5.2.2.2.2
      exact ⟨mm, a1, by rw [t1 22 (by omega)]; exact a2, fun i => by rw [t2 30 (by omega)]; exact a3 i⟩
    · rw [t1 16 (by omega), t1 0 (by omega), eqB_i ee (by omega), eqB_i ee (by omega)]; exact hE.1
    · rw [t1 17 (by omega), t1 1 (by omega), eqB_i ee (by omega), eqB_i ee (by omega)]; exact hE.2.1
    · rw [t1 18 (by omega), t1 2 (by omega), eqB_i ee (by omega), eqB_i ee (by omega)]; exact hE.2.2
    · rw [frMo_bl hm (by omega), hb5, hb0, t6]
    · intro k hk
      rw [hu (2000 * k) (by omega), t7 _ _ (by have := (hS.1 k hk).1; omega)]
      exact hS.1 k hk
    · intro k hk
      rw [frMo_bl hm (by omega), eqB_bl ee (by omega), sld, hu (2000 * k) (by omega), t7 _ _ (by have := (hS.1 k hk).1; omega)]
      exact hS.2 k hk
    · unfold ChI
      rw [t1 0 (by omega), eqB_i ee (by omega)]
      rcases hC with hC | ⟨c1, c2, c3, c4, c5, ps, c6, c7⟩
      · exact Or.inl hC
      · have hcd : chd T = chd S := by rw [chd, hu 8000 (by omega), t7 _ _ (by omega)]; rfl
        rw [hcd, hu 8000 (by omega), frMo_bl hm (by omega), eqB_bl ee (by omega)]
        exact Or.inr ⟨c1, c2, c3, c4, c5, ps, frMo_P hm (PlA_i (eqB_i ee (by omega)) (fun k _ _ => eqB_a ee (by omega)) (eqB_bl ee (by omega)) c6), c7⟩
  · rw [nI_lel (by show tp + 20 < _; omega) (by omega)] at c
    have c' : ¬ tp + 20 ≤ 2000 := c
    exact sM_feed (d := d + 58) hB.1 h15 htp (fun _ => ⟨rfl, S, rfl, hB, hE, ⟨tp, htp, h15, hb0⟩, hS, hC⟩) (fun z => absurd z c')
theorem pr_place {x : Int32} (hI : Inv S) : okP N (d + 60) mm_D_place mm_M_place [.int x] S := by
  have hE := hI.2.1
  have key : ∀ z : Int32, z = (if x = 0 then S.1 17 else if x = 1 then S.1 18 else -1) → ∃ z2 : Int32, some (Value.int z) = some (Value.int z2) ∧ sm_V N (d + 60) mm_M_place 5 33 [.int x] (hp S) (fun r2 h2 => r2 = some (.int z2) ∧ ∃ T, h2 = hp T ∧ Inv T) := by
    intro z hz
    refine ⟨z, rfl, sM_place (d := d + 59) ⟨by rw [hz], S, rfl, hI⟩⟩
  refine cD_place (hk_0 S) ⟨fun c => ⟨_, hg_0_6 S, key _ ?_⟩, fun c => ⟨fun c2 => ⟨_, hg_0_7 S, key _ ?_⟩, fun c2 => key _ ?_⟩⟩
  · rw [if_pos c]; exact hE.2.1.symm
  · rw [if_neg c, if_pos c2]; exact hE.2.2.symm
  · rw [if_neg c, if_neg c2]
end Ca
