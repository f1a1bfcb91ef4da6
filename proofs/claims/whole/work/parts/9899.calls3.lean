/-! calls: change -/
theorem ch_end {X T : sT} (hB : BaI X) (fT : frC X T) (hok : okSt T) (h15 : T.1 15 = 0) (hsl : okSl T) (hb : ∀ k, k < 4 → bl X (1 + k) = sld T k) (h0 : bl X 0 = []) (e16 : T.1 16 = X.1 0) (e17 : T.1 17 = X.1 1) (e18 : T.1 18 = X.1 2) (hC : ChI T) : Inv T := by
  have hm : frMo X T := ⟨fun k hk => fT.1 k (by omega) (by omega) (by omega) (by omega) (by omega) (by omega), fun k hk => fT.2 k (by omega) (by omega) (by omega)⟩
  have hi : ∀ k, k < 14 → T.1 k = X.1 k := fun k hk => hm.1 k (by omega)
  refine ⟨BaI_Mo hm hB hok (fun i => by rw [fT.2 29 (by omega) (by omega) (by omega)]; exact hB.2.2.2.1 i) ?_, ⟨?_, ?_, ?_⟩, ⟨0, by omega, h15, ?_⟩, ⟨hsl, fun k hk => ?_⟩, hC⟩
  · obtain ⟨mm, a1, a2, a3⟩ := hB.2.2.2.2
    exact ⟨mm, a1, by rw [fT.1 22 (by omega) (by omega) (by omega) (by omega) (by omega) (by omega)]; exact a2, fun i => by rw [fT.2 30 (by omega) (by omega) (by omega)]; exact a3 i⟩
  · rw [e16, hi 0 (by omega)]
  · rw [e17, hi 1 (by omega)]
  · rw [e18, hi 2 (by omega)]
  · rw [frMo_bl hm (by omega), h0, sl_nil (by omega)]
  · rw [frMo_bl hm (by omega)]
    exact hb k hk
theorem okSl_st {S T : sT} (h : stl T = stl S) (hS : okSl S) : okSl T ∧ ∀ k, sld T k = sld S k := ⟨fun k hk => by rw [h]; exact hS k hk, fun k => by rw [sld, sld, h]⟩
section Cd
variable {N d : Nat} {Q : Option Value → sm_H → Prop} {S : sT}
theorem pr_change {x : Int32} (hI : Inv S) : okP N (d + 60) mm_D_change mm_M_change [.int x] S := by
  obtain ⟨hB, hE, ⟨tp, htp, h15, hb0⟩, hS, hC⟩ := hI
  have hI : Inv S := ⟨hB, hE, ⟨tp, htp, h15, hb0⟩, hS, hC⟩
  obtain ⟨h30, hl0⟩ := TpI_n (hB.2.1 0 (by omega)) htp hb0
  have hlen := stl_len S
  refine cD_change (hk_0 S) (sD_tapeHas (d := d + 58) h30 htp ⟨_, rfl, fun c => ⟨_, rfl, ?_⟩, fun c => ⟨_, hg_0_2 S, _, hg_0_0 S, ?_⟩⟩)
  · have hno : ¬ (0 ≤ x.toInt ∧ x.toInt ≤ tp) := fun z => by
      rw [if_pos z] at c
      exact absurd c (by decide)
    exact sM_change (d := d + 54) hB.1 h15 htp (fun _ => ⟨rfl, S, rfl, hI⟩) (fun n hx hn => absurd (by rw [hx, nI_t (by omega)]; exact ⟨by omega, by omega⟩) hno) (fun n hx hn => absurd (by rw [hx, nI_t (by omega)]; exact ⟨by omega, by omega⟩) hno) (fun n hx hn => absurd (by rw [hx, nI_t (by omega)]; exact ⟨by omega, by omega⟩) hno)
  have hx2 : 0 ≤ x.toInt ∧ x.toInt ≤ tp := by
    by_cases y : 0 ≤ x.toInt ∧ x.toInt ≤ tp
    · exact y
    · rw [if_neg y] at c
      exact absurd rfl c
  obtain ⟨n, hn, rfl⟩ := nat_of (s := x) (m := tp + 1) hx2.1 (by omega) (by omega)
  have hdoc : slice (bl S 0) 0 n = slice (stl S) 10000 (10000 + n) := by rw [hb0, sl_sl (by omega)]
  have hdocl : (slice (stl S) 10000 (10000 + n)).length = n := by rw [slice_len (by omega)]; omega
  have un : ∀ n2, nI n = nI n2 → n2 ≤ tp → n2 = n := fun n2 h h2 => ((nI_eq (by omega) (by omega)).mp h).symm
  refine sK_isDoc (j := 0) (d := d + 20) (by omega) (by omega) (hB.2.1 0 (by omega)) (hB.2.1 5 (by omega)) (by omega) (by omega) (fun S2 e2 => ⟨_, rfl, fun c2 => ?_, fun c2 => ⟨_, hg_0_3 S2, _, hg_4_0 S2, _, hg_0_0 S2, ?_⟩⟩)
  · rw [hdoc] at c2 ⊢
    have hnd : ¬ okD (slice (stl S) 10000 (10000 + n)) = true := fun z => by
      rw [if_pos z] at c2
      exact absurd c2 (by decide)
    rw [if_neg hnd]
    refine kD_change_43 ⟨_, hg_0_0 S2, _, hb_p1 (j := 0) S2 (by omega) _, _, hu_0_5 _ _, fun _ => ⟨_, rfl, ?_⟩, fun z => absurd rfl z⟩
    have hB2 := BaI_i (k := 0) (by omega) 0 (BaI_0 (BaI_K e2 hB))
    have fc := frCl_tr (frCl_K e2) (frCl_tr (frCl_sI S2 (k := 30) (by omega) 0) (frCl_sI (sI S2 30 0) (k := 0) (by omega) 0))
    have b0 : bl (sI (sI S2 30 0) 0 0) 0 = [] := by rw [bl_sI (by omega)]; exact bl_00
    have bo : ∀ j, j < 11 → j ≠ 0 → j ≠ 5 → bl (sI (sI S2 30 0) 0 0) j = bl S j := fun j hj h0 h5 => by rw [bl_sI (by omega), bl_sI (by omega), eqK_bl e2 hj h5]
    have i0 : (sI (sI S2 30 0) 0 0).1 0 = 0 := by simp [sI, va_up]
    have i1 : (sI (sI S2 30 0) 0 0).1 1 = S.1 1 := by rw [← e2.1 1 (by omega) (by omega)]; simp [sI, va_up]
    have i2 : (sI (sI S2 30 0) 0 0).1 2 = S.1 2 := by rw [← e2.1 2 (by omega) (by omega)]; simp [sI, va_up]
    generalize sI (sI S2 (30 + 0) 0) 0 0 = X at *
    have hst := frCl_st fc
    refine sM_change (d := d + 54) hB2.1 (by rw [fc.1 15 (by omega) (by omega)]; exact h15) htp (fun hno => absurd (by rw [nI_t (by omega)]; exact ⟨by omega, by omega⟩) hno) (fun n2 hx3 hn2 hnd2 T t1 t2 t3 t4 t5 t6 t7 => ⟨rfl, T, rfl, ?_⟩) (fun n2 hx3 hn2 hd2 => ?_) (fun n2 hx3 hn2 hd2 => ?_)
    · obtain ⟨q1, q2⟩ := okSl_st (t7.trans hst) hS.1
      refine ch_end hB2 t1 t6 t2 q1 (fun k hk => by rw [q2, bo (1 + k) (by omega) (by omega) (by omega)]; exact hS.2 k hk) b0 (by rw [t3, i0]) (by rw [t4, i1, fc.1 17 (by omega) (by omega)]; exact hE.2.1) (by rw [t5, i2, fc.1 18 (by omega) (by omega)]; exact hE.2.2) (Or.inl ?_)
      rw [t1.1 0 (by omega) (by omega) (by omega) (by omega) (by omega) (by omega), i0]
    · rw [un n2 hx3 hn2, hst] at hd2
      exact absurd hd2 hnd
    · rw [un n2 hx3 hn2, hst] at hd2
      exact absurd hd2 hnd
  · rw [hdoc] at c2 ⊢
    have hd : okD (slice (stl S) 10000 (10000 + n)) = true := by
      by_cases z : okD (slice (stl S) 10000 (10000 + n)) = true
      · exact z
      · rw [if_neg z] at c2
        exact absurd rfl c2
    rw [if_pos hd]
    have hB2 := BaI_K e2 hB
    have b20 : bl S2 0 = bl S 0 := eqK_bl e2 (by omega) (by omega)
    refine sB_become (j := 6) (j2 := 0) (d := d + 58) (by omega) (hB2.2.1 6 (by omega)) (by omega) (hB2.2.1 0 (by omega)) (by rw [b20, hl0]; omega) (by rw [caps6]; omega) (fun S3 e3 => ⟨rfl, ?_⟩)
    have htk : (bl S2 0).take n = slice (stl S) 10000 (10000 + n) := by
      rw [b20, ← hdoc, slice]
      simp
    rw [htk] at e3
    have hB3 := BaI_eq (by omega) (by omega) e3 hB2
    have hv := okD_VD (stl_b S) hd
    refine kD_change_43 ⟨_, hg_0_0 S3, _, hb_p1 (j := 0) S3 (by omega) _, _, hu_0_5 _ _, fun z => absurd z (by decide), fun _ => ⟨_, hg_0_3 _, ?_⟩⟩
    have hB4 := BaI_i (k := 0) (by omega) 0 (BaI_0 hB3)
    have fc := frCl_tr (frCl_tr (frCl_K e2) (frCl_eq (by omega) e3)) (frCl_tr (frCl_sI S3 (k := 30) (by omega) 0) (frCl_sI (sI S3 30 0) (k := 0) (by omega) 0))
    have b0 : bl (sI (sI S3 30 0) 0 0) 0 = [] := by rw [bl_sI (by omega)]; exact bl_00
    have b6 : bl (sI (sI S3 30 0) 0 0) 6 = slice (stl S) 10000 (10000 + n) := by rw [bl_sI (by omega), bl_sI (by omega)]; exact e3.2.2
    have bo : ∀ j, j < 11 → j ≠ 0 → j ≠ 5 → j ≠ 6 → bl (sI (sI S3 30 0) 0 0) j = bl S j := fun j hj h0 h5 h6 => by rw [bl_sI (by omega), bl_sI (by omega), eqB_bl e3 h6, eqK_bl e2 hj h5]
    have i0 : (sI (sI S3 30 0) 0 0).1 0 = 0 := by simp [sI, va_up]
    have i1 : (sI (sI S3 30 0) 0 0).1 1 = S.1 1 := by rw [← e2.1 1 (by omega) (by omega), ← eqB_i e3 (k := 1) (by omega)]; simp [sI, va_up]
    have i2 : (sI (sI S3 30 0) 0 0).1 2 = S.1 2 := by rw [← e2.1 2 (by omega) (by omega), ← eqB_i e3 (k := 2) (by omega)]; simp [sI, va_up]
    generalize sI (sI S3 (30 + 0) 0) 0 0 = X at *
    refine sP_study (d := d + 48) (hB4.2.1 6 (by omega)) b6 hv (fun hz U ps hU hPU hps => ⟨_, rfl, fun _ => ⟨_, hu_0_5 U _, _, hg_0_3 _, _, hg_4_5 _, _, rfl, ?_⟩, fun z => absurd rfl z⟩) (fun r hr hne U hU h5 h6 => ⟨_, rfl, fun z => ?_, fun _ => ⟨_, hg_0_3 U, _, hg_4_6 U, _, hu_0_6 U _, _, hg_0_3 _, _, hg_4_7 _, _, hu_0_7 _ _, _, rfl, ?_⟩⟩)
    · obtain ⟨hBU, fU⟩ := BaI_Pl hU hB4
      have hB5 := BaI_i (k := 0) (by omega) 1 hBU
      have fc2 := frCl_tr fc (frCl_tr fU (frCl_sI U (k := 0) (by omega) 1))
      have hst := frCl_st fc2
      have y4 : (sI U 0 1).1 4 = nI (cntP (els (slice (stl S) 10000 (10000 + n)))) := by
        have : (sI U 0 1).1 4 = U.1 4 := by simp [sI, va_up]
        rw [this, hPU.1, ← flO_len _ 0, ← hps, List.length_map]
      have hP5 : PlA (sI U 0 1) ps := PlA_i (by simp [sI, va_up]) (fun _ _ _ => rfl) (bl_sI (by omega)) hPU
      rw [y4]
      have b0' : bl (sI U 0 1) 0 = [] := by rw [bl_sI (by omega), frPl_bl hU (by omega), b0]
      have b6' : bl (sI U 0 1) 6 = slice (stl S) 10000 (10000 + n) := by rw [bl_sI (by omega), frPl_bl hU (by omega), b6]
      have bo' : ∀ j, j < 11 → j ≠ 0 → j ≠ 5 → j ≠ 6 → bl (sI U 0 1) j = bl S j := fun j hj h0 h5 h6 => by rw [bl_sI (by omega), frPl_bl hU hj, bo j hj h0 h5 h6]
      have j0 : (sI U 0 1).1 0 = 1 := by simp [sI, va_up]
      have j1 : (sI U 0 1).1 1 = S.1 1 := by rw [← i1, ← hU.1 1 (by omega) (by omega) (by omega)]; simp [sI, va_up]
      have j2 : (sI U 0 1).1 2 = S.1 2 := by rw [← i2, ← hU.1 2 (by omega) (by omega) (by omega)]; simp [sI, va_up]
      generalize sI U 0 1 = V at *
      refine sM_change (d := d + 54) hB5.1 (by rw [fc2.1 15 (by omega) (by omega)]; exact h15) htp (fun hno => absurd (by rw [nI_t (by omega)]; exact ⟨by omega, by omega⟩) hno) (fun n2 hx3 hn2 hnd2 => ?_) (fun n2 hx3 hn2 hd2 r hr hne => ?_) (fun n2 hx3 hn2 hd2 hz2 T t1 t2 t3 t4 t5 t6 t7 => ?_)
      · rw [un n2 hx3 hn2, hst] at hnd2
        exact absurd hd hnd2
      · rw [un n2 hx3 hn2, hst] at hr
        exact absurd (by rw [← hr]; exact hz) hne
      · have en := un n2 hx3 hn2
        subst en
        rw [hst] at t7 ⊢
        refine ⟨rfl, T, rfl, ?_⟩
        have hdj : 8000 + n2 ≤ 10000 ∨ 10000 + n2 ≤ 8000 ∨ (8000 : Nat) = 10000 := by left; omega
        have hin : slice (stl T) 8000 (8000 + n2) = slice (stl S) 10000 (10000 + n2) := by rw [t7, cpL_in hdj (by omega) (by omega)]
        have hout : ∀ a b, b ≤ 8000 → slice (stl T) a b = slice (stl S) a b := fun a b hb => by
          rw [t7]
          exact cpL_out hdj (by omega) (by omega) (by omega)
        have hu : ∀ p, p + 4 ≤ 8000 → u4 (stl T) p = u4 (stl S) p := fun p hp1 => by
          have h1 := hout p (p + 4) hp1
          have h2 : u4 (slice (stl T) p (p + 4)) 0 = u4 (stl T) p := sl_u4 (by omega)
          have h3 : u4 (slice (stl S) p (p + 4)) 0 = u4 (stl S) p := sl_u4 (by omega)
          rw [← h2, h1, h3]
        have hsd : ∀ k, k < 4 → sld T k = sld S k := fun k hk => by
          have := (hS.1 k hk).1
          rw [sld, hu _ (by omega), hout _ _ (by omega)]
          rfl
        obtain ⟨q5, qu⟩ := okD_5 hd
        rw [hdocl] at q5 qu
        have h8 : u4 (stl T) 8000 = n2 := by
          have h2 : u4 (slice (stl T) 8000 (8000 + n2)) 0 = u4 (stl T) 8000 := sl_u4 (by omega)
          rw [← h2, hin, qu]
        have hcd : chd T = slice (stl S) 10000 (10000 + n2) := by rw [chd, h8, hin]
        have hm : frMo V T := ⟨fun k hk => t1.1 k (by omega) (by omega) (by omega) (by omega) (by omega) (by omega), fun k hk => t1.2 k (by omega) (by omega) (by omega)⟩
        refine ch_end hB5 t1 t6 t2 (fun k hk => ?_) (fun k hk => by rw [hsd k hk, bo' (1 + k) (by omega) (by omega) (by omega) (by omega)]; exact hS.2 k hk) b0' (by rw [t3, j0]) (by rw [t4, j1, fc2.1 17 (by omega) (by omega)]; exact hE.2.1) (by rw [t5, j2, fc2.1 18 (by omega) (by omega)]; exact hE.2.2) (Or.inr ⟨?_, ?_, ?_, ?_, ?_, ps, frMo_P hm hP5, ?_⟩)
        · have h1 := hsd k hk
          rw [sld] at h1
          rw [h1, hu _ (by omega)]
          exact hS.1 k hk
        · rw [hm.1 0 (by omega), j0]
        · rw [h8]; omega
        · rw [hcd]; exact hd
        · rw [hcd]; exact hz
        · rw [hcd, frMo_bl hm (by omega), b6']
        · rw [hcd]; exact hps
    · rw [nI_eql (by have := lkO_le (els (slice (stl S) 10000 (10000 + n))) [] 0; rw [hr] at this; omega) (by omega)] at z
      exact absurd z hne
    · obtain ⟨hBU, fU⟩ := BaI_Pl hU hB4
      have y6 : (sI U 1 (U.1 5)).1 6 = U.1 6 := by simp [sI, va_up]
      rw [y6]
      have hB5 := BaI_i (k := 2) (by omega) (U.1 6) (BaI_i (k := 1) (by omega) (U.1 5) hBU)
      have fc2 := frCl_tr fc (frCl_tr fU (frCl_tr (frCl_sI U (k := 1) (by omega) (U.1 5)) (frCl_sI _ (k := 2) (by omega) (U.1 6))))
      have hst := frCl_st fc2
      have b0' : bl (sI (sI U 1 (U.1 5)) 2 (U.1 6)) 0 = [] := by rw [bl_sI (by omega), bl_sI (by omega), frPl_bl hU (by omega), b0]
      have bo' : ∀ j, j < 11 → j ≠ 0 → j ≠ 5 → j ≠ 6 → bl (sI (sI U 1 (U.1 5)) 2 (U.1 6)) j = bl S j := fun j hj h0 h5 h6 => by rw [bl_sI (by omega), bl_sI (by omega), frPl_bl hU hj, bo j hj h0 h5 h6]
      have j0 : (sI (sI U 1 (U.1 5)) 2 (U.1 6)).1 0 = 0 := by rw [← i0, ← hU.1 0 (by omega) (by omega) (by omega)]; simp [sI, va_up]
      have j1 : (sI (sI U 1 (U.1 5)) 2 (U.1 6)).1 1 = r.2.1 := by rw [← h5]; simp [sI, va_up]
      have j2 : (sI (sI U 1 (U.1 5)) 2 (U.1 6)).1 2 = r.2.2 := by rw [← h6]; simp [sI, va_up]
      generalize sI (sI U 1 (U.1 5)) 2 (U.1 6) = V at *
      refine sM_change (d := d + 54) hB5.1 (by rw [fc2.1 15 (by omega) (by omega)]; exact h15) htp (fun hno => absurd (by rw [nI_t (by omega)]; exact ⟨by omega, by omega⟩) hno) (fun n2 hx3 hn2 hnd2 => ?_) (fun n2 hx3 hn2 hd2 r2 hr2 hne2 T t1 t2 t3 t4 t5 t6 t7 => ?_) (fun n2 hx3 hn2 hd2 hz2 => ?_)
      · rw [un n2 hx3 hn2, hst] at hnd2
        exact absurd hd hnd2
      · rw [un n2 hx3 hn2, hst, hr] at hr2
        subst hr2
        refine ⟨rfl, T, rfl, ?_⟩
        obtain ⟨q1, q2⟩ := okSl_st (t7.trans hst) hS.1
        refine ch_end hB5 t1 t6 t2 q1 (fun k hk => by rw [q2, bo' (1 + k) (by omega) (by omega) (by omega) (by omega)]; exact hS.2 k hk) b0' (by rw [t3, j0]) (by rw [t4, j1]) (by rw [t5, j2]) (Or.inl ?_)
        rw [t1.1 0 (by omega) (by omega) (by omega) (by omega) (by omega) (by omega), j0]
      · rw [un n2 hx3 hn2, hst, hr] at hz2
        exact absurd hz2 hne
end Cd
