/-! calls: read, change -/
theorem flP_len (op o : Nat) : ∀ (es : List El) (p : Nat), (flP op o es p).length = es.length := by
  intro es
  induction es with
  | nil => intro p; rfl
  | cons e es ih => intro p; rw [flP, List.length_cons, List.length_cons, ih]
theorem flO_len : ∀ (es : List El) (o : Nat), (flO es o).length = cntP es := by
  intro es
  induction es with
  | nil => intro o; rfl
  | cons e es ih => intro o; rw [flO, List.length_append, flP_len, ih, cntP]
theorem frCl_K {S T : sT} (h : eqK S T) : frCl S T := ⟨fun k a b => h.1 k (by omega) (by omega), fun k a => h.2.1 k (by omega) (by omega), h.2.2.1⟩
theorem bl_00 {S : sT} : bl (sI S 30 0) 0 = [] := by
  have : (sI S 30 0).1 (30 + 0) = 0 := by simp [sI, va_up]
  rw [bl, this]
  rfl
theorem okB_00 {S : sT} (h : okB S 0) : okB (sI S 30 0) 0 := by
  obtain ⟨n, a, b, c⟩ := h
  exact ⟨0, by omega, by simp [sI, va_up]; rfl, c⟩
section Cc
variable {N d : Nat} {Q : Option Value → sm_H → Prop} {S : sT}
theorem BaI_K {T : sT} (h : eqK S T) (hB : BaI S) : BaI T := by
  have fc := frCl_K h
  refine ⟨frCl_ok fc hB.1, fun j hj => ?_, by rw [eqK_bl h (by omega) (by omega)]; exact hB.2.2.1, frCl_29 fc hB.2.2.2.1, frCl_F fc hB.2.2.2.2⟩
  by_cases c : j = 5
  · subst c; exact h.2.2.2
  · exact eqK_ok h hj c (hB.2.1 j hj)
theorem BaI_eq {T : sT} {j : Nat} {l : List Nat} (hj : j < 11) (h8 : j ≠ 8) (h : eqB j l S T) (hB : BaI S) : BaI T := by
  have fc := frCl_eq hj h
  exact ⟨frCl_ok fc hB.1, fun i hi => eqB_ok h (hB.2.1 i hi), by rw [eqB_bl h (by omega)]; exact hB.2.2.1, frCl_29 fc hB.2.2.2.1, frCl_F fc hB.2.2.2.2⟩
theorem BaI_0 (hB : BaI S) : BaI (sI S 30 0) := by
  have fc := frCl_sI S (k := 30) (by omega) 0
  refine ⟨frCl_ok fc hB.1, fun j hj => ?_, by rw [bl_sI (by omega)]; exact hB.2.2.1, frCl_29 fc hB.2.2.2.1, frCl_F fc hB.2.2.2.2⟩
  by_cases c : j = 0
  · subst c; exact okB_00 (hB.2.1 0 (by omega))
  · exact okB_sI (by omega) (hB.2.1 j hj)
theorem BaI_i {k : Nat} (hk : k < 14) (x : Int32) (hB : BaI S) : BaI (sI S k x) := by
  have fc := frCl_sI S (k := k) (by omega) x
  exact ⟨frCl_ok fc hB.1, fun j hj => okB_sI (by omega) (hB.2.1 j hj), by rw [bl_sI (by omega)]; exact hB.2.2.1, frCl_29 fc hB.2.2.2.1, frCl_F fc hB.2.2.2.2⟩
theorem BaI_Pl {T : sT} (h : frPl S T) (hB : BaI S) : BaI T ∧ frCl S T := by
  have fc : frCl S T := ⟨fun k a b => h.1 k (by omega) (by omega) (by omega), fun k a => h.2.1 k (by omega), h.2.2⟩
  exact ⟨⟨frCl_ok fc hB.1, fun j hj => frPl_ok h hj (hB.2.1 j hj), by rw [frPl_bl h (by omega)]; exact hB.2.2.1, frCl_29 fc hB.2.2.2.1, frCl_F fc hB.2.2.2.2⟩, fc⟩
theorem pr_read {s x : Int32} (hI : Inv S) : okP N (d + 60) mm_D_read mm_M_read [.int s, .int x] S := by
  obtain ⟨hB, hE, ⟨tp, htp, h15, hb0⟩, hS, hC⟩ := hI
  have hI : Inv S := ⟨hB, hE, ⟨tp, htp, h15, hb0⟩, hS, hC⟩
  obtain ⟨h30, hl0⟩ := TpI_n (hB.2.1 0 (by omega)) htp hb0
  have hlen := stl_len S
  have m2 : ¬ (0 ≤ s.toInt ∧ s.toInt < 4 ∧ 0 ≤ x.toInt ∧ x.toInt ≤ tp) → sm_V N (d + 60) mm_M_read 5 33 [.int s, .int x] (hp S) (fun r2 h2 => r2 = some (.int (-2)) ∧ ∃ T, h2 = hp T ∧ Inv T) := fun hno => sM_read (d := d + 53) hB.1 h15 htp (fun _ => ⟨rfl, S, rfl, hI⟩) (fun k n hs hk hx hn => absurd (by rw [hs, hx, nI_t (by omega), nI_t (by omega)]; exact ⟨by omega, by omega, by omega, by omega⟩) hno) (fun k n hs hk hx hn => absurd (by rw [hs, hx, nI_t (by omega), nI_t (by omega)]; exact ⟨by omega, by omega, by omega, by omega⟩) hno)
  refine cD_read (hk_0 S) (sD_slotOf (d := d + 58) (fun hn => ⟨none, rfl, fun _ => ⟨_, rfl, m2 (fun z => hn ⟨z.1, z.2.1⟩)⟩, fun a4 c => (by cases c)⟩) (fun k hk hs => ⟨some (11 + 2 * (1 + k)), rfl, fun c => (by cases c), fun a4 c => ?_⟩))
  cases c
  refine sD_tapeHas (d := d + 58) h30 htp ⟨_, rfl, fun c => ⟨_, rfl, m2 (fun z => ?_)⟩, fun c => ⟨_, hg_0_2 S, _, hg_0_0 S, ?_⟩⟩
  · rw [if_pos ⟨z.2.2.1, z.2.2.2⟩] at c
    exact absurd c (by decide)
  have hx2 : 0 ≤ x.toInt ∧ x.toInt ≤ tp := by
    by_cases y : 0 ≤ x.toInt ∧ x.toInt ≤ tp
    · exact y
    · rw [if_neg y] at c
      exact absurd rfl c
  obtain ⟨n, hn, rfl⟩ := nat_of (s := x) (m := tp + 1) hx2.1 (by omega) (by omega)
  have hdoc : slice (bl S 0) 0 n = slice (stl S) 10000 (10000 + n) := by rw [hb0, sl_sl (by omega)]
  have hdocl : (slice (stl S) 10000 (10000 + n)).length = n := by rw [slice_len (by omega)]; omega
  have uk : ∀ k2, s = nI k2 → k2 < 4 → k2 = k := fun k2 hs2 h2 => by
    rw [hs] at hs2
    exact ((nI_eq (by omega) (by omega)).mp hs2).symm
  have un : ∀ n2, nI n = nI n2 → n2 ≤ tp → n2 = n := fun n2 h h2 => ((nI_eq (by omega) (by omega)).mp h).symm
  refine sK_isDoc (j := 0) (d := d + 20) (by omega) (by omega) (hB.2.1 0 (by omega)) (hB.2.1 5 (by omega)) (by omega) (by omega) (fun S2 e2 => ⟨_, rfl, fun c2 => ?_, fun c2 => ⟨_, hg_0_0 S2, ?_⟩⟩)
  · rw [hdoc] at c2 ⊢
    have hnd : ¬ okD (slice (stl S) 10000 (10000 + n)) = true := fun z => by
      rw [if_pos z] at c2
      exact absurd c2 (by decide)
    rw [if_neg hnd]
    refine kD_read_49 ⟨_, hg_0_0 S2, _, hb_p1 (j := 0) S2 (by omega) _, fun _ => ⟨_, rfl, ?_⟩, fun z => absurd rfl z⟩
    have hB2 := BaI_0 (BaI_K e2 hB)
    have fc := frCl_tr (frCl_K e2) (frCl_sI S2 (k := 30) (by omega) 0)
    have b0 : bl (sI S2 30 0) 0 = [] := bl_00
    have bo : ∀ j, j < 11 → j ≠ 0 → j ≠ 5 → bl (sI S2 30 0) j = bl S j := fun j hj h0 h5 => by rw [bl_sI (by omega), eqK_bl e2 hj h5]
    have i0 : ∀ k, k < 3 ∨ (3 < k ∧ k < 30) → (sI S2 30 0).1 k = S.1 k := fun k hk => by
      have : (sI S2 30 0).1 k = S2.1 k := by simp only [sI, va_up]; rw [if_neg (by omega)]
      rw [this, e2.1 k (by omega) (by omega)]
    have ia : ∀ k, 12 ≤ k → (sI S2 30 0).2.1 k = S.2.1 k := fun k hk => e2.2.1 k (by omega) (by omega)
    generalize sI S2 (30 + 0) 0 = S3 at *
    have hst := frCl_st fc
    refine sM_read (d := d + 53) hB2.1 (by rw [fc.1 15 (by omega) (by omega)]; exact h15) htp (fun hno => absurd (by rw [hs, nI_t (by omega), nI_t (by omega)]; exact ⟨by omega, by omega, by omega, by omega⟩) hno) (fun k2 n2 hs2 hk2 hx3 hn2 hnd2 T t1 t2 t3 t4 => ⟨rfl, T, rfl, ?_⟩) (fun k2 n2 hs2 hk2 hx3 hn2 hd2 => ?_)
    · have hm : frMo S3 T := ⟨fun k hk => t1.1 k (by omega) (by omega), fun k hk => t1.2 k (by omega)⟩
      have st : stl T = stl S := by rw [t4, hst]
      refine ⟨BaI_Mo hm hB2 t3 (fun i => by rw [t1.2 29 (by omega)]; exact hB2.2.2.2.1 i) ?_, ⟨?_, ?_, ?_⟩, ⟨0, by omega, t2, ?_⟩, ⟨fun k hk => by rw [st]; exact hS.1 k hk, fun k hk => ?_⟩, ?_⟩
      · obtain ⟨mm, a1, a2, a3⟩ := hB2.2.2.2.2
        exact ⟨mm, a1, by rw [t1.1 22 (by omega) (by omega)]; exact a2, fun i => by rw [t1.2 30 (by omega)]; exact a3 i⟩
      · rw [t1.1 16 (by omega) (by omega), t1.1 0 (by omega) (by omega), i0 16 (by omega), i0 0 (by omega)]; exact hE.1
      · rw [t1.1 17 (by omega) (by omega), t1.1 1 (by omega) (by omega), i0 17 (by omega), i0 1 (by omega)]; exact hE.2.1
      · rw [t1.1 18 (by omega) (by omega), t1.1 2 (by omega) (by omega), i0 18 (by omega), i0 2 (by omega)]; exact hE.2.2
      · rw [frMo_bl hm (by omega), b0, sl_nil (by omega)]
      · rw [frMo_bl hm (by omega), sld, st, bo (1 + k) (by omega) (by omega) (by omega)]
        exact hS.2 k hk
      · unfold ChI
        rw [hm.1 0 (by omega), i0 0 (by omega), chd, st, frMo_bl hm (by omega), bo 6 (by omega) (by omega) (by omega)]
        rcases hC with hC | ⟨c1, c2, c3, c4, c5, ps, c6, c7⟩
        · exact Or.inl hC
        · exact Or.inr ⟨c1, c2, c3, c4, c5, ps, frMo_P hm (PlA_i (i0 4 (by omega)) (fun k h1 _ => ia k h1) (bo 6 (by omega) (by omega) (by omega)) c6), c7⟩
    · rw [un n2 hx3 hn2, hst] at hd2
      exact absurd hd2 hnd
  · rw [hdoc] at c2 ⊢
    have hd : okD (slice (stl S) 10000 (10000 + n)) = true := by
      by_cases z : okD (slice (stl S) 10000 (10000 + n)) = true
      · exact z
      · rw [if_neg z] at c2
        exact absurd rfl c2
    rw [if_pos hd]
    have hB2 := BaI_K e2 hB
    have b20 : bl S2 0 = bl S 0 := eqK_bl e2 (by omega) (by omega)
    have hcr : caps (1 + k) = 2000 := by rcases (show k = 0 ∨ k = 1 ∨ k = 2 ∨ k = 3 by omega) with rfl | rfl | rfl | rfl <;> rfl
    refine sB_become (j := 1 + k) (j2 := 0) (d := d + 58) (by omega) (hB2.2.1 (1 + k) (by omega)) (by omega) (hB2.2.1 0 (by omega)) (by rw [b20, hl0]; omega) (by omega) (fun S3 e3 => ⟨rfl, ?_⟩)
    have htk : (bl S2 0).take n = slice (stl S) 10000 (10000 + n) := by
      rw [b20, ← hdoc, slice]
      simp
    rw [htk] at e3
    have hB3 := BaI_eq (by omega) (by omega) e3 hB2
    have hv := okD_VD (stl_b S) hd
    obtain ⟨r1, r2, r3, r4⟩ := VD_h (Or.inl rfl) (by rw [hdocl]; omega) hv
    refine kD_read_49 ⟨_, hg_0_0 S3, _, hb_p1 (j := 0) S3 (by omega) _, fun z => absurd z (by decide), fun _ => ?_⟩
    have hB4 := BaI_0 hB3
    have fc := frCl_tr (frCl_K e2) (frCl_tr (frCl_eq (by omega) e3) (frCl_sI S3 (k := 30) (by omega) 0))
    have b0 : bl (sI S3 30 0) 0 = [] := bl_00
    have bk : bl (sI S3 30 0) (1 + k) = slice (stl S) 10000 (10000 + n) := by rw [bl_sI (by omega)]; exact e3.2.2
    have bo : ∀ j, j < 11 → j ≠ 0 → j ≠ 5 → j ≠ 1 + k → bl (sI S3 30 0) j = bl S j := fun j hj h0 h5 hk1 => by rw [bl_sI (by omega), eqB_bl e3 hk1, eqK_bl e2 hj h5]
    have i0 : ∀ k, k < 3 ∨ (3 < k ∧ k < 30) → (sI S3 30 0).1 k = S.1 k := fun k hk => by
      have : (sI S3 30 0).1 k = S3.1 k := by simp only [sI, va_up]; rw [if_neg (by omega)]
      rw [this, eqB_i e3 (by omega), e2.1 k (by omega) (by omega)]
    have ia : ∀ k, 12 ≤ k → (sI S3 30 0).2.1 k = S.2.1 k := fun i hi => by
      have : (sI S3 30 0).2.1 i = S3.2.1 i := rfl
      rw [this, eqB_a e3 (by omega), e2.2.1 i (by omega) (by omega)]
    generalize sI S3 (30 + 0) 0 = S4 at *
    refine sB_count (j := 1 + k) (d := d + 56) (A := []) (B := []) (es := els (slice (stl S) 10000 (10000 + n))) (by omega) (hB4.2.1 (1 + k) (by omega)) (by rw [bk, List.nil_append, List.append_nil]; exact r1) r3 ⟨_, rfl, _, rfl, ?_⟩
    have hst := frCl_st fc
    refine sM_read (d := d + 53) hB4.1 (by rw [fc.1 15 (by omega) (by omega)]; exact h15) htp (fun hno => absurd (by rw [hs, nI_t (by omega), nI_t (by omega)]; exact ⟨by omega, by omega, by omega, by omega⟩) hno) (fun k2 n2 hs2 hk2 hx3 hn2 hnd2 => ?_) (fun k2 n2 hs2 hk2 hx3 hn2 hd2 T es t1 t2 t3 t4 t5 t6 => ?_)
    · rw [un n2 hx3 hn2, hst] at hnd2
      exact absurd hd hnd2
    · have ek := uk k2 hs2 hk2
      have en := un n2 hx3 hn2
      subst ek en
      rw [hst] at t4 t5
      have hee : es = els (slice (stl S) 10000 (10000 + n2)) := by rw [t5, els_encD t6]
      refine ⟨by rw [hee], T, rfl, ?_⟩
      have hm : frMo S4 T := ⟨fun k hk => t1.1 k (by omega) (by omega), fun k hk => t1.2 k (by omega)⟩
      have hdj : 2000 * k2 + n2 ≤ 10000 ∨ 10000 + n2 ≤ 2000 * k2 ∨ 2000 * k2 = 10000 := by left; omega
      have hin : slice (stl T) (2000 * k2) (2000 * k2 + (slice (stl S) 10000 (10000 + n2)).length) = slice (stl S) 10000 (10000 + n2) := by
        rw [hdocl, t4, cpL_in hdj (by omega) (by omega)]
      have hout : ∀ a b, b ≤ 14100 → (b ≤ 2000 * k2 ∨ 2000 * k2 + 2000 ≤ a) → slice (stl T) a b = slice (stl S) a b := fun a b hb ho => by
        rw [t4]
        exact cpL_out hdj (by omega) (by omega) (by omega)
      obtain ⟨u1, u2, u3, u4'⟩ := st_upd hk2 hd (by rw [hdocl]; omega) hin hout hS.1
      refine ⟨BaI_Mo hm hB4 t3 (fun i => by rw [t1.2 29 (by omega)]; exact hB4.2.2.2.1 i) ?_, ⟨?_, ?_, ?_⟩, ⟨0, by omega, t2, ?_⟩, ⟨u1, fun k hk => ?_⟩, ?_⟩
      · obtain ⟨mm, a1, a2, a3⟩ := hB4.2.2.2.2
        exact ⟨mm, a1, by rw [t1.1 22 (by omega) (by omega)]; exact a2, fun i => by rw [t1.2 30 (by omega)]; exact a3 i⟩
      · rw [t1.1 16 (by omega) (by omega), t1.1 0 (by omega) (by omega), i0 16 (by omega), i0 0 (by omega)]; exact hE.1
      · rw [t1.1 17 (by omega) (by omega), t1.1 1 (by omega) (by omega), i0 17 (by omega), i0 1 (by omega)]; exact hE.2.1
      · rw [t1.1 18 (by omega) (by omega), t1.1 2 (by omega) (by omega), i0 18 (by omega), i0 2 (by omega)]; exact hE.2.2
      · rw [frMo_bl hm (by omega), b0, sl_nil (by omega)]
      · by_cases c : k = k2
        · subst c
          rw [u2, frMo_bl hm (by omega)]
          exact bk
        · rw [u3 k hk c, frMo_bl hm (by omega), bo (1 + k) (by omega) (by omega) (by omega) (by omega)]
          exact hS.2 k hk
      · unfold ChI
        rw [hm.1 0 (by omega), i0 0 (by omega), frMo_bl hm (by omega), bo 6 (by omega) (by omega) (by omega) (by omega)]
        rcases hC with hC | ⟨c1, c2, c3, c4, c5, ps, c6, c7⟩
        · exact Or.inl hC
        · have hcd : chd T = chd S := by rw [chd, u4', hout _ _ (by omega) (by omega)]; rfl
          rw [hcd, u4']
          exact Or.inr ⟨c1, c2, c3, c4, c5, ps, frMo_P hm (PlA_i (i0 4 (by omega)) (fun k h1 _ => ia k h1) (bo 6 (by omega) (by omega) (by omega) (by omega)) c6), c7⟩
end Cc
