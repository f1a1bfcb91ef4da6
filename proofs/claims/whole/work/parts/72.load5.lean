/-! the reference's load: just the documents, and nodes for them -/
theorem sM_load {N d : Nat} {S : sT} {Q : Option Value → sm_H → Prop} {p n c : Nat} (hs : okSt S) (hpn : p + n ≤ 14000) (h19 : S.1 19 = nI c) (hc : c + n ≤ 5800)
    (h0 : ¬ okD (slice (stl S) p (p + n)) = true → ∀ S2, frL S S2 → Q (some (.int (-1))) (hp S2))
    (h1 : okD (slice (stl S) p (p + n)) = true → ∀ S2 c2 fp, frL S S2 → S2.1 19 = nI c2 → c2 ≤ c + n → (∀ i, i < c → sOwn S S2 i) → (∀ i, i < c → S2.2.1 24 i = S.2.1 24 i) → RV 16 S2 c 3 (slice (stl S) p (p + n)) fp → (∀ q ∈ fp, c ≤ q ∧ q < c2) → fp.Nodup → Q (some (.int (nI c))) (hp S2)) :
    sm_V N (d + 4 + 1) mm_M_load 5 33 [.int (nI p), .int (nI n)] (hp S) Q := by
  have hlen := stl_len S
  have hsl : (slice (stl S) p (p + n)).length = n := by rw [slice_len (by omega)]; omega
  have hu := u4s_lt S p
  refine cM_load (hk_33 S) ⟨fun q => ?_, fun q => ?_⟩
  · rw [nI_ltl (by omega) (by omega)] at q
    refine h0 (fun y => ?_) S (frL_rf S)
    rw [okD, Bool.and_eq_true] at y
    have := of_decide_eq_true y.1
    rw [hsl] at this
    omega
  · rw [nI_ltl (by omega) (by omega)] at q
    have hu0 : u4 (slice (stl S) p (p + n)) 0 = u4 (stl S) p := by rw [sl_u4 (by omega)]; rfl
    refine sM_whole (d := d + 2) (by omega) ⟨_, rfl, fun q2 => ?_, fun q2 => ?_⟩
    · rw [ti_eq, nI_tc hu, nI_t (by omega)] at q2
      have hun : u4 (stl S) p = n := by
        split at q2 <;> omega
      have hD : okD (slice (stl S) p (p + n)) = (decide ((stl S).getD (p + n - 1) 0 = 0) && okE (okH 15) 3 n [] (slice (stl S) (p + 4) (p + n - 1))) := by
        rw [okD, hsl, hu0, hun, decide_eq_true (show 5 ≤ n ∧ n = n from ⟨by omega, rfl⟩), Bool.true_and, okH_sl (by omega) (by omega)]
      refine sM_make (by omega) h19 ⟨_, rfl, ?_⟩
      generalize hSv : mkN S c 3 = S1
      have hf1 : frL S S1 := by rw [← hSv]; exact ⟨fun k hk => mkN_i S c 3 hk, fun k hk => mkN_o S c 3 (by omega)⟩
      have hst1 : stl S1 = stl S := frL_st hf1
      have own1 : ∀ i, i < c → sOwn S S1 i := by
        intro i hi
        have hic : i ≠ c := by omega
        rw [← hSv]
        exact ⟨by rw [mkN_18, pk_un hic], by rw [mkN_L, pk_uLn hic], by rw [mkN_21, pk_un hic], by rw [mkN_22, pk_un hic], by rw [mkN_23, pk_un hic], by rw [mkN_25, pk_un hic], by rw [mkN_19a, pk_un hic], by rw [mkN_20, pk_un hic]⟩
      have nx1 : ∀ i, i < c → S1.2.1 24 i = S.2.1 24 i := by
        intro i hi
        rw [← hSv, mkN_24, pk_un (by omega)]
      have h18 : S1.2.1 18 c = nI 3 := by rw [← hSv, mkN_18, pk_us]; rfl
      have hL1 : S1.2.2 c = 0 := by rw [← hSv, mkN_L, pk_uLs]
      have h23 : S1.2.1 23 c = -1 := by rw [← hSv, mkN_23, pk_us]
      have h25 : S1.2.1 25 c = -1 := by rw [← hSv, mkN_25, pk_us]
      have h191 : S1.1 19 = nI (c + 1) := by rw [← hSv, mkN_19]
      rw [nI_add]
      refine sM_opens (d := d + 1) (o := 0) (frL_ok hf1 hs) (by omega) hpn (by omega) (fun y => ⟨_, rfl, fun _ => ?_, fun w => absurd rfl w⟩) (fun y => ⟨_, rfl, fun w => absurd w (by decide), fun _ => ?_⟩)
      · refine h0 (fun hg => y ?_) S1 hf1
        rw [hD, Bool.and_eq_true] at hg
        rw [hst1, hun]
        exact ⟨by omega, by omega, by omega, by omega, of_decide_eq_true hg.1⟩
      · rw [hst1, hun] at y ⊢
        obtain ⟨y1, -, y3, y4, y5⟩ := y
        generalize hSw : sA (sA S1 26 (upd (S1.2.1 26) 0 (nI c))) 27 (upd (S1.2.1 27) 0 (nI (p + n - 1))) = S3
        have a26 : S3.2.1 26 = upd (S1.2.1 26) 0 (nI c) := by rw [← hSw]; simp [sA, va_up]
        have a27 : S3.2.1 27 = upd (S1.2.1 27) 0 (nI (p + n - 1)) := by rw [← hSw]; simp [sA, va_up]
        have ao : ∀ j, j ≠ 26 → j ≠ 27 → S3.2.1 j = S1.2.1 j := fun j j1 j2 => by rw [← hSw]; simp [sA, va_up, j1, j2]
        have ai : S3.1 = S1.1 := by rw [← hSw]; rfl
        have aL : S3.2.2 = S1.2.2 := by rw [← hSw]; rfl
        have hf3 : frL S1 S3 := ⟨fun k _ => by rw [ai], fun k hk => ao k (by omega) (by omega)⟩
        have hst3 : stl S3 = stl S := (frL_st hf3).trans hst1
        have own3 : ∀ i, sOwn S1 S3 i := fun i => ⟨by rw [ao 18 (by omega) (by omega)], by rw [aL], by rw [ao 21 (by omega) (by omega)], by rw [ao 22 (by omega) (by omega)], by rw [ao 23 (by omega) (by omega)], by rw [ao 25 (by omega) (by omega)], by rw [ao 19 (by omega) (by omega)], by rw [ao 20 (by omega) (by omega)]⟩
        have nx3 : ∀ i, S3.2.1 24 i = S1.2.1 24 i := fun i => by rw [ao 24 (by omega) (by omega)]
        rw [nI_al]
        refine ld_loop 15 0 (by omega) n d S3 (p + 4) (p + n - 1) (c + 1) c 3 (nI c) [] [] Q (frL_ok hf3 (frL_ok hf1 hs)) (by rw [a26, pk_us]) (by rw [a27, pk_us]) (by omega) (by omega) (by omega) (by omega) (by rw [(own3 c).1]; exact h18) (Or.inl rfl) (by omega) (by rw [ai]; exact h191) ⟨?_, ?_⟩ trivial (by simp) List.nodup_nil (by simp) (by simp) ?_ ?_
        · rw [(own3 c).2.2.2.2.1]; exact h23
        · rw [(own3 c).2.2.2.2.2.1]; exact h25
        · intro hb S2 hf2
          rw [hst3] at hb
          refine h0 (fun hg => hb ?_) S2 (frL_tr (frL_tr hf1 hf3) hf2)
          rw [hD, Bool.and_eq_true] at hg
          exact hg.2
        · intro hg S2 n2 ks2 es2 fp2 hG
          rw [hst3] at hg hG
          obtain ⟨⟨b1, b2, b3, b4, b5, b6, b7⟩, g2, g3, g4, g5, g6, g7⟩ := hG
          have hrw : (slice (stl S) (p + 4) (p + n - 1)).length = n - 5 := by rw [slice_len (by omega)]; omega
          rw [hrw] at g7
          refine kM_load_45 ⟨fun _ => ?_, fun w => absurd (by decide) w⟩
          refine h1 (by rw [hD, hg, y5]; rfl) S2 n2 (c :: fp2) (frL_tr (frL_tr hf1 hf3) b1) b3 (by omega) (fun i hi => sOwn_tr (own1 i hi) (sOwn_tr (own3 i) (b5 i (by omega) (by omega)))) (fun i hi => (b7 i (by omega) (by simp)).trans ((nx3 i).trans (nx1 i hi))) ?_ ?_ ?_
          · refine ⟨by omega, ?_, fun q hq => sl_lt hq, Or.inr ⟨Or.inl rfl, ?_, es2, ks2, fp2, ?_, rfl, g2, g3⟩⟩
            · rw [b6.1, (own3 c).1]; exact h18
            · rw [b6.2.1, aL]; exact hL1
            · exact encD_sl (by omega) (stl_lt S) hun.symm (by omega) y5 g6
          · intro q hq
            rcases List.mem_cons.mp hq with rfl | hq
            · omega
            · have := g4 q hq
              omega
          · refine List.nodup_cons.mpr ⟨fun hc => ?_, g5⟩
            have := g4 c hc
            omega
    · refine h0 (fun y => q2 ?_) S (frL_rf S)
      rw [okD, Bool.and_eq_true] at y
      have := of_decide_eq_true y.1
      rw [hsl, hu0] at this
      rw [this.2]
