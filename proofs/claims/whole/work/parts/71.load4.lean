/-! the reference's load: the loop, by the levels left -/
theorem vchk_kind {ph : Nat → List Nat → Bool} {b n : Nat} {r : List Nat} (h : vchk ph b r = some n) : b = 2 ∨ b = 3 ∨ b = 4 ∨ b = 8 ∨ b = 10 ∨ b = 16 ∨ b = 18 := by
  unfold vchk at h
  repeat' split at h
  all_goals first | omega | cases h
theorem vchk_h {ph : Nat → List Nat → Bool} {b : Nat} {r : List Nat} (h : b = 3 ∨ b = 4) : vchk ph b r = hchk ph b r := by
  rcases h with rfl | rfl <;> rfl
theorem okH_sl {l : List Nat} {t b p u : Nat} (hl : p + u ≤ l.length) (h5 : 5 ≤ u) : okH (t + 1) b (slice l p (p + u)) = (decide (l.getD (p + u - 1) 0 = 0) && okE (okH t) b u [] (slice l (p + 4) (p + u - 1))) := by
  have g2 : (slice l p (p + u)).length = u := by rw [slice_len (by omega)]; omega
  have g3 : (slice l p (p + u)).getD (u - 1) 1 = l.getD (p + u - 1) 0 := by
    have a1 := sl_getD (l := l) (a := p) (b := p + u) (k := u - 1) (by omega)
    rw [show p + (u - 1) = p + u - 1 by omega] at a1
    rw [← a1, List.getD_eq_getElem?_getD, List.getD_eq_getElem?_getD, List.getElem?_eq_getElem (by omega)]
    rfl
  have g4 : slice (slice l p (p + u)) 4 (u - 1) = slice l (p + 4) (p + u - 1) := by
    rw [sl_sl (by omega), show p + (u - 1) = p + u - 1 by omega]
  rw [okH, g2, g3, g4]
/-- the loop with the holder H open at place o -/
def lqL (N t o : Nat) : Prop := ∀ (f d : Nat) (S : sT) (x E n H kH : Nat) (r : Int32) (ks : List Nat) (seen : List (List Nat)) (Q : Option Value → sm_H → Prop), okSt S → S.2.1 26 o = nI H → S.2.1 27 o = nI E → x ≤ E → E ≤ 14000 → E - x ≤ f → H < n → S.2.1 18 H = nI kH → (kH = 3 ∨ kH = 4) → n + (E - x) ≤ 5900 → S.1 19 = nI n → Kids S H ks → ANm S ks seen → (∀ q ∈ ks, q < n) → ks.Nodup → H ∉ ks → ks.length ≤ n →
  (¬ okE (okH t) kH f seen (slice (stl S) x E) = true → ∀ S2, frL S S2 → Q (some (.int (-1))) (hp S2)) →
  (okE (okH t) kH f seen (slice (stl S) x E) = true → ∀ S2 n2 ks2 es2 fp2, lqG t S S2 o n n2 H kH ks ks2 es2 fp2 (slice (stl S) x E) → sm_W N (d + 4 + 1) mm_M_load 45 [(0, .ref 33), (3, .int r), (4, .int (nI o)), (5, .int (nI (E + 1)))] [] (hp S2) Q) →
  sm_W N (d + 4 + 1) mm_M_load 45 [(0, .ref 33), (3, .int r), (4, .int (nI (o + 1))), (5, .int (nI x))] [] (hp S) Q
theorem ld_end {N d : Nat} {S : sT} {o E H : Nat} {r : Int32} {Q : Option Value → sm_H → Prop} (ho : o < 16) (h26 : S.2.1 26 o = nI H) (h27 : S.2.1 27 o = nI E) (hE : E ≤ 14000) (hW : sm_W N (d + 4 + 1) mm_M_load 45 [(0, .ref 33), (3, .int r), (4, .int (nI o)), (5, .int (nI (E + 1)))] [] (hp S) Q) : sm_W N (d + 4 + 1) mm_M_load 45 [(0, .ref 33), (3, .int r), (4, .int (nI (o + 1))), (5, .int (nI E))] [] (hp S) Q := by
  have e1 : nI (o + 1) - 1 = nI o := by rw [nI_sl (show 1 ≤ o + 1 by omega)]; rfl
  have e2 : nI (o + 1) + (-1) = nI o := by rw [← e1, Int32.sub_eq_add_neg]
  refine kM_load_45 ⟨fun c => ?_, fun _ => ?_⟩
  · rw [nI_lel (by omega) (by omega)] at c
    omega
  · rw [e1]
    refine ⟨_, hg_33_16 S, _, (hs_r S (by omega)).1, _, hg_33_17 S, _, (hs_r S (by omega)).2.1, ?_⟩
    rw [h27, e2, nI_1]
    exact ⟨fun _ => hW, fun c => absurd rfl c⟩
theorem lqG_rf {t : Nat} {S : sT} {o n H kH : Nat} {ks : List Nat} (h19 : S.1 19 = nI n) (hK : Kids S H ks) : lqG t S S o n n H kH ks [] [] [] [] :=
  ⟨⟨frL_rf S, Nat.le_refl _, h19, fun _ _ => ⟨rfl, rfl⟩, fun i _ _ => sOwn_rf S i, sOwnH_rf S H, fun _ _ _ => rfl⟩, by rw [List.append_nil]; exact hK, rfl, by simp, List.nodup_nil, rfl, by simp⟩
set_option maxHeartbeats 8000000 in
theorem ld_step {N t o : Nat} (hot : o + t = 15) (hin : ∀ t', t = t' + 1 → lqL N t' (o + 1)) : lqL N t o := by
  intro f
  induction f with
  | zero =>
    intro d S x E n H kH r ks seen Q hs h26 h27 hxE hE hf hHn hkH hkH2 hn h19 hK hA hks hnd hHk hkl hbad hgood
    have : x = E := by omega
    subst this
    have hnil : slice (stl S) x x = [] := sl_nil (by omega)
    rw [hnil] at hgood
    exact ld_end (by omega) h26 h27 hE (hgood rfl S n [] [] [] (lqG_rf h19 hK))
  | succ f ih =>
    intro d S x E n H kH r ks seen Q hs h26 h27 hxE hE hf hHn hkH hkH2 hn h19 hK hA hks hnd hHk hkl hbad hgood
    by_cases hxE2 : x = E
    · subst hxE2
      have hnil : slice (stl S) x x = [] := sl_nil (by omega)
      rw [hnil] at hgood
      exact ld_end (by omega) h26 h27 hE (hgood rfl S n [] [] [] (lqG_rf h19 hK))
    · have hx : x < E := by omega
      have hlen := stl_len S
      have hok := okE_sl (ph := okH t) (k := kH) (f := f) (seen := seen) (l := stl S) hx (by omega)
      have hzs := zf_spec (l := stl S) (p := x + 1) (by omega)
      have hzl := zf_le (l := stl S) (p := x + 1) (by omega)
      have hnn : n ∉ ks := fun c => by have := hks n c; omega
      have hbl := stl_lt S x
      have next : ∀ (S' : sT) (n1 m : Nat) (f1 : List Nat), zf (stl S) (x + 1) < E → rt (slice (stl S) (x + 1) (zf (stl S) (x + 1))) = true → nmOK kH seen (slice (stl S) (x + 1) (zf (stl S) (x + 1))) = true → vchk (okH t) ((stl S).getD x 0) (slice (stl S) (zf (stl S) (x + 1) + 1) E) = some m → lqP S S' o n n1 H ks → n + 1 ≤ n1 → n1 ≤ n + 2 + m → Kids S' H (ks ++ [n]) → NmN S' n (slice (stl S) (x + 1) (zf (stl S) (x + 1))) → RV t S' n ((stl S).getD x 0) (slice (stl S) (zf (stl S) (x + 1) + 1) (zf (stl S) (x + 1) + 1 + m)) f1 → (∀ q ∈ f1, n ≤ q ∧ q < n1) → f1.Nodup → sm_W N (d + 4 + 1) mm_M_load 45 [(0, .ref 33), (3, .int r), (4, .int (nI (o + 1))), (5, .int (nI (zf (stl S) (x + 1) + 1 + m)))] [] (hp S') Q := by
        intro S' n1 m f1 hz hrt hnm hv hP hn1 hn1b hK' hN' hR hf1 hf1n
        have hm : m ≤ E - (zf (stl S) (x + 1) + 1) := vchk_le hv (slice_len (by omega))
        have hst := frL_st hP.1
        have h0 := hzs.2 (by omega)
        generalize hzv : zf (stl S) (x + 1) = z at *
        rw [if_pos hz, hrt, hnm, hv] at hok
        simp only [Bool.true_and] at hok
        have hes := enc_sl (l := stl S) (x := x) (z := z) (m := m) (E := E) (by omega) hz (by omega) h0 (by omega)
        have hnl : (slice (stl S) (x + 1) z).length = z - (x + 1) := slice_len (by omega)
        have hml : (slice (stl S) (z + 1) (z + 1 + m)).length = m := by rw [slice_len (by omega)]; omega
        have hel : (enc1 ((stl S).getD x 0, slice (stl S) (x + 1) z, slice (stl S) (z + 1) (z + 1 + m))).length = 2 + (z - (x + 1)) + m := by rw [enc1_len, hnl, hml]
        refine ih d S' (z + 1 + m) E n1 H kH r (ks ++ [n]) (seen ++ [slice (stl S) (x + 1) z]) Q (frL_ok hP.1 hs) ((hP.2.2.2.1 o (by omega)).1.trans h26) ((hP.2.2.2.1 o (by omega)).2.trans h27) (by omega) hE (by omega) (by omega) (hP.2.2.2.2.2.1.1.trans hkH) hkH2 (by omega) hP.2.2.1 hK' ?_ ?_ ?_ ?_ ?_ ?_ ?_
        · exact ANm_snoc hst (fun k hk => hP.2.2.2.2.1 k (hks k hk) (fun c => hHk (c ▸ hk))) hA hN'
        · intro q hq
          rcases List.mem_append.mp hq with hq | hq
          · have := hks q hq
            omega
          · have : q = n := by simpa using hq
            omega
        · refine List.nodup_append.mpr ⟨hnd, by simp, fun a ha c hc hac => ?_⟩
          have : c = n := by simpa using hc
          subst this
          subst hac
          exact hnn ha
        · intro hc
          rcases List.mem_append.mp hc with hc | hc
          · exact hHk hc
          · have : H = n := by simpa using hc
            omega
        · rw [List.length_append]
          simp
          omega
        · intro hb S2 hf2
          rw [hst] at hb
          refine hbad ?_ S2 (frL_tr hP.1 hf2)
          rw [hok]
          exact hb
        · intro hg S2 n2 ks2 es2 fp2 hG
          rw [hst] at hg hG
          refine hgood (by rw [hok]; exact hg) S2 n2 (n :: ks2) (((stl S).getD x 0, slice (stl S) (x + 1) z, slice (stl S) (z + 1) (z + 1 + m)) :: es2) (f1 ++ fp2) ?_
          rw [hes]
          refine lqG_cons hP hn1 hHn hks ?_ ?_ hR hf1 hf1n (by rw [hel]; omega) hG
          · split
            · rename_i c
              rw [nmOK, if_pos c, ← ANm_len hA] at hnm
              exact of_decide_eq_true hnm
            · exact hN'
          · intro y hy
            obtain ⟨i, hi, rfl⟩ := List.getElem_of_mem hy
            have q := sl_getD (l := stl S) (a := x + 1) (b := z) (k := i) (by omega)
            rw [List.getD_eq_getElem?_getD, List.getElem?_eq_getElem hi, Option.getD_some] at q
            rw [q]
            exact hzs.1 _ (by omega) (by omega)
      have hS1 : ∀ a c b : Int32, stl (nwS S n b a c H ks) = stl S := fun a c b => frL_st nw_fr
      have hNm : ∀ b : Int32, zf (stl S) (x + 1) < E → NmN (nwS S n b (nI (x + 1)) (nI (zf (stl S) (x + 1) - x - 1)) H ks) n (slice (stl S) (x + 1) (zf (stl S) (x + 1))) := by
        intro b hz
        have hnl : (slice (stl S) (x + 1) (zf (stl S) (x + 1))).length = zf (stl S) (x + 1) - (x + 1) := slice_len (by omega)
        refine ⟨x + 1, by rw [nw_19a, pk_us], ?_, by rw [hnl]; omega, ?_⟩
        · rw [nw_20, pk_us, hnl]
          exact congrArg nI (by omega)
        · rw [hS1, hnl, show x + 1 + (zf (stl S) (x + 1) - (x + 1)) = zf (stl S) (x + 1) by omega]
      have hKn : ∀ a c b : Int32, Kids (nwS S n b a c H ks) H (ks ++ [n]) := fun a c b => nw_kids (by omega) hnd hK hnn (by omega)
      refine ld_el (d := d) (n := n) (H := H) (kH := kH) (ks := ks) (seen := seen) hs (by omega) h26 h27 hx hE (by omega) hkH hkH2 (by omega) h19 hK hA hnn (by omega) (by omega) ?_ ?_ ?_
      · intro hc
        refine hbad (fun hg => hc ?_) S (frL_rf S)
        rw [hok] at hg
        split at hg
        · rename_i c
          simp only [Bool.and_eq_true] at hg
          obtain ⟨g1, g2, g3⟩ := hg
          refine ⟨?_, c, g1, g2⟩
          cases hv : vchk (okH t) ((stl S).getD x 0) (slice (stl S) (zf (stl S) (x + 1) + 1) E) with
          | none => rw [hv] at g3; cases g3
          | some m => exact vchk_kind hv
        · cases hg
      · -- a holder
        intro hb hz hrt hnm
        have h0z := hzs.2 (by omega)
        generalize hzv : zf (stl S) (x + 1) = z at *
        generalize hbv : (stl S).getD x 0 = b at *
        generalize hSv : nwS S n (nI b) (nI (x + 1)) (nI (z - x - 1)) H ks = S1 at *
        have hf1 : frL S S1 := by rw [← hSv]; exact nw_fr
        have hst1 : stl S1 = stl S := frL_st hf1
        have hP1 : lqP S S1 o n (n + 1) H ks := by rw [← hSv]; exact lqP_nw hHn
        have hK1 : Kids S1 H (ks ++ [n]) := by rw [← hSv]; exact hKn _ _ _
        have hN1 : NmN S1 n (slice (stl S) (x + 1) z) := by rw [← hSv]; exact hNm _ hz
        have h18 : S1.2.1 18 n = nI b := by rw [← hSv, nw_18, pk_us]
        have hL1 : S1.2.2 n = 0 := by rw [← hSv, nw_L, pk_uLs]
        have h23 : S1.2.1 23 n = -1 := by rw [← hSv, nw_23 (by omega), pk_us]
        have h25 : S1.2.1 25 n = -1 := by rw [← hSv, nw_25, pk_un (by omega), pk_us]
        have h191 : S1.1 19 = nI (n + 1) := hP1.2.2.1
        have hrl : (slice (stl S) (z + 1) E).length = E - (z + 1) := slice_len (by omega)
        have key : ∀ m, vchk (okH t) b (slice (stl S) (z + 1) E) = some m → 5 ≤ E - (z + 1) ∧ 5 ≤ u4 (stl S) (z + 1) ∧ u4 (stl S) (z + 1) ≤ E - (z + 1) ∧ okH t b (slice (stl S) (z + 1) (z + 1 + u4 (stl S) (z + 1))) = true := by
          intro m hv
          rw [vchk_h hb] at hv
          obtain ⟨q0, q1, q2, q3, q4⟩ := hchk_some hv
          rw [hrl] at q1 q3
          rw [sl_u4 (by omega)] at q0
          rw [q0] at q2 q3 q4
          rw [Nat.add_zero] at q2 q3 q4
          rw [sl_take (by omega)] at q4
          exact ⟨q1, q2, q3, q4⟩
        have kok : okE (okH t) kH (f + 1) seen (slice (stl S) x E) = true → ∃ m, vchk (okH t) b (slice (stl S) (z + 1) E) = some m := by
          intro hg
          rw [hok, if_pos hz] at hg
          simp only [Bool.and_eq_true] at hg
          cases hv : vchk (okH t) b (slice (stl S) (z + 1) E) with
          | none => rw [hv] at hg; cases hg.2.2
          | some m => exact ⟨m, rfl⟩
        refine kM_load_307 ?_
        simp only [fM_load_307, nI_al]
        refine sM_opens (d := d + 1) (frL_ok hf1 hs) (by omega) hE (by omega) (fun c => ⟨_, rfl, fun _ => ?_, fun y => absurd rfl y⟩) (fun c => ⟨_, rfl, fun y => absurd y (by decide), fun _ => ?_⟩)
        · refine hbad (fun hg => c ?_) S1 hf1
          obtain ⟨m, hv⟩ := kok hg
          obtain ⟨q1, q2, q3, q4⟩ := key m hv
          rw [hst1]
          cases t with
          | zero => cases q4
          | succ t =>
            rw [okH_sl (by omega) q2, Bool.and_eq_true] at q4
            exact ⟨by omega, by omega, q2, q3, of_decide_eq_true q4.1⟩
        · rw [hst1] at c ⊢
          obtain ⟨c1, c2, c3, c4, c5⟩ := c
          generalize hu : u4 (stl S) (z + 1) = u at *
          obtain ⟨t', rfl⟩ : ∃ t', t = t' + 1 := ⟨t - 1, by omega⟩
          generalize hSw : sA (sA S1 26 (upd (S1.2.1 26) (o + 1) (nI n))) 27 (upd (S1.2.1 27) (o + 1) (nI (z + 1 + u - 1))) = S3
          have a26 : S3.2.1 26 = upd (S1.2.1 26) (o + 1) (nI n) := by rw [← hSw]; simp [sA, va_up]
          have a27 : S3.2.1 27 = upd (S1.2.1 27) (o + 1) (nI (z + 1 + u - 1)) := by rw [← hSw]; simp [sA, va_up]
          have ao : ∀ j, j ≠ 26 → j ≠ 27 → S3.2.1 j = S1.2.1 j := fun j j1 j2 => by rw [← hSw]; simp [sA, va_up, j1, j2]
          have ai : S3.1 = S1.1 := by rw [← hSw]; rfl
          have aL : S3.2.2 = S1.2.2 := by rw [← hSw]; rfl
          have hf3 : frL S1 S3 := ⟨fun k _ => by rw [ai], fun k hk => ao k (by omega) (by omega)⟩
          have hst3 : stl S3 = stl S := (frL_st hf3).trans hst1
          have own3 : ∀ i, sOwn S1 S3 i := fun i => ⟨by rw [ao 18 (by omega) (by omega)], by rw [aL], by rw [ao 21 (by omega) (by omega)], by rw [ao 22 (by omega) (by omega)], by rw [ao 23 (by omega) (by omega)], by rw [ao 25 (by omega) (by omega)], by rw [ao 19 (by omega) (by omega)], by rw [ao 20 (by omega) (by omega)]⟩
          have nx3 : ∀ i, S3.2.1 24 i = S1.2.1 24 i := fun i => by rw [ao 24 (by omega) (by omega)]
          have hP3 : lqP S S3 o n (n + 1) H ks := lqP_mid hP1 hHn hf3 (by rw [ai]; exact h191) (Nat.le_refl _) (fun j hj => ⟨by rw [a26, pk_un (by omega)], by rw [a27, pk_un (by omega)]⟩) (fun i _ => own3 i) (fun i _ => nx3 i)
          have hK3 : Kids S3 H (ks ++ [n]) := Kids_fr (own3 H).2.2.2.2.1 (own3 H).2.2.2.2.2.1 (fun q _ => nx3 q) hK1
          have hN3 := NmN_frame (own3 n) (frL_st hf3) hN1
          refine kM_load_359 ?_
          refine hin t' rfl u d S3 (z + 5) (z + 1 + u - 1) (n + 1) n b r [] [] Q (frL_ok hf3 (frL_ok hf1 hs)) (by rw [a26, pk_us]) (by rw [a27, pk_us]) (by omega) (by omega) (by omega) (by omega) (by rw [(own3 n).1]; exact h18) hb (by omega) hP3.2.2.1 ⟨?_, ?_⟩ trivial (by simp) List.nodup_nil (by simp) (by simp) ?_ ?_
          · rw [(own3 n).2.2.2.2.1]; exact h23
          · rw [(own3 n).2.2.2.2.2.1]; exact h25
          · intro hb2 S2 hf2
            rw [hst3] at hb2
            refine hbad (fun hg => hb2 ?_) S2 (frL_tr hP3.1 hf2)
            obtain ⟨m, hv⟩ := kok hg
            obtain ⟨q1, q2, q3, q4⟩ := key m hv
            rw [okH_sl (by omega) q2, Bool.and_eq_true] at q4
            exact q4.2
          · intro hg S2 n2 ks2 es2 fp2 hG
            rw [hst3] at hg hG
            have hv : vchk (okH (t' + 1)) b (slice (stl S) (z + 1) E) = some u := by
              rw [vchk_h hb, hchk, hrl, sl_u4 (by omega), Nat.add_zero, hu, sl_take (by omega), if_pos]
              refine ⟨by omega, c3, c4, ?_⟩
              rw [okH_sl (by omega) c3, c5]
              simpa using hg
            obtain ⟨⟨b1, b2, b3, b4, b5, b6, b7⟩, g2, g3, g4, g5, g6, g7⟩ := hG
            have hrw : (slice (stl S) (z + 5) (z + 1 + u - 1)).length = u - 5 := by rw [slice_len (by omega)]; omega
            rw [hrw] at g7
            rw [show z + 1 + u - 1 + 1 = z + 1 + u by omega]
            refine next S2 n2 u (n :: fp2) hz hrt hnm hv ?_ (by omega) (by omega) ?_ ?_ ?_ ?_ ?_
            · exact lqP_mid hP3 hHn b1 b3 b2 (fun j hj => b4 j (by omega)) (fun i hi => b5 i (by omega) (by omega)) (fun i hi => b7 i (by omega) (by simp))
            · have oH := b5 H (by omega) (by omega)
              refine Kids_fr oH.2.2.2.2.1 oH.2.2.2.2.2.1 (fun q hq => b7 q ?_ (by simp)) hK3
              rcases List.mem_append.mp hq with hq | hq
              · have := hks q hq
                omega
              · have : q = n := by simpa using hq
                omega
            · obtain ⟨a, k1, k2, k3, k4⟩ := hN3
              exact ⟨a, by rw [b6.2.2.2.2.1]; exact k1, by rw [b6.2.2.2.2.2]; exact k2, k3, by rw [frL_st b1]; exact k4⟩
            · refine ⟨by omega, ?_, fun q hq => sl_lt hq, Or.inr ⟨hb, ?_, es2, ks2, fp2, ?_, rfl, g2, g3⟩⟩
              · rw [b6.1, (own3 n).1]; exact h18
              · rw [b6.2.1, aL]; exact hL1
              · exact encD_sl (by omega) (stl_lt S) hu.symm c3 c5 g6
            · intro q hq
              rcases List.mem_cons.mp hq with rfl | hq
              · omega
              · have := g4 q hq
                omega
            · refine List.nodup_cons.mpr ⟨fun hc => ?_, g5⟩
              have := g4 n hc
              omega
      · -- a leaf
        intro hb hz hrt hnm
        generalize hzv : zf (stl S) (x + 1) = z at *
        generalize hbv : (stl S).getD x 0 = b at *
        generalize hSv : nwS S n (nI b) (nI (x + 1)) (nI (z - x - 1)) H ks = S1 at *
        have hf1 : frL S S1 := by rw [← hSv]; exact nw_fr
        have hst1 : stl S1 = stl S := frL_st hf1
        have hP1 : lqP S S1 o n (n + 1) H ks := by rw [← hSv]; exact lqP_nw hHn
        have hK1 : Kids S1 H (ks ++ [n]) := by rw [← hSv]; exact hKn _ _ _
        have hN1 : NmN S1 n (slice (stl S) (x + 1) z) := by rw [← hSv]; exact hNm _ hz
        have h18 : S1.2.1 18 n = nI b := by rw [← hSv, nw_18, pk_us]
        have hL1 : S1.2.2 n = 0 := by rw [← hSv, nw_L, pk_uLs]
        have h23 : S1.2.1 23 n = -1 := by rw [← hSv, nw_23 (by omega), pk_us]
        refine sM_value (d := d) (ph := okH t) (frL_ok hf1 hs) (by omega) h18 hb (by omega) hE ?_ ?_
        · intro hv
          rw [hst1] at hv
          refine ⟨_, rfl, fun c => absurd c (by decide), fun _ => hbad (fun hg => ?_) S1 hf1⟩
          rw [hok, if_pos hz, hv] at hg
          simp at hg
        · intro m hv
          have hv0 := hv
          rw [hst1] at hv
          have hm : m ≤ E - (z + 1) := vchk_le hv (slice_len (by omega))
          refine ⟨_, rfl, fun _ => kM_load_359 ?_, fun c => absurd (nI_pos' (by omega)) c⟩
          refine next (vS S1 n b (z + 1) m) (n + 1) m [n] hz hrt hnm hv ?_ (by omega) (by omega) ?_ ?_ ?_ ?_ (by simp)
          · exact lqP_mid hP1 hHn vS_fr (by rw [vS_19]; exact hP1.2.2.1) (Nat.le_refl _) (fun j hj => ⟨by rw [vS_sc (by omega) (by omega)], by rw [vS_sc (by omega) (by omega)]⟩) (fun i hi => vS_own (by omega)) (fun i hi => by rw [vS_sc (by omega) (by omega)])
          · exact Kids_fr (by rw [vS_sc (by omega) (by omega)]) (by rw [vS_sc (by omega) (by omega)]) (fun q _ => by rw [vS_sc (by omega) (by omega)]) hK1
          · obtain ⟨a, k1, k2, k3, k4⟩ := hN1
            exact ⟨a, by rw [vS_sc (by omega) (by omega)]; exact k1, by rw [vS_sc (by omega) (by omega)]; exact k2, k3, by rw [frL_st vS_fr, hst1]; rw [hst1] at k4; exact k4⟩
          · have := RV_leaf (t := t) (S := S1) (n := n) (by omega) h18 hb h23 hL1 (by omega) hE hv0
            rw [hst1] at this
            exact this
          · intro q hq
            have : q = n := by simpa using hq
            omega
theorem ld_loop {N : Nat} : ∀ (t o : Nat), o + t = 15 → lqL N t o := by
  intro t
  induction t with
  | zero => intro o h; exact ld_step h (fun t' ht => by omega)
  | succ t ih =>
    intro o h
    refine ld_step h (fun t' ht => ?_)
    have : t' = t := by omega
    subst this
    exact ih (o + 1) (by omega)
