/-! the reference: value; digits read back -/
def vS (S : sT) (nd k p n : Nat) : sT := if k = 2 then sA (sA S 21 (upd (S.2.1 21) nd (nI (p + 4)))) 22 (upd (S.2.1 22) nd (nI (n - 5))) else sL S (vp_updL S.2.2 nd (nvR k (slice (stl S) p (p + n))))
section MV2
variable {S : sT} {N d : Nat} {Q : Option Value → sm_H → Prop}
theorem sM_value {ph : Nat → List Nat → Bool} {nd p e k : Nat} (hs : okSt S) (hnd : nd < 6000) (hk : S.2.1 18 nd = nI k) (hk2 : k = 2 ∨ k = 8 ∨ k = 10 ∨ k = 16 ∨ k = 18) (hpe : p ≤ e) (he : e ≤ 14000)
    (h0 : vchk ph k (slice (stl S) p e) = none → Q (some (.int (-1))) (hp S)) (h1 : ∀ n, vchk ph k (slice (stl S) p e) = some n → Q (some (.int (nI (p + n)))) (hp (vS S nd k p n))) : sm_V N (d + 4) mm_M_value 5 33 [.int (nI nd), .int (nI p), .int (nI e)] (hp S) Q := by
  have hsub : nI e - nI p = nI (e - p) := pk_sub hpe
  have hsl : (slice (stl S) p e).length = e - p := slice_len (by rw [stl_len]; omega)
  have hu := u4s_lt S p
  have hbp := stl_lt S p
  have w247 : ∀ (n : Nat) (v : Int64), n ≤ 8 → ¬ k = 2 → vchk ph k (slice (stl S) p e) = some n → v = nvR k (slice (stl S) p (p + n)) → sm_W N (d + 3 + 1) mm_M_value 247 [(2, .int (nI p)), (5, .int (nI n))] [.long v, .int (nI nd), .ref 38] (hp S) Q := by
    intro n v hn hk9 hv e1
    refine kM_value_247 ⟨_, hl_w S hnd v, ?_⟩
    have := h1 n hv
    rw [vS, if_neg hk9, ← e1] at this
    rw [nI_add]
    exact this
  have w176 : ∀ n : Nat, ¬ k = 2 → n = (if k = 16 then 4 else if k = 18 then 8 else if k = 8 then 1 else 0) → n ≤ e - p → (k = 8 → (stl S).getD p 0 ≤ 1) → sm_W N (d + 3 + 1) mm_M_value 176 [(0, .ref 33), (1, .int (nI nd)), (2, .int (nI p)), (4, .int (nI k)), (5, .int (nI n))] [] (hp S) Q := by
    intro n hk9 hn hle h8
    refine kM_value_176 ⟨_, hg_33_10 S, fun c => ?_, fun c => ⟨fun c2 => ?_, fun c2 => ⟨fun c3 => ?_, fun c3 => ?_⟩⟩⟩
    · rw [nI_eql (by omega) (by omega)] at c
      have ck : k = 16 := c
      subst ck
      have hn4 : n = 4 := hn
      subst hn4
      refine sM_whole (by omega) ⟨_, rfl, w247 4 _ (by omega) hk9 ?_ ?_⟩
      · show (if 4 ≤ (slice (stl S) p e).length then some 4 else none) = _
        rw [if_pos (by omega)]
      · show _ = Int32.toInt64 (nI (u4 (slice (stl S) p (p + 4)) 0))
        rw [sl_u4 (by omega)]
        rfl
    · rw [nI_eql (by omega) (by omega)] at c2
      have ck : k = 18 := c2
      subst ck
      have hn4 : n = 8 := hn
      subst hn4
      rw [nI_al]
      refine sM_whole (by omega) ⟨_, rfl, sM_whole (by omega) ⟨_, rfl, w247 8 _ (by omega) hk9 ?_ ?_⟩⟩
      · show (if 8 ≤ (slice (stl S) p e).length then some 8 else none) = _
        rw [if_pos (by omega)]
      · show _ = (Int32.toInt64 (nI (u4 (slice (stl S) p (p + 8)) 4)) * 4294967296) + (Int32.toInt64 (nI (u4 (slice (stl S) p (p + 8)) 0)) &&& 4294967295)
        rw [sl_u4 (by omega), sl_u4 (by omega)]
        rfl
    · rw [nI_eql (by omega) (by omega)] at c3
      have ck : k = 8 := c3
      subst ck
      have hn4 : n = 1 := hn
      subst hn4
      refine sM_at (by omega) ⟨_, rfl, w247 1 _ (by omega) hk9 ?_ ?_⟩
      · show (if 1 ≤ (slice (stl S) p e).length ∧ (slice (stl S) p e).getD 0 0 ≤ 1 then some 1 else none) = _
        rw [if_pos ⟨by omega, by rw [sl_getD (by omega)]; exact h8 rfl⟩]
      · show _ = Int32.toInt64 (nI ((slice (stl S) p (p + 1)).getD 0 0))
        rw [sl_getD (by omega)]
        rfl
    · simp (disch := omega) only [nI_eql] at c c2 c3
      have ck : k = 10 := by omega
      subst ck
      have hn4 : n = 0 := hn
      subst hn4
      exact w247 0 _ (by omega) hk9 rfl rfl
  have w43 : ∀ n : Nat, n = (if k = 16 then 4 else if k = 18 then 8 else if k = 8 then 1 else 0) → sm_W N (d + 3 + 1) mm_M_value 43 [(0, .ref 33), (1, .int (nI nd)), (2, .int (nI p)), (3, .int (nI e)), (4, .int (nI k))] [.int (nI n)] (hp S) Q := by
    intro n hn
    have hn8 : n ≤ 8 := by rw [hn]; repeat' split
                           all_goals omega
    refine kM_value_43 ⟨fun c => ?_, fun c => ?_⟩
    · rw [nI_eql (by omega) (by omega)] at c
      have ck : k = 2 := c
      subst ck
      have hv : vchk ph 2 (slice (stl S) p e) = tchk (slice (stl S) p e) := rfl
      rw [hsub]
      refine ⟨fun c2 => ?_, fun c2 => ?_⟩
      · rw [nI_ltl (by omega) (by omega)] at c2
        refine h0 ?_
        rw [hv, tchk, if_neg (by rw [hsl]; omega)]
      · rw [nI_ltl (by omega) (by omega)] at c2
        have hu2 : u4 (slice (stl S) p e) 0 = u4 (stl S) p := by rw [sl_u4 (by omega)]; rfl
        have emm : (nI (e - p) - 4) = nI (e - p - 4) := by rw [nI_sl (show 4 ≤ e - p by omega)]
        refine sM_whole (by omega) ⟨_, rfl, fun c3 => ?_, fun c3 => ?_⟩
        · refine h0 ?_
          rw [hv, tchk, if_neg]
          rintro ⟨-, g2, g3, -⟩
          rw [hu2] at g2 g3
          rw [hsl] at g3
          rw [nI_ltl (by omega) (by omega)] at c3
          omega
        · refine sM_whole (by omega) ⟨_, rfl, fun c4 => ?_, fun c4 => ?_⟩
          · refine h0 ?_
            rw [hv, tchk, if_neg]
            rintro ⟨-, g2, g3, -⟩
            rw [hu2] at g2 g3
            rw [hsl] at g3
            rw [emm, nI_ltI (by omega) (by omega)] at c4
            omega
          · rw [ti_lt, nI_tc hu] at c3
            simp at c3
            have u1 : u4 (stl S) p < 2147483648 := by
              split at c3
              · assumption
              · omega
            rw [if_pos u1] at c3
            rw [emm, nI_ltI (by omega) (by omega)] at c4
            refine ⟨_, hg_33_1 S, sM_whole (by omega) ⟨_, rfl, ?_⟩⟩
            rw [nI_al, nI_add]
            refine ⟨_, hm_r S (show p + 3 + u4 (stl S) p < 14100 by omega), fun c5 => ?_, fun c5 => ?_⟩
            · rw [z0_ub (hs _), ← stl_get (by omega)] at c5
              refine sM_whole (by omega) ⟨_, rfl, ?_⟩
              rw [nI_al, nI_add]
              refine sM_isText (by omega) (by omega) ⟨_, rfl, fun c6 => ?_, fun c6 => ?_⟩
              · refine h0 ?_
                rw [hv, tchk, if_neg]
                rintro ⟨-, -, g3, -, g5⟩
                rw [hu2, sl_sl (by rw [hu2] at g3; omega), ← Nat.add_assoc] at g5
                rw [show p + OfNat.ofNat 4 = p + 4 from rfl, g5] at c6
                exact absurd c6 (by decide)
              · have hrt : rt (slice (stl S) (p + 4) (p + 3 + u4 (stl S) p)) = true := by
                  by_cases z : rt (slice (stl S) (p + 4) (p + 3 + u4 (stl S) p)) = true
                  · exact z
                  · exact absurd (by rw [show p + OfNat.ofNat 4 = p + 4 from rfl, if_neg z]) c6
                have hvv : vchk ph 2 (slice (stl S) p e) = some (4 + u4 (stl S) p) := by
                  rw [hv, tchk, hu2, hsl, if_pos]
                  refine ⟨by omega, by omega, by omega, ?_, ?_⟩
                  · rw [sl_getD (by omega), show p + (3 + u4 (stl S) p) = p + 3 + u4 (stl S) p by omega]
                    exact c5
                  · rw [sl_sl (by omega), ← Nat.add_assoc]
                    exact hrt
                have hh := h1 _ hvv
                rw [vS, if_pos rfl] at hh
                refine ⟨_, hg_33_11 S, _, (hq_w S hnd _).2.2.2.1, ?_⟩
                generalize e1 : sA S 21 (upd (S.2.1 21) nd (nI (p + OfNat.ofNat 4))) = S1
                have t1 : stl S1 = stl S := by rw [← e1]; rfl
                refine ⟨_, hg_33_12 S1, sM_whole (by omega) ⟨_, rfl, ?_⟩⟩
                rw [t1, nI_sl (show 1 ≤ u4 (stl S) p by omega)]
                refine ⟨_, (hq_w S1 hnd _).2.2.2.2.1, ?_⟩
                refine sM_whole (by omega) ⟨_, rfl, ?_⟩
                have t2 : stl (sA S1 22 (upd (S1.2.1 22) nd (nI (u4 (stl S) p - OfNat.ofNat 1)))) = stl S := by rw [← t1]; rfl
                rw [t2, nI_add]
                rw [← e1]
                rw [show p + (4 + u4 (stl S) p) = p + 4 + u4 (stl S) p by omega, show 4 + u4 (stl S) p - 5 = u4 (stl S) p - 1 by omega] at hh
                exact hh
            · rw [z0_ub (hs _), ← stl_get (by omega)] at c5
              refine h0 ?_
              rw [hv, tchk, if_neg]
              rintro ⟨-, -, g3, g4, -⟩
              rw [hu2] at g3 g4
              rw [hsl] at g3
              rw [sl_getD (by omega), show p + (3 + u4 (stl S) p) = p + 3 + u4 (stl S) p by omega] at g4
              exact c5 g4
    · rw [nI_eql (by omega) (by omega)] at c
      have ck : ¬ k = 2 := c
      rw [hsub]
      refine ⟨fun c2 => ?_, fun c2 => ⟨fun c3 => ?_, fun c3 => ?_⟩⟩
      · rw [nI_ltI (by omega) (by omega)] at c2
        refine h0 ?_
        rcases hk2 with rfl | rfl | rfl | rfl | rfl
        · exact absurd rfl ck
        · show (if 1 ≤ (slice (stl S) p e).length ∧ _ then some 1 else none) = _
          have : n = 1 := hn
          rw [if_neg (by rw [hsl]; omega)]
        · have : n = 0 := hn
          omega
        · show (if 4 ≤ (slice (stl S) p e).length then some 4 else none) = _
          have : n = 4 := hn
          rw [if_neg (by rw [hsl]; omega)]
        · show (if 8 ≤ (slice (stl S) p e).length then some 8 else none) = _
          have : n = 8 := hn
          rw [if_neg (by rw [hsl]; omega)]
      · rw [nI_ltI (by omega) (by omega)] at c2
        rw [nI_eql (by omega) (by omega)] at c3
        have c3' : k = 8 := c3
        have hn1 : n = 1 := by rw [hn, c3']; rfl
        refine sM_at (by omega) ⟨_, rfl, fun c4 => ?_, fun c4 => ?_⟩
        · rw [nI_lel (by omega) (by omega)] at c4
          exact w176 n ck hn (by omega) (fun _ => c4)
        · rw [nI_lel (by omega) (by omega)] at c4
          refine h0 ?_
          rw [c3']
          show (if 1 ≤ (slice (stl S) p e).length ∧ (slice (stl S) p e).getD 0 0 ≤ 1 then some 1 else none) = _
          rw [if_neg]
          rintro ⟨g1, g2⟩
          rw [sl_getD (by omega)] at g2
          exact c4 g2
      · rw [nI_ltI (by omega) (by omega)] at c2
        rw [nI_eql (by omega) (by omega)] at c3
        exact w176 n ck hn (by omega) (fun z => absurd z c3)
  refine cM_value (hk_33 S) ⟨_, hg_33_7 S, _, (hq_r S hnd).1, ?_⟩
  rw [hk]
  refine ⟨fun c => ?_, fun c => ⟨fun c2 => ?_, fun c2 => ⟨fun c3 => ?_, fun c3 => ?_⟩⟩⟩
  · rw [nI_eql (by omega) (by omega)] at c
    exact w43 4 (by rw [if_pos c])
  · rw [nI_eql (by omega) (by omega)] at c c2
    exact w43 8 (by rw [if_neg c, if_pos c2])
  · rw [nI_eql (by omega) (by omega)] at c c2 c3
    exact w43 1 (by rw [if_neg c, if_neg c2, if_pos c3])
  · rw [nI_eql (by omega) (by omega)] at c c2 c3
    exact w43 0 (by rw [if_neg c, if_neg c2, if_neg c3])
end MV2
