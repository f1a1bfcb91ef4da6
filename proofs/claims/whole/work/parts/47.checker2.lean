/-! the Checker: isRightName, checkedEnd, holderEnd, isDocument -/
def SeenOK (S : sT) (l : List Nat) (f : Nat) (seen : List (List Nat)) : Prop := ∀ (i : Nat) (x : List Nat), seen[i]? = some x → ∃ p, NmAt l p x ∧ S.2.1 11 (f + i) = nI p
def hres (p : Nat) (o : Option Nat) : Int32 := match o with
  | some n => nI (p + n)
  | none => -1
def Kst (o : Option Nat) (c : Nat) (S S2 : sT) : Prop := eqK S S2 ∧ (o ≠ none → S2.1 3 = nI c ∧ ∀ i, i < c → S2.2.1 11 i = S.2.1 11 i)
theorem Kst_rf {o : Option Nat} {c : Nat} {S : sT} (h : okB S 5) (hc : S.1 3 = nI c) : Kst o c S S := ⟨eqK_rf h, fun _ => ⟨hc, fun _ _ => rfl⟩⟩
theorem nI_m1 {n : Nat} (h : n < 2147483648) : ¬ nI n = -1 := by
  intro q
  rw [ti_eq, nI_t h] at q
  have : (-1 : Int32).toInt = -1 := by decide
  omega
section Chk2
variable {S : sT} {j N d : Nat} {Q : Option Value → sm_H → Prop}
theorem sK_name {p e k f : Nat} {seen : List (List Nat)} (hj : j < 11) (h5 : j ≠ 5) (hw : okB S j) (hw5 : okB S 5) (hpe : p < e) (he : e ≤ (bl S j).length) (hk : k < 256) (hc : S.1 3 = nI (f + seen.length)) (hf : f + seen.length < 1000) (hs : SeenOK S (bl S j) f seen)
    (h0 : ∀ S2, eqK S S2 → (zf (bl S j) (p + 1) < e → rt (slice (bl S j) (p + 1) (zf (bl S j) (p + 1))) = true → nmOK k seen (slice (bl S j) (p + 1) (zf (bl S j) (p + 1))) = true → False) → Q (some (.int 0)) (hp S2))
    (h1 : ∀ S2, eqK S S2 → zf (bl S j) (p + 1) < e → rt (slice (bl S j) (p + 1) (zf (bl S j) (p + 1))) = true → nmOK k seen (slice (bl S j) (p + 1) (zf (bl S j) (p + 1))) = true → S2.1 3 = nI (f + seen.length + 1) → (∀ i, i < f + seen.length → S2.2.1 11 i = S.2.1 11 i) → S2.2.1 11 (f + seen.length) = nI (p + 1) → Q (some (.int 1)) (hp S2)) :
    sm_V N (d + 4) mm_K_isRightName 1 2 [.ref (11 + 2 * j), .int (nI p), .int (nI e), .int (nI k), .int (nI f)] (hp S) Q := by
  have hlen := bl_lenB hw
  have hcp := caps_le j
  have hz := zf_le (l := bl S j) (p := p + 1) (by omega)
  refine cK_isRightName (hk_2 S) (sB_nameEnd hj hw (by omega) ⟨_, rfl, fun c => ?_, fun c => ?_⟩)
  · rw [nI_leI (by omega) (by omega)] at c
    exact h0 S (eqK_rf hw5) (fun q _ _ => by omega)
  · rw [nI_leI (by omega) (by omega)] at c
    have hzl : zf (bl S j) (p + 1) < e := by omega
    have w102 : ∀ T, eqK S T → T.1 3 = S.1 3 → T.2.1 11 = S.2.1 11 → rt (slice (bl S j) (p + 1) (zf (bl S j) (p + 1))) = true → nmOK k seen (slice (bl S j) (p + 1) (zf (bl S j) (p + 1))) = true → sm_W N (d + 3 + 1) mm_K_isRightName 102 [(0, .ref 2), (6, .int (nI (p + 1)))] [] (hp T) Q := by
      intro T hT t3 t11 a1 a2
      have hT5 := hT.2.2.2
      refine kK_isRightName_102 ⟨_, hg_2_0 T, _, hg_2_2 T, hp (sA T 11 (upd (T.2.1 11) (f + seen.length) (nI (p + 1)))), ?_, _, hg_2_2 _, _, hu_2_2 _ _, ?_⟩
      · rw [t3, hc, hw_3, nI_t (by omega), if_pos ⟨by omega, by omega⟩, nI_clamp (by omega)]
      · have e3 : (sA T 11 (upd (T.2.1 11) (f + seen.length) (nI (p + 1)))).1 3 + 1 = nI (f + seen.length + 1) := by
          show T.1 3 + 1 = _
          rw [t3, hc, nI_1]
        rw [e3]
        have k1 := sA_K hT5 (upd (T.2.1 11) (f + seen.length) (nI (p + 1)))
        have k2 := sI_K k1.2.2.2 (nI (f + seen.length + 1))
        refine h1 _ (eqK_tr hT (eqK_tr k1 k2)) hzl a1 a2 ?_ (fun i hi => ?_) ?_
        · simp [sI, va_up]
        · show va_up T.2.1 11 (upd (T.2.1 11) (f + seen.length) (nI (p + 1))) 11 i = _
          rw [va_up_self, pk_un (by omega), t11]
        · show va_up T.2.1 11 (upd (T.2.1 11) (f + seen.length) (nI (p + 1))) 11 _ = _
          rw [va_up_self, pk_us]
    refine ⟨_, hg_2_2 S, _, hg_2_0 S, _, hn_3 S, fun c2 => ?_, fun _ => ?_⟩
    · rw [hc] at c2
      exact absurd ((nI_gel (by omega) (by omega)).mp c2) (by omega)
    · rw [nI_al]
      refine sK_rt hj hw (by omega) (by omega) ⟨_, rfl, fun q => ?_, fun q => ?_⟩
      · rw [rt_sl (by omega) (by omega)] at q
        refine h0 S (eqK_rf hw5) (fun _ z _ => ?_)
        rw [show p + OfNat.ofNat 1 = p + 1 from rfl, z] at q
        exact absurd q (by decide)
      · have hrt : rt (slice (bl S j) (p + 1) (zf (bl S j) (p + 1))) = true := by
          rw [rt_sl (by omega) (by omega)] at q
          by_cases z : rt (slice (bl S j) (p + 1) (zf (bl S j) (p + 1))) = true
          · exact z
          · exact absurd (by rw [show p + OfNat.ofNat 1 = p + 1 from rfl, if_neg z]) q
        refine ⟨fun c4 => ?_, fun c4 => ?_⟩
        · rw [nI_eql (by omega) (by omega)] at c4
          have hk4 : k = 4 := c4
          refine ⟨_, hg_2_1 S, _, hg_2_2 S, ?_⟩
          rw [hc, pk_sub (by omega), Nat.add_sub_cancel_left]
          have hnd := nd_le seen.length
          refine sB_digits (j := 5) (by omega) hw5 (by omega) (by show nd _ + 1 ≤ 10; omega) (fun T eT => ⟨rfl, _, hg_2_1 T, _, hg_2_1 T, _, hb_g1 T (j := 5) (by omega), ?_⟩)
          have kT := eqB_K eT
          have bT := eqK_bl kT hj h5
          have oT := eqK_ok kT hj h5 hw
          have lenT : T.1 (30 + 5) = nI (dg seen.length).length := by
            obtain ⟨n, a1, a2, -⟩ := eT.2.1
            rw [a2, ← eT.2.2, bl_len a1 a2]
          rw [lenT]
          have dl := dg_len seen.length
          refine sD_sameRange (c := 0) hj oT (by omega) eT.2.1 (by omega) (by rw [bT]; omega) (by omega) (by rw [eT.2.2]; omega) ⟨_, rfl, fun q2 => ?_, fun q2 => ?_⟩
          · rw [bT, eT.2.2, sl_all] at q2
            refine h0 T kT (fun _ _ z => ?_)
            rw [nmOK, if_pos hk4] at z
            rw [if_pos (by simpa using z)] at q2
            exact absurd q2 (by decide)
          · rw [bT, eT.2.2, sl_all] at q2
            refine w102 T kT (eqB_i eT (by omega)) (eqB_a eT (by omega)) hrt ?_
            rw [nmOK, if_pos hk4]
            by_cases z : slice (bl S j) (p + 1) (zf (bl S j) (p + 1)) = dg seen.length
            · simpa using z
            · rw [show p + OfNat.ofNat 1 = p + 1 from rfl, if_neg z] at q2
              exact absurd rfl q2
        · rw [nI_eql (by omega) (by omega)] at c4
          have hk4 : ¬ k = 4 := c4
          refine sK_isOneOf hj hw hc hf hs (nmAt_zf (by omega) (by omega)) ⟨_, rfl, fun q2 => ?_, fun q2 => ?_⟩
          · refine w102 S (eqK_rf hw5) rfl rfl hrt ?_
            rw [nmOK, if_neg hk4]
            by_cases z : slice (bl S j) (p + 1) (zf (bl S j) (p + 1)) ∈ seen
            · rw [show p + OfNat.ofNat 1 = p + 1 from rfl, if_pos z] at q2
              exact absurd q2 (by decide)
            · simpa using z
          · refine h0 S (eqK_rf hw5) (fun _ _ z => ?_)
            rw [nmOK, if_neg hk4] at z
            rw [show p + OfNat.ofNat 1 = p + 1 from rfl, if_neg (by simpa using z)] at q2
            exact absurd rfl q2
theorem sK_checked {t : Nat} (ht : t ≤ 16) (hj : j < 11) (h5 : j ≠ 5)
    (H : ∀ (S : sT) (p e k c : Nat) (Q : Option Value → sm_H → Prop), okB S j → okB S 5 → p ≤ e → e ≤ (bl S j).length → (bl S j).length ≤ 2000 → k < 256 → S.1 3 = nI c → 2 * c ≤ p → (∀ S2, Kst (hchk (okH t) k (slice (bl S j) p e)) c S S2 → Q (some (.int (hres p (hchk (okH t) k (slice (bl S j) p e))))) (hp S2)) → sm_V N d mm_K_holderEnd 1 2 [.ref (11 + 2 * j), .int (nI p), .int (nI e), .int (nI k), .int (nI (17 - t))] (hp S) Q)
    {q e c : Nat} (hw : okB S j) (hw5 : okB S 5) (hd : 4 ≤ d) (hq : q < e) (he : e ≤ (bl S j).length) (hl : (bl S j).length ≤ 2000) (hz : zf (bl S j) (q + 1) < e) (hc : S.1 3 = nI c) (hc2 : 2 * c ≤ zf (bl S j) (q + 1) + 1)
    (hQ : ∀ S2, Kst (vchk (okH t) ((bl S j).getD q 0) (slice (bl S j) (zf (bl S j) (q + 1) + 1) e)) c S S2 → Q (some (.int (hres (zf (bl S j) (q + 1) + 1) (vchk (okH t) ((bl S j).getD q 0) (slice (bl S j) (zf (bl S j) (q + 1) + 1) e))))) (hp S2)) :
    sm_V N (d + 1) mm_K_checkedEnd 1 2 [.ref (11 + 2 * j), .int (nI q), .int (nI e), .int (nI (16 - t))] (hp S) Q := by
  have hz1 := zf_le (l := bl S j) (p := q + 1) (by omega)
  have hb := bl_lt S j q
  obtain ⟨d4, rfl⟩ : ∃ d4, d = d4 + 4 := ⟨d - 4, by omega⟩
  have hsl := slice_len (l := bl S j) (a := zf (bl S j) (q + 1) + 1) he
  have hsub : nI e - nI (zf (bl S j) (q + 1) + 1) = nI (e - (zf (bl S j) (q + 1) + 1)) := pk_sub (by omega)
  have hQ0 := hQ S (Kst_rf hw5 hc)
  have w172 : ∀ k, k = (bl S j).getD q 0 → (k = 3 ∨ k = 4) → sm_W N (d4 + 4 + 1) mm_K_checkedEnd 172 [(0, .ref 2), (1, .ref (11 + 2 * j)), (3, .int (nI e)), (4, .int (nI (16 - t))), (5, .int (nI (zf (bl S j) (q + 1) + 1))), (7, .int (nI k))] [] (hp S) Q := by
    intro k hk h34
    have hv : ∀ r, vchk (okH t) k r = hchk (okH t) k r := by
      intro r
      unfold vchk
      rw [if_neg (by omega), if_neg (by omega), if_neg (by omega), if_neg (by omega), if_neg (by omega), if_pos h34]
    rw [← hk, hv] at hQ
    refine kK_checkedEnd_172 ?_
    unfold fK_checkedEnd_172
    rw [nI_1, show 16 - t + 1 = 17 - t by omega]
    exact H S _ e k c _ hw hw5 (by omega) he hl (by omega) hc hc2 (fun S2 h2 => ⟨_, rfl, hQ S2 h2⟩)
  refine cK_checkedEnd (hk_2 S) (sB_valueStart hj hw (by omega) ⟨_, rfl, sB_atn hj hw (by omega) ⟨_, rfl, fun c => ?_, fun c => ?_, fun c => ?_, fun c => ?_, fun c => ?_, fun c => ?_, fun c => ?_, fun c => ?_⟩⟩)
  · rw [nI_eql (by omega) (by omega)] at c
    rw [show (bl S j).getD q 0 = 2 from c] at hQ0
    exact sK_text hj hw (by omega) he ⟨_, rfl, hQ0⟩
  · rw [nI_eql (by omega) (by omega)] at c
    exact w172 _ rfl (Or.inl c)
  · rw [nI_eql (by omega) (by omega)] at c
    exact w172 _ rfl (Or.inr c)
  · rw [nI_eql (by omega) (by omega)] at c
    rw [show (bl S j).getD q 0 = 8 from c] at hQ0
    rw [hsub]
    have hbv := bl_lt S j (zf (bl S j) (q + 1) + 1)
    refine ⟨fun c2 => ?_, fun c2 => ?_⟩
    · rw [nI_ltl (by omega) (by omega)] at c2
      rw [show vchk (okH t) 8 (slice (bl S j) (zf (bl S j) (q + 1) + 1) e) = none by
        show (if 1 ≤ (slice (bl S j) (zf (bl S j) (q + 1) + 1) e).length ∧ _ then some 1 else none) = none
        rw [if_neg (by rw [hsl]; omega)]] at hQ0
      exact hQ0
    · rw [nI_ltl (by omega) (by omega)] at c2
      have hv : vchk (okH t) 8 (slice (bl S j) (zf (bl S j) (q + 1) + 1) e) = if (bl S j).getD (zf (bl S j) (q + 1) + 1) 0 ≤ 1 then some 1 else none := by
        show (if 1 ≤ (slice (bl S j) (zf (bl S j) (q + 1) + 1) e).length ∧ (slice (bl S j) (zf (bl S j) (q + 1) + 1) e).getD 0 0 ≤ 1 then some 1 else none) = _
        rw [hsl, sl_getD (by omega), Nat.add_zero]
        by_cases g : (bl S j).getD (zf (bl S j) (q + 1) + 1) 0 ≤ 1
        · rw [if_pos ⟨by omega, g⟩, if_pos g]
        · rw [if_neg (fun z => g z.2), if_neg g]
      rw [hv] at hQ0
      refine sB_atn hj hw (by omega) ⟨_, rfl, fun c3 => ?_, fun c3 => ?_⟩
      · rw [nI_gtl (by omega) (by omega)] at c3
        rw [if_neg (by omega)] at hQ0
        exact hQ0
      · rw [nI_gtl (by omega) (by omega)] at c3
        rw [if_pos (by omega)] at hQ0
        rw [nI_1]
        exact hQ0
  · rw [nI_eql (by omega) (by omega)] at c
    rw [show (bl S j).getD q 0 = 10 from c] at hQ0
    exact hQ0
  · rw [nI_eql (by omega) (by omega)] at c
    rw [show (bl S j).getD q 0 = 16 from c] at hQ0
    rw [hsub]
    refine ⟨fun c2 => ?_, fun c2 => ?_⟩
    · rw [nI_ltl (by omega) (by omega)] at c2
      rw [show vchk (okH t) 16 (slice (bl S j) (zf (bl S j) (q + 1) + 1) e) = none by
        show (if 4 ≤ (slice (bl S j) (zf (bl S j) (q + 1) + 1) e).length then some 4 else none) = none
        rw [if_neg (by rw [hsl]; omega)]] at hQ0
      exact hQ0
    · rw [nI_ltl (by omega) (by omega)] at c2
      rw [show vchk (okH t) 16 (slice (bl S j) (zf (bl S j) (q + 1) + 1) e) = some 4 by
        show (if 4 ≤ (slice (bl S j) (zf (bl S j) (q + 1) + 1) e).length then some 4 else none) = some 4
        rw [if_pos (by rw [hsl]; omega)]] at hQ0
      rw [nI_al]
      exact hQ0
  · rw [nI_eql (by omega) (by omega)] at c
    rw [show (bl S j).getD q 0 = 18 from c] at hQ0
    rw [hsub]
    refine ⟨fun c2 => ?_, fun c2 => ?_⟩
    · rw [nI_ltl (by omega) (by omega)] at c2
      rw [show vchk (okH t) 18 (slice (bl S j) (zf (bl S j) (q + 1) + 1) e) = none by
        show (if 8 ≤ (slice (bl S j) (zf (bl S j) (q + 1) + 1) e).length then some 8 else none) = none
        rw [if_neg (by rw [hsl]; omega)]] at hQ0
      exact hQ0
    · rw [nI_ltl (by omega) (by omega)] at c2
      rw [show vchk (okH t) 18 (slice (bl S j) (zf (bl S j) (q + 1) + 1) e) = some 8 by
        show (if 8 ≤ (slice (bl S j) (zf (bl S j) (q + 1) + 1) e).length then some 8 else none) = some 8
        rw [if_pos (by rw [hsl]; omega)]] at hQ0
      rw [nI_al]
      exact hQ0
  · simp (disch := omega) only [nI_eql] at c
    rw [show vchk (okH t) ((bl S j).getD q 0) (slice (bl S j) (zf (bl S j) (q + 1) + 1) e) = none by
      unfold vchk
      rw [if_neg c.2.2.2.2.2.1, if_neg c.2.2.2.2.2.2, if_neg c.2.2.2.1, if_neg c.2.2.2.2.1, if_neg c.1, if_neg (fun z => z.elim c.2.1 c.2.2.1)]] at hQ0
    exact hQ0
end Chk2
