/-! the reference's load: the loop -/
def sOwnH (S S2 : sT) (i : Nat) : Prop := S2.2.1 18 i = S.2.1 18 i ∧ S2.2.2 i = S.2.2 i ∧ S2.2.1 21 i = S.2.1 21 i ∧ S2.2.1 22 i = S.2.1 22 i ∧ S2.2.1 19 i = S.2.1 19 i ∧ S2.2.1 20 i = S.2.1 20 i
theorem sOwnH_rf (S : sT) (i : Nat) : sOwnH S S i := ⟨rfl, rfl, rfl, rfl, rfl, rfl⟩
theorem sOwnH_tr {S S1 S2 : sT} {i : Nat} (h1 : sOwnH S S1 i) (h2 : sOwnH S1 S2 i) : sOwnH S S2 i := by
  obtain ⟨a1, a2, a3, a4, a5, a6⟩ := h1
  obtain ⟨b1, b2, b3, b4, b5, b6⟩ := h2
  exact ⟨b1.trans a1, b2.trans a2, b3.trans a3, b4.trans a4, b5.trans a5, b6.trans a6⟩
theorem sOwn_H {S S2 : sT} {i : Nat} (h : sOwn S S2 i) : sOwnH S S2 i := ⟨h.1, h.2.1, h.2.2.1, h.2.2.2.1, h.2.2.2.2.2.2.1, h.2.2.2.2.2.2.2⟩
/-- what the loop leaves as it was: below the node count n, the holder H and its children ks aside -/
def lqP (S S2 : sT) (o n n2 H : Nat) (ks : List Nat) : Prop := frL S S2 ∧ n ≤ n2 ∧ S2.1 19 = nI n2 ∧ (∀ j, j ≤ o → S2.2.1 26 j = S.2.1 26 j ∧ S2.2.1 27 j = S.2.1 27 j) ∧ (∀ i, i < n → i ≠ H → sOwn S S2 i) ∧ sOwnH S S2 H ∧ (∀ i, i < n → i ∉ ks → S2.2.1 24 i = S.2.1 24 i)
theorem lqP_mid {S S1 S2 : sT} {o n n1 n2 H : Nat} {ks : List Nat} (h : lqP S S1 o n n1 H ks) (hH : H < n) (hf : frL S1 S2) (h19 : S2.1 19 = nI n2) (hn : n1 ≤ n2) (hsc : ∀ j, j ≤ o → S2.2.1 26 j = S1.2.1 26 j ∧ S2.2.1 27 j = S1.2.1 27 j) (ho : ∀ i, i < n → sOwn S1 S2 i) (hx : ∀ i, i < n → S2.2.1 24 i = S1.2.1 24 i) : lqP S S2 o n n2 H ks := by
  obtain ⟨a1, a2, a3, a4, a5, a6, a7⟩ := h
  exact ⟨frL_tr a1 hf, by omega, h19, fun j hj => ⟨(hsc j hj).1.trans (a4 j hj).1, (hsc j hj).2.trans (a4 j hj).2⟩, fun i hi hiH => sOwn_tr (a5 i hi hiH) (ho i hi), sOwnH_tr a6 (sOwn_H (ho H hH)), fun i hi hik => (hx i hi).trans (a7 i hi hik)⟩
theorem lqP_nw {S : sT} {o n H : Nat} {ks : List Nat} {b a c : Int32} (hH : H < n) : lqP S (nwS S n b a c H ks) o n (n + 1) H ks := by
  have hHn : H ≠ n := by omega
  refine ⟨nw_fr, by omega, nw_19, fun j _ => ⟨by rw [nw_sc (by omega)], by rw [nw_sc (by omega)]⟩, fun i hi hiH => nw_own (by omega) hiH, ⟨?_, ?_, ?_, ?_, ?_, ?_⟩, fun i hi hik => nw_24 (by omega) hik⟩
  · rw [nw_18, pk_un hHn]
  · rw [nw_L, pk_uLn hHn]
  · rw [nw_21, pk_un hHn]
  · rw [nw_22, pk_un hHn]
  · rw [nw_19a, pk_un hHn, pk_un hHn]
  · rw [nw_20, pk_un hHn, pk_un hHn]
theorem Kids_fr {S S2 : sT} {p : Nat} {ks : List Nat} (h1 : S2.2.1 23 p = S.2.1 23 p) (h2 : S2.2.1 25 p = S.2.1 25 p) (h3 : ∀ q ∈ ks, S2.2.1 24 q = S.2.1 24 q) (h : Kids S p ks) : Kids S2 p ks := ⟨by rw [h1]; exact Ch_frame h3 h.1, by rw [h2]; exact h.2⟩
/-- what the loop brings: new children -/
def lqG (t : Nat) (S S2 : sT) (o n n2 H kH : Nat) (ks ks2 : List Nat) (es2 : List El) (fp2 raw : List Nat) : Prop := lqP S S2 o n n2 H ks ∧ Kids S2 H (ks ++ ks2) ∧ RL (RV t S2) S2 kH ks.length ks2 es2 fp2 ∧ (∀ q ∈ fp2, n ≤ q ∧ q < n2) ∧ fp2.Nodup ∧ encs es2 = raw ∧ n2 ≤ n + raw.length
theorem lqG_cons {t : Nat} {S S1 S2 : sT} {o n n1 n2 H kH b : Nat} {ks ks2 : List Nat} {es2 : List El} {f1 fp2 raw rw1 nm : List Nat} (h : lqP S S1 o n n1 H ks) (hn : n + 1 ≤ n1) (hH : H < n) (hks : ∀ q ∈ ks, q < n) (hnm : if kH = 4 then nm = dg ks.length else NmN S1 n nm) (hnz : ∀ b ∈ nm, b ≠ 0) (hv : RV t S1 n b rw1 f1) (hf : ∀ q ∈ f1, n ≤ q ∧ q < n1) (hfn : f1.Nodup) (hl : n1 ≤ n + (enc1 (b, nm, rw1)).length) (g : lqG t S1 S2 o n1 n2 H kH (ks ++ [n]) ks2 es2 fp2 raw) : lqG t S S2 o n n2 H kH ks (n :: ks2) ((b, nm, rw1) :: es2) (f1 ++ fp2) (enc1 (b, nm, rw1) ++ raw) := by
  obtain ⟨a1, a2, a3, a4, a5, a6, a7⟩ := h
  obtain ⟨⟨b1, b2, b3, b4, b5, b6, b7⟩, g2, g3, g4, g5, g6, g7⟩ := g
  have hst := frL_st b1
  refine ⟨⟨frL_tr a1 b1, by omega, b3, fun j hj => ⟨(b4 j hj).1.trans (a4 j hj).1, (b4 j hj).2.trans (a4 j hj).2⟩, fun i hi hiH => sOwn_tr (a5 i hi hiH) (b5 i (by omega) hiH), sOwnH_tr a6 b6, fun i hi hik => (b7 i (by omega) ?_).trans (a7 i hi hik)⟩, ?_, ?_, ?_, ?_, ?_, ?_⟩
  · intro hc
    rcases List.mem_append.mp hc with hc | hc
    · exact hik hc
    · have : i = n := by simpa using hc
      omega
  · rw [List.append_assoc] at g2
    exact g2
  · refine ⟨f1, fp2, rfl, ?_, hnz, ?_, ?_⟩
    · split
      · rename_i c; rw [if_pos c] at hnm; exact hnm
      · rename_i c; rw [if_neg c] at hnm; exact NmN_frame (b5 n (by omega) (by omega)) hst hnm
    · refine RV_frame hst hfn (fun i hi => b5 i (hf i hi).2 (by have := hf i hi; omega)) (fun i hi hin => b7 i (hf i hi).2 (fun hc => ?_)) hv
      have := hf i hi
      rcases List.mem_append.mp hc with hc | hc
      · have := hks i hc
        omega
      · exact hin (by simpa using hc)
    · rw [List.length_append] at g3
      exact g3
  · intro q hq
    rcases List.mem_append.mp hq with hq | hq
    · have := hf q hq
      omega
    · have := g4 q hq
      omega
  · refine List.nodup_append.mpr ⟨hfn, g5, fun a ha c hc hac => ?_⟩
    have := hf a ha
    have := g4 c hc
    omega
  · rw [encs_cons, g6]
  · rw [List.length_append]
    omega
theorem enc_sl {l : List Nat} {x z m E : Nat} (hx : x < z) (hz : z < E) (hE : E ≤ l.length) (h0 : l.getD z 0 = 0) (hm : z + 1 + m ≤ E) : slice l x E = enc1 (l.getD x 0, slice l (x + 1) z, slice l (z + 1) (z + 1 + m)) ++ slice l (z + 1 + m) E := by
  rw [sl_cons (by omega) hE, enc1]
  show _ = l.getD x 0 :: (_ ++ _ :: _) ++ _
  have e1 : slice l (x + 1) E = slice l (x + 1) z ++ slice l z E := (sl_app (by omega) (by omega)).symm
  have e2 : slice l z E = 0 :: slice l (z + 1) E := by rw [sl_cons (by omega) hE, h0]
  have e3 : slice l (z + 1) E = slice l (z + 1) (z + 1 + m) ++ slice l (z + 1 + m) E := (sl_app (by omega) (by omega)).symm
  rw [e1, e2, e3]
  simp
theorem encD_sl {l : List Nat} {p m : Nat} {es : List El} (hl : p + m ≤ l.length) (hb : ∀ k, l.getD k 0 < 256) (hm : m = u4 l p) (h5 : 5 ≤ m) (h0 : l.getD (p + m - 1) 0 = 0) (he : encs es = slice l (p + 4) (p + m - 1)) : slice l p (p + m) = encD es := by
  have e0 : slice l (p + m - 1) (p + m) = [0] := by
    rw [sl_cons (by omega) hl, sl_nil (by omega), h0]
  rw [encD, he, slice_len (by omega), show 5 + (p + m - 1 - (p + 4)) = u4 l p by omega, le4_u4 (by omega) hb, ← e0, sl_app (by omega) (by omega), sl_app (by omega) (by omega)]
theorem okE_sl {ph : Nat → List Nat → Bool} {k f x E : Nat} {seen : List (List Nat)} {l : List Nat} (hx : x < E) (hE : E ≤ l.length) : okE ph k (f + 1) seen (slice l x E) = if zf l (x + 1) < E then (rt (slice l (x + 1) (zf l (x + 1))) && (nmOK k seen (slice l (x + 1) (zf l (x + 1))) && (match vchk ph (l.getD x 0) (slice l (zf l (x + 1) + 1) E) with
      | none => false
      | some n => okE ph k f (seen ++ [slice l (x + 1) (zf l (x + 1))]) (slice l (zf l (x + 1) + 1 + n) E)))) else false := by
  rw [sl_cons hx hE, okE_cons, spl_zf (by omega) hE]
  by_cases c : zf l (x + 1) < E
  · rw [if_pos c, if_pos c]
    simp only [sl_drop]
    rfl
  · rw [if_neg c, if_neg c]
