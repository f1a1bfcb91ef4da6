/-! Bytes: valueEnd, lastOf, countElements, longAt, numberOf, putInt, becomeDigits -/
theorem bl_lt (S : sT) (j k : Nat) : (bl S j).getD k 0 < 256 := by
  rw [List.getD_eq_getElem?_getD]
  cases h : (bl S j)[k]? with
  | none => decide
  | some b => exact bytesOf_lt (List.mem_of_getElem? h)
theorem u4_lt (S : sT) (j k : Nat) : u4 (bl S j) k < 4294967296 := by
  have h1 := bl_lt S j k
  have h2 := bl_lt S j (k + 1)
  have h3 := bl_lt S j (k + 2)
  have h4 := bl_lt S j (k + 3)
  unfold u4
  omega
section BSpecs5
variable {S : sT} {j N d : Nat} {Q : Option Value → sm_H → Prop}
theorem sB_valueEnd {k : Nat} (hj : j < 11) (hw : okB S j) (hk : k + 1 ≤ (bl S j).length) (hv : ((bl S j).getD k 0 = 2 ∨ (bl S j).getD k 0 = 3 ∨ (bl S j).getD k 0 = 4) → zf (bl S j) (k + 1) + 5 ≤ (bl S j).length) (hQ : Q (some (.int (nI (ve (bl S j) k)))) (hp S)) : sm_V N (d + 2) mm_B_valueEnd 0 (11 + 2 * j) [.int (nI k)] (hp S) Q := by
  have hlen := bl_lenB hw
  have hc := caps_le j
  have hz := zf_le hk
  have hb := bl_lt S j k
  refine cB_valueEnd (hb_k S hj) (sB_valueStart hj hw hk ⟨_, rfl, sB_atn hj hw (by omega) ⟨_, rfl, ?_⟩⟩)
  rw [ve] at hQ
  have i4e : zf (bl S j) (k + 1) + 5 ≤ (bl S j).length → i4 (bl S j) (zf (bl S j) (k + 1) + 1) = nI (u4 ((bl S j).drop (zf (bl S j) (k + 1) + 1)) 0) := by
    intro h
    rw [i4, if_pos (by omega), u4_drop, Nat.add_zero]
  have w3 : ((bl S j).getD k 0 = 3 ∨ (bl S j).getD k 0 = 4) → sm_W N (d + 2) mm_B_valueEnd 115 [(0, .ref (11 + 2 * j)), (2, .int (nI (zf (bl S j) (k + 1) + 1)))] [] (hp S) Q := by
    intro c
    refine kB_valueEnd_115 (sB_intAt hj hw (by omega) ⟨_, rfl, ?_⟩)
    rw [i4e (hv (Or.inr c)), nI_add]
    rcases c with c | c <;> (rw [c] at hQ; exact hQ)
  refine ⟨fun c => ?_, fun c => ?_, fun c => ?_, fun c => ?_, fun c => ?_, fun c => ?_, fun c => ?_⟩
  · rw [nI_eql (by omega) (by omega)] at c
    refine sB_intAt hj hw (by omega) ⟨_, rfl, ?_⟩
    rw [i4e (hv (Or.inl c)), nI_al, nI_add]
    rw [c] at hQ
    simp only [vlen, ← Nat.add_assoc] at hQ
    exact hQ
  · rw [nI_eql (by omega) (by omega)] at c
    exact w3 (Or.inl c)
  · rw [nI_eql (by omega) (by omega)] at c
    exact w3 (Or.inr c)
  · rw [nI_eql (by omega) (by omega)] at c
    rw [nI_al]
    rw [c] at hQ
    exact hQ
  · rw [nI_eql (by omega) (by omega)] at c
    rw [nI_al]
    rw [c] at hQ
    exact hQ
  · rw [nI_eql (by omega) (by omega)] at c
    rw [nI_al]
    rw [c] at hQ
    exact hQ
  · rw [nI_eql (by omega) (by omega), nI_eql (by omega) (by omega), nI_eql (by omega) (by omega), nI_eql (by omega) (by omega), nI_eql (by omega) (by omega), nI_eql (by omega) (by omega)] at c
    have e : vlen ((bl S j).getD k 0) ((bl S j).drop (zf (bl S j) (k + 1) + 1)) = 0 := by
      generalize (bl S j).getD k 0 = b at c
      unfold vlen
      split <;> simp_all
    rw [e] at hQ
    exact hQ
/-- the place of a holder's last byte -/
theorem sB_lastOf {k : Nat} (hj : j < 11) (hw : okB S j) (hk : k + 4 ≤ (bl S j).length) (h1 : 1 ≤ u4 (bl S j) k) (hQ : Q (some (.int (nI (k + u4 (bl S j) k - 1)))) (hp S)) : sm_V N (d + 2) mm_B_lastOf 0 (11 + 2 * j) [.int (nI k)] (hp S) Q := by
  have hlen := bl_lenB hw
  have hc := caps_le j
  refine cB_lastOf (hb_k S hj) (sB_intAt hj hw (by omega) ⟨_, rfl, ?_⟩)
  rw [i4, if_pos hk, nI_add, nI_sl (show 1 ≤ _ by omega)]
  exact hQ
/-- a document's or row's elements, counted -/
theorem sB_count {A B : List Nat} {es : List El} (hj : j < 11) (hw : okB S j) (hl : bl S j = A ++ (encD es ++ B)) (he : ∀ e ∈ es, wfE e) (hQ : Q (some (.int (nI es.length))) (hp S)) : sm_V N (d + 3) mm_B_countElements 0 (11 + 2 * j) [.int (nI A.length)] (hp S) Q := by
  have hlen := bl_lenB hw
  have hc := caps_le j
  have hl2 := congrArg List.length hl
  simp only [List.length_append, encD_len] at hl2
  have hu : u4 (bl S j) A.length = 5 + (encs es).length := by
    rw [hl, u4_app_r (l := A) (k := 0) (p := A.length) rfl]
    exact u4_encD (by omega) B
  have esl : ∀ (es : List El), 2 * es.length ≤ (encs es).length := by
    intro es
    induction es with
    | nil => simp [encs]
    | cons e es ih =>
      rw [encs_cons, List.length_append, enc1_len, List.length_cons]
      omega
  have key : ∀ (fs : List El) (gs : List El), gs ++ fs = es → sm_W N (d + 2 + 1) mm_B_countElements 13 [(0, .ref (11 + 2 * j)), (2, .int (nI (A.length + (5 + (encs es).length) - 1))), (3, .int (nI (A.length + 4 + (encs gs).length))), (4, .int (nI gs.length))] [] (hp S) Q := by
    intro fs
    induction fs with
    | nil =>
      intro gs h
      rw [List.append_nil] at h
      subst h
      obtain ⟨n, hn, hl1, hf⟩ := hw
      refine kB_countElements_13 ⟨_, hb_g1 S hj, fun _ => hQ, fun _ => ⟨fun _ => hQ, fun c => ?_⟩⟩
      exact absurd ((nI_leI (by omega) (by omega)).mpr (by omega)) c
    | cons e fs ih =>
      intro gs h
      have hes : (encs es).length = (encs gs).length + ((enc1 e).length + (encs fs).length) := by
        rw [← h, encs_app, encs_cons]; simp
      have hee := enc1_len e
      have wfe : wfE e := he e (by rw [← h]; simp)
      have pos : bl S j = (A ++ (le4 (5 + (encs es).length) ++ encs gs)) ++ (enc1 e ++ (encs fs ++ ([0] ++ B))) := by
        rw [hl, encD, ← h, encs_app, encs_cons]
        simp
      have hA : A.length + 4 + (encs gs).length = (A ++ (le4 (5 + (encs es).length) ++ encs gs)).length := by simp [le4_len]; omega
      have e1 := at_kind (e := e) (B := encs fs ++ ([0] ++ B)) hA
      have e2 := at_zf (e := e) (B := encs fs ++ ([0] ++ B)) hA wfe
      have e3 := at_ve (e := e) (B := encs fs ++ ([0] ++ B)) hA wfe
      rw [← pos] at e1 e2 e3
      have sl := esl es
      have hgl := congrArg List.length h
      simp only [List.length_append, List.length_cons] at hgl
      obtain ⟨n, hn, hl1, hf⟩ := id hw
      have hnl := bl_len hn hl1
      refine kB_countElements_13 ⟨_, hb_g1 S hj, fun c => ?_, fun _ => ⟨fun c => ?_, fun _ => ?_⟩⟩
      · rw [hl1] at c
        exact absurd ((nI_leI (by omega) (by omega)).mp c) (by omega)
      · exact absurd ((nI_leI (by omega) (by omega)).mp c) (by omega)
      · refine sB_valueEnd hj hw (by omega) (fun c => ?_) ⟨_, rfl, ?_⟩
        · rw [e1] at c
          have := wfe.2.2 c
          omega
        · rw [e3]
          have := ih (gs ++ [e]) (by simp [h])
          have t1 : A.length + 4 + (encs (gs ++ [e])).length = A.length + 4 + (encs gs).length + (enc1 e).length := by rw [encs_app]; simp [encs_cons, encs_nil]; omega
          have t2 : (gs ++ [e]).length = gs.length + 1 := by simp
          rw [t1, t2] at this
          rw [nI_1]
          exact this
  refine cB_countElements (hb_k S hj) (sB_lastOf hj hw (by omega) (by omega) ⟨_, rfl, ?_⟩)
  rw [hu, nI_al]
  exact key es [] rfl
end BSpecs5
