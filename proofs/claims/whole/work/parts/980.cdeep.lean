/-! the class: how deep, whether same -/
section Dp
variable {S : sT} {N j : Nat}
theorem dp_25 {t D d last : Nat} {Q : Option Value → sm_H → Prop} (hj : j < 11) (hw : okB S j) (hD : D + t ≤ 40) (hrec : ∀ (A B : List Nat) (k : Nat) (raw : List Nat) (Q2 : Option Value → sm_H → Prop), (k = 3 ∨ k = 4) → VD t k raw → bl S j = A ++ (raw ++ B) → Q2 (some (.int (nI (D + dep t k raw)))) (hp S) → sm_T N (d + 2) mm_D_deepest [.ref (11 + 2 * j), .int (nI A.length), .int (nI (D + 1))] (hp S) Q2) : ∀ (fs : List El) (X Y : List Nat) (m n : Nat), bl S j = X ++ (encs fs ++ Y) → X.length + (encs fs).length = last → n ≤ X.length → m ≤ 40 → (∀ e ∈ fs, wfE e ∧ VD t e.1 e.2.2 ∧ dep t e.1 e.2.2 ≤ 40) → Q (some (.int (nI (D + max m (mxl (fs.map (fun e => dep t e.1 e.2.2))))))) (hp S) →
    sm_W N (d + 2 + 1) mm_D_deepest 25 [(0, .ref (11 + 2 * j)), (2, .int (nI D)), (3, .int (nI (D + m))), (4, .int (nI last)), (5, .int (nI X.length)), (6, .int (nI n))] [] (hp S) Q := by
  have hlen := bl_lenB hw
  have hc := caps_le j
  intro fs
  induction fs with
  | nil =>
    intro X Y m n hl hlast hn hm he hQ
    have hl2 := congrArg List.length hl
    simp only [encs_nil, List.length_append, List.length_nil] at hl2 hlast
    have hQ2 : Q (some (.int (nI (D + m)))) (hp S) := by
      have : max m (mxl ([].map (fun e : El => dep t e.1 e.2.2))) = m := by show max m 0 = m; omega
      rw [this] at hQ
      exact hQ
    exact kD_deepest_25 ⟨_, hb_g1 S hj, fun _ => hQ2, fun _ => ⟨fun _ => hQ2, fun c => absurd ((nI_leI (by omega) (by omega)).mpr (by omega)) c⟩⟩
  | cons e fs ih =>
    intro X Y m n hl hlast hn hm he hQ
    obtain ⟨we, ve, de⟩ := he e List.mem_cons_self
    have hl1 : bl S j = X ++ (enc1 e ++ (encs fs ++ Y)) := by rw [hl, encs_cons, List.append_assoc]
    have hl3 : bl S j = (X ++ enc1 e) ++ (encs fs ++ Y) := by rw [hl1, List.append_assoc]
    have hb := eB_len hw hl1
    rw [List.length_append] at hb
    have hek := VD_k ve
    rw [encs_cons, List.length_append] at hlast
    have hee := enc1_len e
    rw [List.map_cons, mxl] at hQ
    have hlb : S.1 (30 + j) = nI (bl S j).length := by
      obtain ⟨nn, h1, h2, h3⟩ := hw
      rw [h2, bl_len h1 h2]
    -- the next element
    have w71 : ∀ m2, m2 ≤ 40 → max m2 (mxl (fs.map (fun e => dep t e.1 e.2.2))) = max m (max (dep t e.1 e.2.2) (mxl (fs.map (fun e => dep t e.1 e.2.2)))) → sm_W N (d + 2 + 1) mm_D_deepest 71 [(0, .ref (11 + 2 * j)), (2, .int (nI D)), (3, .int (nI (D + m2))), (4, .int (nI last)), (5, .int (nI X.length)), (6, .int (nI n))] [] (hp S) Q := by
      intro m2 hm2 hmx
      refine kD_deepest_71 (eB_ve hj hw hl1 we ⟨_, rfl, ?_⟩)
      rw [nI_1]
      refine ih (X ++ enc1 e) Y m2 (n + 1) hl3 (by rw [List.length_append]; omega) (by rw [List.length_append]; omega) hm2 (fun x hx => he x (List.mem_cons_of_mem _ hx)) ?_
      rw [hmx]
      exact hQ
    refine kD_deepest_25 ⟨_, hb_g1 S hj, fun c => ?_, fun _ => ⟨fun c => ?_, fun _ => ?_⟩⟩
    · rw [hlb, nI_leI (by omega) (by omega)] at c
      omega
    · rw [nI_leI (by omega) (by omega)] at c
      omega
    · refine eB_kind (d := d + 1) hj hw hl1 ⟨_, rfl, sD_isHolder (d := d + 1) hek ⟨_, rfl, fun c => ?_, fun c => ?_⟩⟩
      · have hk : ¬ (e.1 = 3 ∨ e.1 = 4) := fun z => by
          rw [if_pos z] at c
          exact absurd c (by decide)
        refine w71 m hm ?_
        rw [dep_l hk]
        omega
      · have hk : e.1 = 3 ∨ e.1 = 4 := by
          by_cases z : e.1 = 3 ∨ e.1 = 4
          · exact z
          · rw [if_neg z] at c
            exact absurd rfl c
        refine eB_vs (d := d + 1) hj hw hl1 we ⟨_, rfl, ?_⟩
        have hl4 : bl S j = (X ++ (e.1 :: (e.2.1 ++ [0]))) ++ (e.2.2 ++ (encs fs ++ Y)) := by rw [hl1]; simp [enc1]
        have hlA : X.length + 2 + e.2.1.length = (X ++ (e.1 :: (e.2.1 ++ [0]))).length := by simp; omega
        rw [hlA, nI_1]
        refine hrec _ _ e.1 e.2.2 _ hk ve hl4 ⟨_, rfl, ?_⟩
        have hif : (if nI (D + m) < nI (D + dep t e.1 e.2.2) then nI (D + dep t e.1 e.2.2) else nI (D + m)) = nI (D + max m (dep t e.1 e.2.2)) := by
          by_cases z : D + m < D + dep t e.1 e.2.2
          · rw [if_pos ((nI_ltI (by omega) (by omega)).mpr z), Nat.max_eq_right (by omega)]
          · rw [if_neg (fun y => z ((nI_ltI (by omega) (by omega)).mp y)), Nat.max_eq_left (by omega)]
        rw [hif]
        exact w71 _ (by omega) (by omega)
theorem sD_deep (hj : j < 11) (hw : okB S j) : ∀ (t d D : Nat) (A B : List Nat) (k : Nat) (raw : List Nat) (Q : Option Value → sm_H → Prop), (k = 3 ∨ k = 4) → D + t ≤ 39 → VD t k raw → bl S j = A ++ (raw ++ B) → Q (some (.int (nI (D + dep t k raw)))) (hp S) → sm_T N (d + t + 2) mm_D_deepest [.ref (11 + 2 * j), .int (nI A.length), .int (nI (D + 1))] (hp S) Q := by
  have hlen := bl_lenB hw
  have hc := caps_le j
  intro t
  induction t with
  | zero => intro d D A B k raw Q hk _ hv; exact absurd hk (lfR_k hv.2).2
  | succ t ih =>
    intro d D A B k raw Q hk hD hv hl hQ
    rcases hv.2 with h | ⟨-, es, rfl, hn, hel⟩
    · exact absurd hk (lfR_k h).2
    · have hl2 := congrArg List.length hl
      simp only [List.length_append, encD_len] at hl2
      have hw2 : ∀ e ∈ es, wfE e := fun e he => by
        have := el_len he
        exact ⟨(hel e he).1, VD_wf (by omega) (hel e he).2.2⟩
      rw [dep_h hk hw2] at hQ
      have hlA : bl S j = (A ++ le4 (5 + (encs es).length)) ++ (encs es ++ ([0] ++ B)) := by rw [hl, encD]; simp
      refine cD_deepest ⟨fun _ => ?_, fun c => ?_⟩
      · refine eB_last (d := d + t) hj hw hl ⟨_, rfl, ?_⟩
        have e1 : nI A.length + 4 = nI (A ++ le4 (5 + (encs es).length)).length := by rw [nI_al, List.length_append, le4_len]
        rw [e1]
        refine dp_25 (D := D + 1) (d := d + t) hj hw (by omega) (fun A2 B2 k2 raw2 Q2 q1 q2 q3 q4 => ih d (D + 1) A2 B2 k2 raw2 Q2 q1 (by omega) q2 q3 q4) es _ _ 0 0 hlA (by rw [List.length_append, le4_len]) (by omega) (by omega) (fun e he => ⟨hw2 e he, (hel e he).2.2, by have := dep_le t e.1 e.2.2; omega⟩) ?_
        rw [show D + 1 + max 0 (mxl (es.map (fun e => dep t e.1 e.2.2))) = D + (1 + mxl (es.map (fun e => dep t e.1 e.2.2))) by omega]
        exact hQ
      · rw [nI_ltl (by omega) (by omega)] at c
        exact absurd (show D + 1 < 40 by omega) c
end Dp
