/-! the reference's load: one element, and the loop -/
theorem numF_lt : ∀ (cs : List Nat) (v c : Nat), v ≤ 100000009 → numF v cs = some c → c ≤ 100000009 := by
  intro cs
  induction cs with
  | nil => intro v c hv h; have : some v = some c := h; cases this; exact hv
  | cons a cs ih =>
    intro v c hv h
    obtain ⟨h1, h2, h3, h4⟩ := numF_c h
    exact ih _ c (by omega) h4
theorem nres_eq {m : List Nat} {c : Nat} (hc : c < 100000) : nres (numA m) = nI c ↔ m = dg c := by
  rw [← numA_dg hc]
  cases h : numA m with
  | none =>
    simp only [nres]
    rw [ti_eq, nI_t (by omega)]
    constructor
    · intro z
      have : (-1 : Int32).toInt = -1 := rfl
      omega
    · intro z; cases z
  | some v =>
    simp only [nres]
    have hv : v ≤ 100000009 := by
      unfold numA at h
      split at h
      · cases h
      · rename_i w hw
        split at h
        · cases h
        · cases h; exact numF_lt _ _ _ (by omega) hw
    rw [nI_eq (by omega) (by omega)]
    simp
section LoadE
variable {N : Nat}
set_option maxHeartbeats 4000000 in
theorem ld_el {S : sT} {d : Nat} {Q : Option Value → sm_H → Prop} {o x E n H kH : Nat} {r : Int32} {ks : List Nat} {seen : List (List Nat)} (hs : okSt S) (ho : o < 16) (h26 : S.2.1 26 o = nI H) (h27 : S.2.1 27 o = nI E) (hx : x < E) (hE : E ≤ 14000) (hH : H < 6000) (hkH : S.2.1 18 H = nI kH) (hkH2 : kH = 3 ∨ kH = 4) (hn : n < 6000) (h19 : S.1 19 = nI n) (hK : Kids S H ks) (hA : ANm S ks seen) (hnk : n ∉ ks) (hnH : n ≠ H) (hkl : ks.length < 100000)
    (h0 : ¬ (((stl S).getD x 0 = 2 ∨ (stl S).getD x 0 = 3 ∨ (stl S).getD x 0 = 4 ∨ (stl S).getD x 0 = 8 ∨ (stl S).getD x 0 = 10 ∨ (stl S).getD x 0 = 16 ∨ (stl S).getD x 0 = 18) ∧ zf (stl S) (x + 1) < E ∧ rt (slice (stl S) (x + 1) (zf (stl S) (x + 1))) = true ∧ nmOK kH seen (slice (stl S) (x + 1) (zf (stl S) (x + 1))) = true) → Q (some (.int (-1))) (hp S))
    (h1 : ((stl S).getD x 0 = 3 ∨ (stl S).getD x 0 = 4) → zf (stl S) (x + 1) < E → rt (slice (stl S) (x + 1) (zf (stl S) (x + 1))) = true → nmOK kH seen (slice (stl S) (x + 1) (zf (stl S) (x + 1))) = true → sm_W N (d + 4 + 1) mm_M_load 307 [(0, .ref 33), (3, .int r), (4, .int (nI (o + 1))), (7, .int (nI E)), (8, .int (nI (zf (stl S) (x + 1)))), (11, .int (nI n))] [] (hp (nwS S n (nI ((stl S).getD x 0)) (nI (x + 1)) (nI (zf (stl S) (x + 1) - x - 1)) H ks)) Q)
    (h2 : ((stl S).getD x 0 = 2 ∨ (stl S).getD x 0 = 8 ∨ (stl S).getD x 0 = 10 ∨ (stl S).getD x 0 = 16 ∨ (stl S).getD x 0 = 18) → zf (stl S) (x + 1) < E → rt (slice (stl S) (x + 1) (zf (stl S) (x + 1))) = true → nmOK kH seen (slice (stl S) (x + 1) (zf (stl S) (x + 1))) = true → sm_V N (d + 4) mm_M_value 5 33 [.int (nI n), .int (nI (zf (stl S) (x + 1) + 1)), .int (nI E)] (hp (nwS S n (nI ((stl S).getD x 0)) (nI (x + 1)) (nI (zf (stl S) (x + 1) - x - 1)) H ks)) (fun r18 h17 => ∃ z19 : Int32, r18 = some (.int z19) ∧ ((0 ≤ z19 → sm_W N (d + 4 + 1) mm_M_load 359 [(0, .ref 33), (3, .int r), (4, .int (nI (o + 1))), (5, .int z19)] [] h17 Q) ∧ (¬ 0 ≤ z19 → Q (some (.int (-1))) h17)))) :
    sm_W N (d + 4 + 1) mm_M_load 45 [(0, .ref 33), (3, .int r), (4, .int (nI (o + 1))), (5, .int (nI x))] [] (hp S) Q := by
  have e1 : nI (o + 1) - 1 = nI o := by rw [nI_sl (show 1 ≤ o + 1 by omega)]; rfl
  have hb := stl_lt S x
  have hlen := stl_len S
  have hzl := zf_le (l := stl S) (p := x + 1) (by omega)
  generalize hbv : (stl S).getD x 0 = b at *
  generalize hzv : zf (stl S) (x + 1) = z at *
  refine kM_load_45 ⟨fun c => ?_, fun _ => ?_⟩
  · rw [nI_lel (by omega) (by omega)] at c
    omega
  · rw [e1]
    refine ⟨_, hg_33_16 S, _, (hs_r S (by omega)).1, _, hg_33_17 S, _, (hs_r S (by omega)).2.1, ?_⟩
    rw [h26, h27]
    refine ⟨fun c => ?_, fun _ => ?_⟩
    · rw [nI_eq (by omega) (by omega)] at c
      omega
    · refine ld94 (d := d + 4) (z := if z < E then z else E) hs hE (by omega) (by rw [hzv]) ?_
      refine kM_load_117 (sM_at (by omega) ⟨_, rfl, sM_isKind (by rw [hbv]; omega) ⟨_, rfl, fun c => ?_, fun c => ⟨fun c2 => ?_, fun c2 => ?_⟩⟩⟩)
      · rw [hbv] at c
        refine h0 (fun z => ?_)
        rw [if_pos z.1] at c
        exact absurd c (by decide)
      · by_cases cz : z < E
        · rw [if_pos cz, nI_leI (by omega) (by omega)] at c2
          omega
        · exact h0 (fun y => cz y.2.1)
      · by_cases cz : z < E
        · rw [if_pos cz] at c2 ⊢
          have kd : b = 2 ∨ b = 3 ∨ b = 4 ∨ b = 8 ∨ b = 10 ∨ b = 16 ∨ b = 18 := by
            rw [hbv] at c
            by_cases y : b = 2 ∨ b = 3 ∨ b = 4 ∨ b = 8 ∨ b = 10 ∨ b = 16 ∨ b = 18
            · exact y
            · rw [if_neg y] at c; exact absurd rfl c
          rw [nI_1]
          refine sM_isText (by omega) (by omega) ⟨_, rfl, fun c3 => ?_, fun c3 => ⟨_, hg_33_7 S, _, (hq_r S hH).1, ?_⟩⟩
          · refine h0 (fun y => ?_)
            rw [if_pos y.2.2.1] at c3
            exact absurd c3 (by decide)
          · have hrt : rt (slice (stl S) (x + 1) z) = true := by
              by_cases y : rt (slice (stl S) (x + 1) z) = true
              · exact y
              · rw [if_neg y] at c3; exact absurd rfl c3
            have e2 : (nI z - nI x) - 1 = nI (z - x - 1) := by rw [pk_sub (by omega), nI_sl (show 1 ≤ z - x by omega)]
            have e3 : x + 1 + (z - x - 1) = z := by omega
            have w231 : ∀ y : Int32, (y = 0 → ¬ nmOK kH seen (slice (stl S) (x + 1) z) = true) → (¬ y = 0 → nmOK kH seen (slice (stl S) (x + 1) z) = true) → sm_W N (d + 4 + 1) mm_M_load 231 [(0, .ref 33), (3, .int r), (4, .int (nI (o + 1))), (5, .int (nI x)), (6, .int (nI H)), (7, .int (nI E)), (8, .int (nI z))] [.int y] (hp S) Q := by
              intro y y0 y1
              refine kM_load_231 ⟨fun c4 => h0 (fun w => y0 c4 w.2.2.2), fun c4 => sM_at (by omega) ⟨_, rfl, sM_make hn h19 ⟨_, rfl, _, hg_33_8 _, _, (hq_w _ hn _).2.1, _, hg_33_9 _, _, (hq_w _ hn _).2.2.1, ?_⟩⟩⟩
              rw [e2, nI_1, hbv]
              have hK2 : Kids (sA (sA (mkN S n (nI b)) 19 (upd ((mkN S n (nI b)).2.1 19) n (nI (x + 1)))) 20 (upd ((sA (mkN S n (nI b)) 19 (upd ((mkN S n (nI b)).2.1 19) n (nI (x + 1)))).2.1 20) n (nI (z - x - 1)))) H ks := by
                refine ⟨?_, ?_⟩
                · show Ch _ ((mkN S n (nI b)).2.1 23 H) ks
                  rw [mkN_23, pk_un (Ne.symm hnH)]
                  refine Ch_frame (fun q hq => ?_) hK.1
                  show (mkN S n (nI b)).2.1 24 q = _
                  rw [mkN_24, pk_un (show q ≠ n from fun z => hnk (z ▸ hq))]
                · show (mkN S n (nI b)).2.1 25 H = _
                  rw [mkN_25, pk_un (Ne.symm hnH)]
                  exact hK.2
              refine sM_append hH hn hK2 hnk ⟨rfl, _, hg_33_7 _, _, (hq_r _ hn).1, ?_⟩
              have h18 : (nwS S n (nI b) (nI (x + 1)) (nI (z - x - 1)) H ks).2.1 18 n = nI b := by rw [nw_18, pk_us]
              have h18' := h18
              unfold nwS at h18'
              rw [h18']
              refine ⟨fun c5 => ?_, fun c5 => ⟨_, hg_33_7 _, _, (hq_r _ hn).1, ?_⟩⟩
              · rw [nI_eql (by omega) (by omega)] at c5
                exact h1 (Or.inl c5) cz hrt (y1 c4)
              · rw [h18']
                refine ⟨fun c6 => ?_, fun c6 => ?_⟩
                · rw [nI_eql (by omega) (by omega)] at c6
                  exact h1 (Or.inr c6) cz hrt (y1 c4)
                · rw [nI_eql (by omega) (by omega)] at c5 c6
                  rw [nI_1]
                  exact h2 (by omega) cz hrt (y1 c4)
            rw [hkH]
            refine ⟨fun c4 => ?_, fun c4 => ?_⟩
            · rw [nI_eql (by omega) (by omega)] at c4
              refine kM_load_167 ⟨fun y => absurd y (by decide), fun _ => ?_⟩
              rw [e2, nI_1]
              refine sM_numberAt (d := d + 2) (by omega) ⟨_, rfl, sM_countOf (d := d + 3) hH hK.1 hkl ⟨_, rfl, fun c5 => ?_, fun c5 => ?_⟩⟩
              · rw [e3, nres_eq hkl] at c5
                refine w231 1 (fun y => absurd y (by decide)) (fun _ => ?_)
                rw [nmOK, if_pos c4, ← ANm_len hA]
                exact decide_eq_true c5
              · rw [e3, nres_eq hkl] at c5
                refine w231 0 (fun _ y => ?_) (fun y => absurd rfl y)
                rw [nmOK, if_pos c4, ← ANm_len hA] at y
                exact c5 (of_decide_eq_true y)
            · rw [nI_eql (by omega) (by omega)] at c4
              refine kM_load_167 ⟨fun _ => ?_, fun y => absurd rfl y⟩
              rw [e2, nI_1]
              refine sM_named (d := d + 2) hs hH hK.1 hA (by omega) ⟨_, rfl, fun c5 => ?_, fun c5 => ?_⟩
              · rw [e3, fnd_ge (Ch_lt hK.1) hA] at c5
                refine w231 0 (fun _ y => ?_) (fun y => absurd rfl y)
                rw [nmOK, if_neg c4] at y
                rcases c5 with c5 | c5
                · exact absurd c5 (by decide)
                · exact of_decide_eq_true y c5
              · rw [e3, fnd_ge (Ch_lt hK.1) hA] at c5
                refine w231 1 (fun y => absurd y (by decide)) (fun _ => ?_)
                rw [nmOK, if_neg c4]
                exact decide_eq_true (fun y => c5 (Or.inr y))
        · rw [if_neg cz, nI_leI (by omega) (by omega)] at c2
          omega
end LoadE
