/-! the reference's load: the loop over elements and open holders -/
theorem le4_u4 {l : List Nat} {p : Nat} (hl : p + 4 ≤ l.length) (hb : ∀ k, l.getD k 0 < 256) : le4 (u4 l p) = slice l p (p + 4) := by
  have b0 := hb p
  have b1 := hb (p + 1)
  have b2 := hb (p + 2)
  have b3 := hb (p + 3)
  rw [sl_cons (by omega) (by omega), sl_cons (by omega) (by omega), sl_cons (by omega) (by omega), sl_cons (by omega) (by omega), sl_nil (by omega)]
  have e2 : l.getD (p + 1 + 1) 0 = l.getD (p + 2) 0 := rfl
  have e3 : l.getD (p + 1 + 1 + 1) 0 = l.getD (p + 3) 0 := rfl
  simp only [le4, u4, List.cons.injEq, and_true]
  refine ⟨by omega, by omega, by omega, by omega⟩
theorem sl_lt {S : sT} {a b x : Nat} (h : x ∈ slice (stl S) a b) : x < 256 := by
  have : x ∈ stl S := List.mem_of_mem_drop (List.mem_of_mem_take h)
  exact bytesOf_lt this
theorem hchk_some {ph : Nat → List Nat → Bool} {k n : Nat} {r : List Nat} (h : hchk ph k r = some n) : n = u4 r 0 ∧ 5 ≤ r.length ∧ 5 ≤ n ∧ n ≤ r.length ∧ ph k (r.take n) = true := by
  unfold hchk at h
  split at h
  · rename_i c
    cases h
    exact ⟨rfl, c.1, c.2.1, c.2.2.1, c.2.2.2⟩
  · cases h
/-- a leaf's node behind 'value' -/
theorem RV_leaf {S : sT} {ph : Nat → List Nat → Bool} {t n k p e m : Nat} (hn : n < 6000) (hk : S.2.1 18 n = nI k) (hk2 : k = 2 ∨ k = 8 ∨ k = 10 ∨ k = 16 ∨ k = 18) (h23 : S.2.1 23 n = -1) (h0 : S.2.2 n = 0) (hpe : p ≤ e) (he : e ≤ 14000) (hv : vchk ph k (slice (stl S) p e) = some m) : RV t (vS S n k p m) n k (slice (stl S) p (p + m)) [n] := by
  have hm : m ≤ e - p := vchk_le hv (slice_len (by rw [stl_len]; omega))
  have hsl : (slice (stl S) p (p + m)).length = m := by rw [slice_len (by rw [stl_len]; omega)]; omega
  have hsl2 : (slice (stl S) p e).length = e - p := slice_len (by rw [stl_len]; omega)
  have lf : leafV (vS S n k p m) n k (slice (stl S) p (p + m)) := by
    have h23' : (vS S n k p m).2.1 23 n = -1 := by unfold vS; split <;> exact h23
    refine ⟨h23', ?_⟩
    rcases hk2 with rfl | rfl | rfl | rfl | rfl
    · refine Or.inr (Or.inr (Or.inr (Or.inr ⟨rfl, ?_⟩)))
      have hv2 : tchk (slice (stl S) p e) = some m := hv
      unfold tchk at hv2
      split at hv2
      · rename_i c
        obtain ⟨c1, c2, c3, c4, c5⟩ := c
        rw [hsl2] at c1 c3
        have hu : u4 (slice (stl S) p e) 0 = u4 (stl S) p := by rw [sl_u4 (by omega)]; rfl
        rw [hu] at hv2 c2 c3 c4 c5
        have hmm := Option.some.inj hv2
        subst hmm
        refine ⟨p + 4, slice (stl S) (p + 4) (p + 3 + u4 (stl S) p), ?_, ?_, ?_, ?_, ?_, ?_⟩
        · rw [slice_len (by rw [stl_len]; omega), show p + 3 + u4 (stl S) p - (p + 4) + 1 = u4 (stl S) p by omega, le4_u4 (by rw [stl_len]; omega) (stl_lt S)]
          have e0 : [0] = slice (stl S) (p + 3 + u4 (stl S) p) (p + (4 + u4 (stl S) p)) := by
            rw [sl_cons (by omega) (by rw [stl_len]; omega), sl_nil (by omega)]
            rw [sl_getD (by omega), show p + (3 + u4 (stl S) p) = p + 3 + u4 (stl S) p by omega] at c4
            rw [c4]
          rw [e0, sl_app (by omega) (by omega), sl_app (by omega) (by omega)]
        · simp [vS, sA, va_up, upd]
        · rw [slice_len (by rw [stl_len]; omega)]
          simp only [vS, if_pos]
          show upd _ n _ n = _
          rw [pk_us]
          exact congrArg nI (by omega)
        · rw [slice_len (by rw [stl_len]; omega)]; omega
        · rw [slice_len (by rw [stl_len]; omega)]
          have : stl (vS S n 2 p (4 + u4 (stl S) p)) = stl S := by simp [vS, stl, sA, va_up]
          rw [this, show p + 4 + (p + 3 + u4 (stl S) p - (p + 4)) = p + 3 + u4 (stl S) p by omega]
        · rw [sl_sl (by omega), ← Nat.add_assoc] at c5
          exact c5
      · cases hv2
    · refine Or.inr (Or.inr (Or.inl ⟨rfl, ?_, ?_⟩))
      · have hv2 : (if 1 ≤ (slice (stl S) p e).length ∧ (slice (stl S) p e).getD 0 0 ≤ 1 then some 1 else none) = some m := hv
        split at hv2
        · rename_i c
          cases hv2
          rw [sl_getD (by omega)] at c
          refine ⟨(stl S).getD p 0, c.2, ?_⟩
          rw [sl_cons (by omega) (by rw [stl_len]; omega), sl_nil (by omega)]
        · cases hv2
      · show vp_updL _ n _ n = _
        rw [pk_uLs]
    · refine Or.inr (Or.inr (Or.inr (Or.inl ⟨rfl, ?_, ?_⟩)))
      · have hv2 : some 0 = some m := hv
        cases hv2
        exact sl_nil (by omega)
      · show vp_updL _ n _ n = _
        rw [pk_uLs]
        rfl
    · refine Or.inl ⟨rfl, ?_, ?_⟩
      · have hv2 : (if 4 ≤ (slice (stl S) p e).length then some 4 else none) = some m := hv
        split at hv2
        · cases hv2; exact hsl
        · cases hv2
      · show vp_updL _ n _ n = _
        rw [pk_uLs]
    · refine Or.inr (Or.inl ⟨rfl, ?_, ?_⟩)
      · have hv2 : (if 8 ≤ (slice (stl S) p e).length then some 8 else none) = some m := hv
        split at hv2
        · cases hv2; exact hsl
        · cases hv2
      · show vp_updL _ n _ n = _
        rw [pk_uLs]
  have hk' : (vS S n k p m).2.1 18 n = nI k := by unfold vS; split <;> exact hk
  cases t with
  | zero => exact ⟨hn, hk', fun b hb => sl_lt hb, rfl, lf⟩
  | succ t => exact ⟨hn, hk', fun b hb => sl_lt hb, Or.inl ⟨rfl, lf⟩⟩
theorem vS_fr {S : sT} {n k p m : Nat} : frL S (vS S n k p m) := by
  refine ⟨fun j _ => ?_, fun j hj => ?_⟩
  · unfold vS; split <;> rfl
  · unfold vS
    split
    · have h1 : j ≠ 22 := by omega
      have h2 : j ≠ 21 := by omega
      simp [sA, va_up, h1, h2]
    · rfl
theorem vS_19 {S : sT} {n k p m : Nat} : (vS S n k p m).1 = S.1 := by unfold vS; split <;> rfl
theorem vS_sc {S : sT} {n k p m j : Nat} (h1 : j ≠ 21) (h2 : j ≠ 22) : (vS S n k p m).2.1 j = S.2.1 j := by
  unfold vS
  split
  · simp [sA, va_up, h1, h2]
  · rfl
theorem vS_own {S : sT} {n k p m i : Nat} (hi : i ≠ n) : sOwn S (vS S n k p m) i := by
  have g : ∀ j, j ≠ 21 → j ≠ 22 → (vS S n k p m).2.1 j i = S.2.1 j i := fun j h1 h2 => by rw [vS_sc h1 h2]
  refine ⟨g 18 (by omega) (by omega), ?_, ?_, ?_, g 23 (by omega) (by omega), g 25 (by omega) (by omega), g 19 (by omega) (by omega), g 20 (by omega) (by omega)⟩
  · unfold vS
    split
    · rfl
    · exact pk_uLn hi
  · unfold vS
    split
    · simp [sA, va_up, upd, hi]
    · rfl
  · unfold vS
    split
    · simp [sA, va_up, upd, hi]
    · rfl
section Load
variable {N : Nat}
/-- what the loop of load looks for: the end of a name -/
theorem ld94 {S : sT} {d : Nat} {Q : Option Value → sm_H → Prop} {x E z : Nat} {r o hh : Int32} (hs : okSt S) (hE : E ≤ 14000) (hx : x + 1 ≤ E) (hz : z = if zf (stl S) (x + 1) < E then zf (stl S) (x + 1) else E)
    (hW : sm_W N (d + 1) mm_M_load 117 [(0, .ref 33), (3, .int r), (4, .int o), (5, .int (nI x)), (6, .int hh), (7, .int (nI E)), (8, .int (nI z))] [] (hp S) Q) : sm_W N (d + 1) mm_M_load 94 [(0, .ref 33), (3, .int r), (4, .int o), (5, .int (nI x)), (6, .int hh), (7, .int (nI E)), (8, .int (nI x + 1))] [] (hp S) Q := by
  have hlen := stl_len S
  have key : ∀ (m y : Nat), y + m = E → zf (stl S) y = zf (stl S) (x + 1) → sm_W N (d + 1) mm_M_load 94 [(0, .ref 33), (3, .int r), (4, .int o), (5, .int (nI x)), (6, .int hh), (7, .int (nI E)), (8, .int (nI y))] [] (hp S) Q := by
    intro m
    induction m with
    | zero =>
      intro y hy hzy
      have : y = E := by omega
      subst this
      have h1 := zf_le (l := stl S) (p := y) (by omega)
      rw [if_neg (by omega)] at hz
      subst hz
      exact kM_load_94 ⟨fun _ => hW, fun c => absurd ((nI_leI (by omega) (by omega)).mpr (Nat.le_refl _)) c⟩
    | succ m ih =>
      intro y hy hzy
      refine kM_load_94 ⟨fun c => absurd ((nI_leI (by omega) (by omega)).mp c) (by omega), fun _ => ⟨_, hg_33_1 S, _, hm_r S (by omega), fun c => ?_, fun c => ?_⟩⟩
      · rw [z0_ub (hs _), ← stl_get (by omega)] at c
        rw [← hzy, zf_hit (by omega) c, if_pos (by omega)] at hz
        subst hz
        exact hW
      · rw [z0_ub (hs _), ← stl_get (by omega)] at c
        rw [zf_skip (by omega) c] at hzy
        rw [nI_1]
        exact ih (y + 1) (by omega) hzy
  rw [nI_1]
  exact key (E - (x + 1)) (x + 1) (by omega) rfl
end Load
