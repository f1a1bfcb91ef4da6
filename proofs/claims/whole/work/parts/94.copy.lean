/-! the reference: copy, for every two ints -/
section Cp2
variable {S : sT} {N d : Nat} {Q : Option Value → sm_H → Prop}
theorem sM_copy {x y : Int32} (hs : okSt S) (hsl : okSl S) (h0 : ¬ (0 ≤ x.toInt ∧ x.toInt < 4 ∧ 0 ≤ y.toInt ∧ y.toInt < 4) → Q (some (.int 0)) (hp S)) (h1 : ∀ r s, r < 4 → s < 4 → x = nI r → y = nI s → ∀ T, eqS (cpL (stl S) (2000 * r) (2000 * s) (u4 (stl S) (2000 * s))) S T → Q (some (.int 1)) (hp T)) : sm_V N (d + 3) mm_M_copy 5 33 [.int x, .int y] (hp S) Q := by
  by_cases hx : 0 ≤ x.toInt ∧ x.toInt < 4
  · by_cases hy : 0 ≤ y.toInt ∧ y.toInt < 4
    · obtain ⟨r, hr, rfl⟩ := nat_of (s := x) (m := 4) hx.1 (by omega) (by omega)
      obtain ⟨s, hs4, rfl⟩ := nat_of (s := y) (m := 4) hy.1 (by omega) (by omega)
      exact sM_copy0 hs hr hs4 rfl (hsl s hs4).1 (h1 r s hr hs4 rfl rfl)
    · have hq := h0 (fun z => hy z.2.2)
      refine cM_copy (hk_33 S) (sM_isSlot ⟨_, rfl, fun _ => hq, fun _ => sM_isSlot ⟨_, rfl, fun _ => hq, fun c => ?_⟩⟩)
      rw [if_neg hy] at c
      exact absurd rfl c
  · have hq := h0 (fun z => hx ⟨z.1, z.2.1⟩)
    refine cM_copy (hk_33 S) (sM_isSlot ⟨_, rfl, fun _ => hq, fun c => ?_⟩)
    rw [if_neg hx] at c
    exact absurd rfl c
end Cp2
