/-! the reference: isNamed, isAdd, operator -/
theorem ls4 {l : List Nat} (h : l.length = 4) : l = [l.getD 0 0, l.getD 1 0, l.getD 2 0, l.getD 3 0] := by
  match l, h with
  | [a, b, c, e], _ => rfl
theorem ls5 {l : List Nat} (h : l.length = 5) : l = [l.getD 0 0, l.getD 1 0, l.getD 2 0, l.getD 3 0, l.getD 4 0] := by
  match l, h with
  | [a, b, c, e, f], _ => rfl
theorem ls6 {l : List Nat} (h : l.length = 6) : l = [l.getD 0 0, l.getD 1 0, l.getD 2 0, l.getD 3 0, l.getD 4 0, l.getD 5 0] := by
  match l, h with
  | [a, b, c, e, f, g], _ => rfl
theorem ls9 {l : List Nat} (h : l.length = 9) : l = [l.getD 0 0, l.getD 1 0, l.getD 2 0, l.getD 3 0, l.getD 4 0, l.getD 5 0, l.getD 6 0, l.getD 7 0, l.getD 8 0] := by
  match l, h with
  | [a, b, c, e, f, g, i, j, k], _ => rfl
section Op
variable {S : sT} {N d : Nat} {Q : Option Value → sm_H → Prop}
/-- the letters one by one -/
def tgtN (a b c x y : Nat) : List Nat := if y = 0 then (if x = 0 then [36, a, b, c] else [36, a, b, c, x]) else [36, a, b, c, x, y]
theorem sM_isNamed {n a b c x y : Nat} {nm : List Nat} (hn : n < 6000) (hN : NmN S n nm) (ha : a < 256) (hb : b < 256) (hc : c < 256) (hx : x < 256) (hy : y < 256) (hxy : x = 0 → y = 0) (hQ : Q (some (.int (if nm = tgtN a b c x y then 1 else 0))) (hp S)) : sm_V N (d + 2) mm_M_isNamed 5 33 [.int (nI n), .int (nI a), .int (nI b), .int (nI c), .int (nI x), .int (nI y)] (hp S) Q := by
  obtain ⟨p, h19, h20, hpl, hsl⟩ := hN
  have hg : ∀ i, i < nm.length → (stl S).getD (p + i) 0 = nm.getD i 0 := by
    intro i hi
    have := sl_getD (l := stl S) (a := p) (b := p + nm.length) (k := i) (by omega)
    rw [hsl] at this
    exact this.symm
  have hl256 : ∀ i, nm.getD i 0 < 256 := by
    intro i
    by_cases hi : i < nm.length
    · rw [← hg i hi]; exact stl_lt S _
    · rw [List.getD_eq_getElem?_getD, List.getElem?_eq_none (by omega)]; exact (by decide : 0 < 256)
  have Q0 : ¬ nm = tgtN a b c x y → Q (some (.int 0)) (hp S) := fun h => by rw [if_neg h] at hQ; exact hQ
  have Q1 : nm = tgtN a b c x y → Q (some (.int 1)) (hp S) := fun h => by rw [if_pos h] at hQ; exact hQ
  have t0 : (tgtN a b c x y).getD 0 0 = 36 ∧ (tgtN a b c x y).getD 1 0 = a ∧ (tgtN a b c x y).getD 2 0 = b ∧ (tgtN a b c x y).getD 3 0 = c := by
    unfold tgtN
    repeat' split
    all_goals exact ⟨rfl, rfl, rfl, rfl⟩
  have w95 : ∀ z : Int32, (z = 0 → ¬ nm = tgtN a b c x y) → (¬ z = 0 → nm.length = (if y = 0 then (if x = 0 then 3 else 4) else 5) + 1 ∧ nm.getD 0 0 = 36 ∧ nm.getD 1 0 = a ∧ nm.getD 2 0 = b ∧ nm.getD 3 0 = c) → sm_W N (d + 1 + 1) mm_M_isNamed 95 [(0, .ref 33), (5, .int (nI x)), (6, .int (nI y)), (7, .int (nI p))] [.int z] (hp S) Q := by
    intro z z0 z1
    refine kM_isNamed_95 ⟨fun e => Q0 (z0 e), fun e => ?_⟩
    obtain ⟨hl, g0, g1, g2, g3⟩ := z1 e
    refine ⟨fun e2 => ?_, fun e2 => ?_⟩
    · rw [nI_eql (by omega) (by omega)] at e2
      have hx0 : x = 0 := e2
      have hy0 := hxy hx0
      rw [if_pos hy0, if_pos hx0] at hl
      refine kM_isNamed_120 ⟨fun _ => kM_isNamed_138 (Q1 ?_), fun e3 => absurd (by rw [hy0]; rfl) e3⟩
      rw [tgtN, if_pos hy0, if_pos hx0, ls4 hl, g0, g1, g2, g3]
    · rw [nI_eql (by omega) (by omega)] at e2
      have hx0 : x ≠ 0 := e2
      rw [nI_al]
      have hl5 : 5 ≤ nm.length := by rw [hl]; split <;> simp [hx0]
      refine sM_at (by omega) ⟨_, rfl, fun e3 => ?_, fun e3 => Q0 (fun h => e3 ?_)⟩
      · rw [nI_eq (by have := stl_lt S (p + 4); omega) (by omega), hg 4 (by omega)] at e3
        refine kM_isNamed_120 ⟨fun e4 => ?_, fun e4 => ?_⟩
        · rw [nI_eql (by omega) (by omega)] at e4
          have hy0 : y = 0 := e4
          rw [if_pos hy0, if_neg hx0] at hl
          refine kM_isNamed_138 (Q1 ?_)
          rw [tgtN, if_pos hy0, if_neg hx0, ls5 hl, g0, g1, g2, g3, e3]
        · rw [nI_eql (by omega) (by omega)] at e4
          have hy0 : y ≠ 0 := e4
          rw [if_neg hy0] at hl
          rw [nI_al]
          refine sM_at (by omega) ⟨_, rfl, fun e5 => ?_, fun e5 => Q0 (fun h => e5 ?_)⟩
          · rw [nI_eq (by have := stl_lt S (p + 5); omega) (by omega), hg 5 (by omega)] at e5
            refine kM_isNamed_138 (Q1 ?_)
            rw [tgtN, if_neg hy0, ls6 hl, g0, g1, g2, g3, e3, e5]
          · rw [hg 5 (by omega), h, tgtN, if_neg hy0]
            rfl
      · rw [hg 4 (by omega), h, tgtN]
        split
        · rfl
        · rfl
  have w27 : ∀ k : Nat, k = (if y = 0 then (if x = 0 then 3 else 4) else 5) → sm_W N (d + 1 + 1) mm_M_isNamed 27 [(0, .ref 33), (1, .int (nI n)), (2, .int (nI a)), (3, .int (nI b)), (4, .int (nI c)), (5, .int (nI x)), (6, .int (nI y)), (7, .int (nI p))] [.int (nI k)] (hp S) Q := by
    intro k hk
    have hk5 : k ≤ 5 ∧ 3 ≤ k := by rw [hk]; repeat' split
                                   all_goals omega
    have tl : (tgtN a b c x y).length = k + 1 := by
      rw [hk, tgtN]
      repeat' split
      all_goals rfl
    have b94 : ¬ nm = tgtN a b c x y → sm_W N (d + 1 + 1) mm_M_isNamed 94 [(0, .ref 33), (5, .int (nI x)), (6, .int (nI y)), (7, .int (nI p))] [] (hp S) Q := fun h => kM_isNamed_94 (w95 0 (fun _ => h) (fun z => absurd rfl z))
    refine kM_isNamed_27 ⟨_, hg_33_9 S, _, (hq_r S hn).2.2.1, ?_⟩
    rw [h20, nI_1]
    refine ⟨fun e => ?_, fun e => b94 (fun h => e (by rw [h, tl]))⟩
    rw [nI_eq (by omega) (by omega)] at e
    refine sM_at (by omega) ⟨_, rfl, fun e0 => ?_, fun e0 => b94 (fun h => e0 ?_)⟩
    · rw [nI_eql (by have := stl_lt S p; omega) (by omega)] at e0
      have q0 := hg 0 (by omega)
      rw [Nat.add_zero, e0] at q0
      rw [nI_1]
      refine sM_at (by omega) ⟨_, rfl, fun e1 => ?_, fun e1 => b94 (fun h => e1 ?_)⟩
      · rw [nI_eq (by have := stl_lt S (p + 1); omega) (by omega), hg 1 (by omega)] at e1
        rw [nI_al]
        refine sM_at (by omega) ⟨_, rfl, fun e2 => ?_, fun e2 => b94 (fun h => e2 ?_)⟩
        · rw [nI_eq (by have := stl_lt S (p + 2); omega) (by omega), hg 2 (by omega)] at e2
          rw [nI_al]
          refine sM_at (by omega) ⟨_, rfl, fun e3 => ?_, fun e3 => b94 (fun h => e3 ?_)⟩
          · rw [nI_eq (by have := stl_lt S (p + 3); omega) (by omega), hg 3 (by omega)] at e3
            exact w95 1 (fun z => absurd z (by decide)) (fun _ => ⟨by rw [e, hk], q0.symm, e1, e2, e3⟩)
          · rw [hg 3 (by omega), h, t0.2.2.2]
        · rw [hg 2 (by omega), h, t0.2.2.1]
      · rw [hg 1 (by omega), h, t0.2.1]
    · have q0 := hg 0 (by omega)
      rw [Nat.add_zero] at q0
      rw [q0, h, t0.1]
      rfl
  refine cM_isNamed (hk_33 S) ⟨_, hg_33_8 S, _, (hq_r S hn).2.1, ?_⟩
  rw [h19]
  refine ⟨fun e => ⟨fun e2 => ?_, fun e2 => ?_⟩, fun e => ?_⟩
  · rw [nI_lel (by omega) (by omega)] at e e2
    exact w27 3 (by rw [if_pos (by omega), if_pos (by omega)])
  · rw [nI_lel (by omega) (by omega)] at e e2
    exact w27 4 (by rw [if_pos (by omega), if_neg (fun z => e2 (by omega))])
  · rw [nI_lel (by omega) (by omega)] at e
    exact w27 5 (by rw [if_neg (fun z => e (by omega))])
end Op
