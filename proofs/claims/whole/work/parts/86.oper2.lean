/-! the reference: isAdd, operator -/
def addN : List Nat := [36, 97, 100, 100, 84, 111, 83, 101, 116]
/-- the operator that a name stands for, 0 for none -/
def opOf (nm : List Nat) : Nat := if nm = [36, 115, 101, 116] then 1 else if nm = [36, 117, 110, 115, 101, 116] then 2 else if nm = [36, 105, 110, 99] then 3 else if nm = [36, 112, 117, 115, 104] then 4 else if nm = [36, 112, 117, 108, 108] then 5 else if nm = addN then 6 else 0
section Op2
variable {S : sT} {N d : Nat} {Q : Option Value → sm_H → Prop}
theorem sM_isAdd {n : Nat} {nm : List Nat} (hn : n < 6000) (hN : NmN S n nm) (hQ : Q (some (.int (if nm = addN then 1 else 0))) (hp S)) : sm_V N (d + 2) mm_M_isAdd 5 33 [.int (nI n)] (hp S) Q := by
  obtain ⟨p, h19, h20, hpl, hsl⟩ := hN
  have hg : ∀ i, i < nm.length → (stl S).getD (p + i) 0 = nm.getD i 0 := by
    intro i hi
    have := sl_getD (l := stl S) (a := p) (b := p + nm.length) (k := i) (by omega)
    rw [hsl] at this
    exact this.symm
  have Q0 : ¬ nm = addN → Q (some (.int 0)) (hp S) := fun h => by rw [if_neg h] at hQ; exact hQ
  have Q1 : nm = addN → Q (some (.int 1)) (hp S) := fun h => by rw [if_pos h] at hQ; exact hQ
  refine cM_isAdd (hk_33 S) ⟨_, hg_33_8 S, _, (hq_r S hn).2.1, _, hg_33_9 S, _, (hq_r S hn).2.2.1, ?_⟩
  rw [h19, h20]
  refine ⟨fun e => ?_, fun e => Q0 (fun h => e (by rw [h]; rfl))⟩
  rw [nI_eql (by omega) (by omega)] at e
  have e9 : nm.length = 9 := e
  have q0 := hg 0 (by omega)
  rw [Nat.add_zero] at q0
  refine sM_at (by omega) ⟨_, rfl, fun e0 => ?_, fun e0 => Q0 (fun h => e0 (by rw [q0, h]; rfl))⟩
  rw [nI_eql (by have := stl_lt S p; omega) (by omega), q0] at e0
  rw [nI_al]
  refine sM_at (by omega) ⟨_, rfl, fun e1 => ?_, fun e1 => Q0 (fun h => e1 (by rw [hg 1 (by omega), h]; rfl))⟩
  rw [nI_eql (by have := stl_lt S (p + 1); omega) (by omega), hg 1 (by omega)] at e1
  rw [nI_al]
  refine sM_at (by omega) ⟨_, rfl, fun e2 => ?_, fun e2 => Q0 (fun h => e2 (by rw [hg 2 (by omega), h]; rfl))⟩
  rw [nI_eql (by have := stl_lt S (p + 2); omega) (by omega), hg 2 (by omega)] at e2
  rw [nI_al]
  refine sM_at (by omega) ⟨_, rfl, fun e3 => ?_, fun e3 => Q0 (fun h => e3 (by rw [hg 3 (by omega), h]; rfl))⟩
  rw [nI_eql (by have := stl_lt S (p + 3); omega) (by omega), hg 3 (by omega)] at e3
  rw [nI_al]
  refine sM_at (by omega) ⟨_, rfl, fun e4 => ?_, fun e4 => Q0 (fun h => e4 (by rw [hg 4 (by omega), h]; rfl))⟩
  rw [nI_eql (by have := stl_lt S (p + 4); omega) (by omega), hg 4 (by omega)] at e4
  rw [nI_al]
  refine sM_at (by omega) ⟨_, rfl, fun e5 => ?_, fun e5 => Q0 (fun h => e5 (by rw [hg 5 (by omega), h]; rfl))⟩
  rw [nI_eql (by have := stl_lt S (p + 5); omega) (by omega), hg 5 (by omega)] at e5
  rw [nI_al]
  refine sM_at (by omega) ⟨_, rfl, fun e6 => ?_, fun e6 => Q0 (fun h => e6 (by rw [hg 6 (by omega), h]; rfl))⟩
  rw [nI_eql (by have := stl_lt S (p + 6); omega) (by omega), hg 6 (by omega)] at e6
  rw [nI_al]
  refine sM_at (by omega) ⟨_, rfl, fun e7 => ?_, fun e7 => Q0 (fun h => e7 (by rw [hg 7 (by omega), h]; rfl))⟩
  rw [nI_eql (by have := stl_lt S (p + 7); omega) (by omega), hg 7 (by omega)] at e7
  rw [nI_al]
  refine sM_at (by omega) ⟨_, rfl, fun e8 => ?_, fun e8 => Q0 (fun h => e8 (by rw [hg 8 (by omega), h]; rfl))⟩
  rw [nI_eql (by have := stl_lt S (p + 8); omega) (by omega), hg 8 (by omega)] at e8
  refine Q1 ?_
  rw [ls9 e9, e0, e1, e2, e3, e4, e5, e6, e7, e8]
  rfl
theorem sM_operator {n : Nat} {nm : List Nat} (hn : n < 6000) (hN : NmN S n nm) (hQ : Q (some (.int (nI (opOf nm)))) (hp S)) : sm_V N (d + 3) mm_M_operator 5 33 [.int (nI n)] (hp S) Q := by
  unfold opOf at hQ
  refine cM_operator (hk_33 S) (sM_isNamed (a := 115) (b := 101) (c := 116) (x := 0) (y := 0) hn hN (by omega) (by omega) (by omega) (by omega) (by omega) (by omega) ⟨_, rfl, fun c1 => ?_, fun c1 => ?_⟩)
  · have n1 : ¬ nm = [36, 115, 101, 116] := fun h => by rw [if_pos (show nm = tgtN 115 101 116 0 0 from h)] at c1; exact absurd c1 (by decide)
    rw [if_neg n1] at hQ
    refine sM_isNamed (a := 117) (b := 110) (c := 115) (x := 101) (y := 116) hn hN (by omega) (by omega) (by omega) (by omega) (by omega) (by omega) ⟨_, rfl, fun c2 => ?_, fun c2 => ?_⟩
    · have n2 : ¬ nm = [36, 117, 110, 115, 101, 116] := fun h => by rw [if_pos (show nm = tgtN 117 110 115 101 116 from h)] at c2; exact absurd c2 (by decide)
      rw [if_neg n2] at hQ
      refine sM_isNamed (a := 105) (b := 110) (c := 99) (x := 0) (y := 0) hn hN (by omega) (by omega) (by omega) (by omega) (by omega) (by omega) ⟨_, rfl, fun c3 => ?_, fun c3 => ?_⟩
      · have n3 : ¬ nm = [36, 105, 110, 99] := fun h => by rw [if_pos (show nm = tgtN 105 110 99 0 0 from h)] at c3; exact absurd c3 (by decide)
        rw [if_neg n3] at hQ
        refine sM_isNamed (a := 112) (b := 117) (c := 115) (x := 104) (y := 0) hn hN (by omega) (by omega) (by omega) (by omega) (by omega) (by omega) ⟨_, rfl, fun c4 => ?_, fun c4 => ?_⟩
        · have n4 : ¬ nm = [36, 112, 117, 115, 104] := fun h => by rw [if_pos (show nm = tgtN 112 117 115 104 0 from h)] at c4; exact absurd c4 (by decide)
          rw [if_neg n4] at hQ
          refine sM_isNamed (a := 112) (b := 117) (c := 108) (x := 108) (y := 0) hn hN (by omega) (by omega) (by omega) (by omega) (by omega) (by omega) ⟨_, rfl, fun c5 => ?_, fun c5 => ?_⟩
          · have n5 : ¬ nm = [36, 112, 117, 108, 108] := fun h => by rw [if_pos (show nm = tgtN 112 117 108 108 0 from h)] at c5; exact absurd c5 (by decide)
            rw [if_neg n5] at hQ
            refine sM_isAdd hn hN ⟨_, rfl, fun c6 => ?_, fun c6 => ?_⟩
            · have n6 : ¬ nm = addN := fun h => by rw [if_pos h] at c6; exact absurd c6 (by decide)
              rw [if_neg n6] at hQ
              exact hQ
            · have n6 : nm = addN := by
                by_cases h : nm = addN
                · exact h
                · rw [if_neg h] at c6; exact absurd rfl c6
              rw [if_pos n6] at hQ
              exact hQ
          · have n5 : nm = [36, 112, 117, 108, 108] := by
              by_cases h : nm = tgtN 112 117 108 108 0
              · exact h
              · rw [if_neg h] at c5; exact absurd rfl c5
            rw [if_pos n5] at hQ
            exact hQ
        · have n4 : nm = [36, 112, 117, 115, 104] := by
            by_cases h : nm = tgtN 112 117 115 104 0
            · exact h
            · rw [if_neg h] at c4; exact absurd rfl c4
          rw [if_pos n4] at hQ
          exact hQ
      · have n3 : nm = [36, 105, 110, 99] := by
          by_cases h : nm = tgtN 105 110 99 0 0
          · exact h
          · rw [if_neg h] at c3; exact absurd rfl c3
        rw [if_pos n3] at hQ
        exact hQ
    · have n2 : nm = [36, 117, 110, 115, 101, 116] := by
        by_cases h : nm = tgtN 117 110 115 101 116
        · exact h
        · rw [if_neg h] at c2; exact absurd rfl c2
      rw [if_pos n2] at hQ
      exact hQ
  · have n1 : nm = [36, 115, 101, 116] := by
      by_cases h : nm = tgtN 115 101 116 0 0
      · exact h
      · rw [if_neg h] at c1; exact absurd rfl c1
    rw [if_pos n1] at hQ
    exact hQ
end Op2
