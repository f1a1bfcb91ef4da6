/-! the reference: begins, fail, name -/
/-- path a is path b, or b goes on behind it -/
def bgn (a b : List Nat) : Bool := decide (a.length ≤ b.length ∧ b.take a.length = a ∧ (a.length = b.length ∨ b.getD a.length 0 = 46))
section Bg
variable {S : sT} {N d : Nat} {Q : Option Value → sm_H → Prop}
theorem sM_begins {m n : Nat} {na nb : List Nat} (hs : okSt S) (hm : m < 6000) (hn : n < 6000) (hA : NmN S m na) (hB : NmN S n nb) (hQ : Q (some (.int (if bgn na nb then 1 else 0))) (hp S)) : sm_V N (d + 2) mm_M_begins 5 33 [.int (nI m), .int (nI n)] (hp S) Q := by
  obtain ⟨p, a1, a2, a3, a4⟩ := hA
  obtain ⟨q, b1, b2, b3, b4⟩ := hB
  have Q0 : ¬ (na.length ≤ nb.length ∧ nb.take na.length = na ∧ (na.length = nb.length ∨ nb.getD na.length 0 = 46)) → Q (some (.int 0)) (hp S) := fun h => by rw [bgn, if_neg (by simpa using h)] at hQ; exact hQ
  have Q1 : (na.length ≤ nb.length ∧ nb.take na.length = na ∧ (na.length = nb.length ∨ nb.getD na.length 0 = 46)) → Q (some (.int 1)) (hp S) := fun h => by rw [bgn, if_pos (by simpa using h)] at hQ; exact hQ
  refine cM_begins (hk_33 S) ⟨_, hg_33_9 S, _, (hq_r S hm).2.2.1, _, hg_33_9 S, _, (hq_r S hn).2.2.1, ?_⟩
  rw [a2, b2]
  refine ⟨fun c => Q0 (fun y => ?_), fun c => ⟨_, hg_33_8 S, _, (hq_r S hm).2.1, _, hg_33_9 S, _, (hq_r S hm).2.2.1, _, hg_33_8 S, _, (hq_r S hn).2.1, _, hg_33_9 S, _, (hq_r S hm).2.2.1, ?_⟩⟩
  · rw [nI_ltI (by omega) (by omega)] at c
    omega
  · rw [nI_ltI (by omega) (by omega)] at c
    have hle : na.length ≤ nb.length := by omega
    rw [a1, a2, b1]
    have htk : slice (stl S) q (q + na.length) = nb.take na.length := by rw [← sl_take (show q + na.length ≤ q + nb.length by omega), b4]
    refine sM_isAlike hs a3 (by omega) ⟨_, rfl, fun c2 => Q0 (fun y => ?_), fun c2 => ⟨_, hg_33_9 S, _, (hq_r S hm).2.2.1, _, hg_33_9 S, _, (hq_r S hn).2.2.1, ?_⟩⟩
    · rw [a4, htk, if_pos y.2.1.symm] at c2
      exact absurd c2 (by decide)
    · have heq : nb.take na.length = na := by
        by_cases h : na = nb.take na.length
        · exact h.symm
        · rw [a4, htk, if_neg h] at c2; exact absurd rfl c2
      rw [a2, b2]
      refine ⟨fun c3 => ?_, fun c3 => ⟨_, hg_33_8 S, _, (hq_r S hn).2.1, _, hg_33_9 S, _, (hq_r S hm).2.2.1, ?_⟩⟩
      · rw [nI_eq (by omega) (by omega)] at c3
        exact kM_begins_83 (Q1 ⟨hle, heq, Or.inl c3⟩)
      · rw [nI_eq (by omega) (by omega)] at c3
        rw [b1, a2, nI_add]
        have hg : (stl S).getD (q + na.length) 0 = nb.getD na.length 0 := by
          have := sl_getD (l := stl S) (a := q) (b := q + nb.length) (k := na.length) (by omega)
          rw [b4] at this
          exact this.symm
        refine sM_at (by omega) ⟨_, rfl, fun c4 => kM_begins_83 (Q1 ⟨hle, heq, Or.inr ?_⟩), fun c4 => Q0 (fun y => c4 ?_)⟩
        · rw [nI_eql (by have := stl_lt S (q + na.length); omega) (by omega), hg] at c4
          exact c4
        · rcases y.2.2 with y | y
          · exact absurd y c3
          · rw [hg, y]; rfl
theorem sM_fail {x y z : Int32} (hQ : Q (some (.int x)) (hp (sI (sI S 17 y) 18 z))) : sm_V N (d + 1) mm_M_fail 5 33 [.int x, .int y, .int z] (hp S) Q := cM_fail (hk_33 S) ⟨_, hu_33_4 S _, _, hu_33_5 _ _, hQ⟩
theorem sM_name {n s : Nat} (hn : n < 6000) (hs8 : s < 8) (hQ : Q none (hp (sA (sA S 19 (upd (S.2.1 19) n (S.2.1 31 s))) 20 (upd (S.2.1 20) n (S.2.1 32 s))))) : sm_V N (d + 1) mm_M_name 5 33 [.int (nI n), .int (nI s)] (hp S) Q :=
  cM_name (hk_33 S) ⟨_, hg_33_8 S, _, hg_33_25 S, _, (hst_r S hs8).1, _, (hq_w S hn _).2.1, _, hg_33_9 _, _, hg_33_26 _, _, (hst_r _ hs8).2, _, (hq_w _ hn _).2.2.1, hQ⟩
end Bg
