/-! the reference: add, isNumber -/
/-- the sum is no long -/
def ovf (a b : Int64) : Prop := (a < 0 ↔ b < 0) ∧ ¬ (a + b < 0 ↔ a < 0)
/-- the kind of a sum -/
def sumK (k1 k2 : Nat) (s : Int64) : Nat := if k1 = 16 ∧ k2 = 16 ∧ s = Int32.toInt64 (Int64.toInt32 s) then 16 else 18
section Ad
variable {S : sT} {N d : Nat} {Q : Option Value → sm_H → Prop}
theorem sM_isNumber {k : Nat} (hk : k < 256) (hQ : Q (some (.int (if k = 16 ∨ k = 18 then 1 else 0))) (hp S)) : sm_T N (d + 1) mm_M_isNumber [.int (nI k)] (hp S) Q := by
  refine cM_isNumber ⟨fun c => kM_isNumber_12 ?_, fun c => ⟨fun c2 => kM_isNumber_12 ?_, fun c2 => ?_⟩⟩
  · rw [nI_eql (by omega) (by omega)] at c
    rw [if_pos (Or.inl (show k = 16 from c))] at hQ
    exact hQ
  · rw [nI_eql (by omega) (by omega)] at c2
    rw [if_pos (Or.inr (show k = 18 from c2))] at hQ
    exact hQ
  · rw [nI_eql (by omega) (by omega)] at c c2
    have c' : ¬ k = 16 := c
    have c2' : ¬ k = 18 := c2
    rw [if_neg (by omega)] at hQ
    exact hQ
theorem sM_add {m n k1 k2 : Nat} (hm : m < 6000) (hn : n < 6000) (hk1 : S.2.1 18 m = nI k1) (hk2 : S.2.1 18 n = nI k2) (hl1 : k1 < 256) (hl2 : k2 < 256) (h8 : ovf (S.2.2 m) (S.2.2 n) → Q (some (.int 8)) (hp S))
    (h0 : ¬ ovf (S.2.2 m) (S.2.2 n) → Q (some (.int 0)) (hp (sL (sA S 18 (upd (S.2.1 18) m (nI (sumK k1 k2 (S.2.2 m + S.2.2 n))))) (vp_updL S.2.2 m (S.2.2 m + S.2.2 n))))) : sm_V N (d + 1) mm_M_add 5 33 [.int (nI m), .int (nI n)] (hp S) Q := by
  generalize ha : S.2.2 m = a at *
  generalize hb : S.2.2 n = b at *
  have w76 : ¬ ovf a b → sm_W N (d + 1) mm_M_add 76 [(0, .ref 33), (1, .int (nI m)), (2, .int (nI n)), (7, .long (a + b))] [] (hp S) Q := by
    intro ho
    have hq := h0 ho
    have w113 : ∀ y : Int32, (y = 0 → ¬ (k1 = 16 ∧ k2 = 16 ∧ a + b = Int32.toInt64 (Int64.toInt32 (a + b)))) → (¬ y = 0 → (k1 = 16 ∧ k2 = 16 ∧ a + b = Int32.toInt64 (Int64.toInt32 (a + b)))) → sm_W N (d + 1) mm_M_add 113 [(0, .ref 33), (1, .int (nI m)), (7, .long (a + b))] [.int y] (hp S) Q := by
      intro y y0 y1
      refine kM_add_113 ⟨_, hg_33_7 S, fun c => kM_add_132 ⟨_, (hq_w S hm _).1, _, hg_33_10 _, _, hl_w _ hm _, ?_⟩, fun c => kM_add_132 ⟨_, (hq_w S hm _).1, _, hg_33_10 _, _, hl_w _ hm _, ?_⟩⟩
      · rw [sumK, if_neg (y0 c)] at hq
        exact hq
      · rw [sumK, if_pos (y1 c)] at hq
        exact hq
    have w112 : ¬ (k1 = 16 ∧ k2 = 16 ∧ a + b = Int32.toInt64 (Int64.toInt32 (a + b))) → sm_W N (d + 1) mm_M_add 112 [(0, .ref 33), (1, .int (nI m)), (7, .long (a + b))] [] (hp S) Q := fun h => kM_add_112 (w113 0 (fun _ => h) (fun c => absurd rfl c))
    refine kM_add_76 ⟨_, hg_33_7 S, _, (hq_r S hm).1, ?_⟩
    rw [hk1]
    refine ⟨fun c1 => ⟨_, hg_33_7 S, _, (hq_r S hn).1, ?_⟩, fun c1 => w112 (fun h => c1 (by rw [h.1]; rfl))⟩
    rw [hk2]
    rw [nI_eql (by omega) (by omega)] at c1
    refine ⟨fun c2 => ⟨fun c3 => ?_, fun c3 => w112 (fun h => c3 ((lg_cmp_eq _ _).mpr h.2.2))⟩, fun c2 => w112 (fun h => c2 (by rw [h.2.1]; rfl))⟩
    rw [nI_eql (by omega) (by omega)] at c2
    exact w113 1 (fun c => absurd c (by decide)) (fun _ => ⟨c1, c2, (lg_cmp_eq _ _).mp c3⟩)
  have w70 : ∀ (z y : Int32), (z = y → ¬ ovf a b) → (¬ z = y → ovf a b) → sm_W N (d + 1) mm_M_add 70 [(0, .ref 33), (1, .int (nI m)), (2, .int (nI n)), (7, .long (a + b))] [.int y, .int z] (hp S) Q := fun z y e1 e2 => kM_add_70 ⟨fun c => w76 (e1 c), fun c => h8 (e2 c)⟩
  have w59 : (a < 0 ↔ b < 0) → ∀ z : Int32, (z = 0 ∧ a + b < 0) ∨ (z = 1 ∧ ¬ a + b < 0) → sm_W N (d + 1) mm_M_add 59 [(0, .ref 33), (1, .int (nI m)), (2, .int (nI n)), (3, .long a), (7, .long (a + b))] [.int z] (hp S) Q := by
    intro hab z hz
    refine kM_add_59 ⟨fun c => ?_, fun c => ?_⟩
    · rw [lg_cmp_lt] at c
      rcases hz with ⟨rfl, hz⟩ | ⟨rfl, hz⟩
      · exact w70 0 0 (fun _ h => h.2 ⟨fun _ => c, fun _ => hz⟩) (fun h => absurd rfl h)
      · exact w70 1 0 (fun h => absurd h (by decide)) (fun _ => ⟨hab, fun h => hz (h.mpr c)⟩)
    · rw [lg_cmp_lt] at c
      rcases hz with ⟨rfl, hz⟩ | ⟨rfl, hz⟩
      · exact w70 0 1 (fun h => absurd h (by decide)) (fun _ => ⟨hab, fun h => c (h.mp hz)⟩)
      · exact w70 1 1 (fun _ h => h.2 ⟨fun w => absurd w hz, fun w => absurd w c⟩) (fun h => absurd rfl h)
  have w44 : ∀ (y z : Int32), ((y = 0 ∧ a < 0) ∨ (y = 1 ∧ ¬ a < 0)) → ((z = 0 ∧ b < 0) ∨ (z = 1 ∧ ¬ b < 0)) → sm_W N (d + 1) mm_M_add 44 [(0, .ref 33), (1, .int (nI m)), (2, .int (nI n)), (3, .long a), (7, .long (a + b))] [.int z, .int y] (hp S) Q := by
    intro y z hy hz
    refine kM_add_44 ⟨fun c => ?_, fun c => w76 (fun h => c ?_)⟩
    · have hab : a < 0 ↔ b < 0 := by
        rcases hy with ⟨rfl, hy⟩ | ⟨rfl, hy⟩ <;> rcases hz with ⟨rfl, hz⟩ | ⟨rfl, hz⟩
        · exact ⟨fun _ => hz, fun _ => hy⟩
        · exact absurd c (by decide)
        · exact absurd c (by decide)
        · exact ⟨fun w => absurd w hy, fun w => absurd w hz⟩
      refine ⟨fun c2 => w59 hab 0 (Or.inl ⟨rfl, (lg_cmp_lt _ _).mp c2⟩), fun c2 => w59 hab 1 (Or.inr ⟨rfl, fun w => c2 ((lg_cmp_lt _ _).mpr w)⟩)⟩
    · rcases hy with ⟨rfl, hy⟩ | ⟨rfl, hy⟩ <;> rcases hz with ⟨rfl, hz⟩ | ⟨rfl, hz⟩
      · rfl
      · exact absurd (h.1.mp hy) hz
      · exact absurd (h.1.mpr hz) hy
      · rfl
  have w32 : ∀ y : Int32, ((y = 0 ∧ a < 0) ∨ (y = 1 ∧ ¬ a < 0)) → sm_W N (d + 1) mm_M_add 32 [(0, .ref 33), (1, .int (nI m)), (2, .int (nI n)), (3, .long a), (5, .long b), (7, .long (a + b))] [.int y] (hp S) Q := by
    intro y hy
    exact kM_add_32 ⟨fun c => w44 y 0 hy (Or.inl ⟨rfl, (lg_cmp_lt _ _).mp c⟩), fun c => w44 y 1 hy (Or.inr ⟨rfl, fun w => c ((lg_cmp_lt _ _).mpr w)⟩)⟩
  refine cM_add (hk_33 S) ⟨_, hg_33_10 S, _, hl_r S hm, _, hg_33_10 S, _, hl_r S hn, ?_⟩
  rw [ha, hb]
  exact ⟨fun c => w32 0 (Or.inl ⟨rfl, (lg_cmp_lt _ _).mp c⟩), fun c => w32 1 (Or.inr ⟨rfl, fun w => c ((lg_cmp_lt _ _).mpr w)⟩)⟩
end Ad
