/-! the reference: its store, its plain methods -/
def stl (S : sT) : List Nat := bytesOf (S.2.1 17) 0 14100
def okSt (S : sT) : Prop := ∀ i, sB (S.2.1 17 i)
theorem stl_len (S : sT) : (stl S).length = 14100 := bytesOf_len ..
theorem stl_get {S : sT} {k : Nat} (h : k < 14100) : (stl S).getD k 0 = ub (S.2.1 17 k) := by
  rw [stl, bytesOf_get _ _ h, Nat.zero_add]
theorem stl_lt (S : sT) (k : Nat) : (stl S).getD k 0 < 256 := by
  rw [List.getD_eq_getElem?_getD]
  cases h : (stl S)[k]? with
  | none => decide
  | some b => exact bytesOf_lt (List.mem_of_getElem? h)
theorem ub_inj {x y : Int32} (hx : sB x) (hy : sB y) : x = y ↔ ub x = ub y := by
  constructor
  · intro h; rw [h]
  · intro h
    have a1 := ub_ti x
    have a2 := ub_ti y
    have b1 := sB_rng hx
    have b2 := sB_rng hy
    rw [ti_eq]
    omega
theorem hm_r (S : sT) {k : Nat} (hk : k < 14100) : sm_gi (hp S) 34 0 (nI k) = some (S.2.1 17 k) := by
  rw [ha_34, nI_t (by omega), if_pos ⟨by omega, by omega⟩, nI_clamp (by omega)]
section MB
variable {S : sT} {N d : Nat} {Q : Option Value → sm_H → Prop}
theorem sM_at {k : Nat} (hk : k < 14100) (hQ : Q (some (.int (nI ((stl S).getD k 0)))) (hp S)) : sm_V N (d + 1) mm_M_at 5 33 [.int (nI k)] (hp S) Q := by
  refine cM_at (hk_33 S) ⟨_, hg_33_1 S, _, hm_r S hk, ?_⟩
  rw [ub_and, ← stl_get hk]
  exact hQ
theorem sM_whole {k : Nat} (hk : k + 4 ≤ 14100) (hQ : Q (some (.int (nI (u4 (stl S) k)))) (hp S)) : sm_V N (d + 2) mm_M_whole 5 33 [.int (nI k)] (hp S) Q := by
  refine cM_whole (hk_33 S) ?_
  unfold fM_whole_0
  simp only [nI_al]
  refine sM_at (by omega) ⟨_, rfl, sM_at (by omega) ⟨_, rfl, sM_at (by omega) ⟨_, rfl, sM_at (by omega) ⟨_, rfl, ?_⟩⟩⟩⟩
  rw [nI_mul, nI_mul, nI_mul, nI_add, nI_add, nI_add]
  exact hQ
theorem sM_isSlot {s : Int32} (hQ : Q (some (.int (if 0 ≤ s.toInt ∧ s.toInt < 4 then 1 else 0))) (hp S)) : sm_T N (d + 1) mm_M_isSlot [.int s] (hp S) Q := by
  refine cM_isSlot ⟨fun c => ?_, fun c => ⟨fun c2 => ?_, fun c2 => ?_⟩⟩
  · rw [ti_lt] at c
    simp at c
    rw [if_neg (by omega)] at hQ
    exact hQ
  · rw [ti_lt] at c
    rw [ti_le] at c2
    simp at c c2
    rw [if_neg (by omega)] at hQ
    exact hQ
  · rw [ti_lt] at c
    rw [ti_le] at c2
    simp at c c2
    rw [if_pos ⟨by omega, by omega⟩] at hQ
    exact hQ
theorem m115s {p n i v : Nat} (hi : i < n) (hn : n ≤ 4) (hp1 : p + i < 14100) (hv : v < 4194304) (h0 : isC ((stl S).getD (p + i) 0) = false → Q (some (.int 0)) (hp S))
    (h1 : isC ((stl S).getD (p + i) 0) = true → sm_W N (d + 1 + 1) mm_M_character 115 [(0, .ref 33), (1, .int (nI p)), (4, .int (nI n)), (5, .int (nI (v * 64 + ((stl S).getD (p + i) 0 - 128)))), (6, .int (nI (i + 1)))] [] (hp S) Q) :
    sm_W N (d + 1 + 1) mm_M_character 115 [(0, .ref 33), (1, .int (nI p)), (4, .int (nI n)), (5, .int (nI v)), (6, .int (nI i))] [] (hp S) Q := by
  refine kM_character_115 ⟨fun c => ?_, fun _ => ?_⟩
  · exact absurd ((nI_leI (by omega) (by omega)).mp c) (by omega)
  · rw [nI_add]
    have hb := stl_lt S (p + i)
    refine sM_at hp1 ⟨_, rfl, fun c => ?_, fun c => ⟨fun c2 => ?_, fun c2 => ?_⟩⟩
    · rw [nI_ltl (by omega) (by omega)] at c
      exact h0 (decide_eq_false (by omega))
    · rw [nI_ltl (by omega) (by omega)] at c
      rw [nI_lel (by omega) (by omega)] at c2
      rw [nI_mul, nI_add, nI_sl (show 128 ≤ _ by omega), nI_1]
      have := h1 (decide_eq_true ⟨by omega, by omega⟩)
      rw [show v * 64 + ((stl S).getD (p + i) 0 - 128) = 64 * v + (stl S).getD (p + i) 0 - 128 by omega] at this
      exact this
    · rw [nI_lel (by omega) (by omega)] at c2
      exact h0 (decide_eq_false (by omega))
theorem m115e {p n v : Nat} (hn : n = 2 ∨ n = 3 ∨ n = 4) (hv : v < 268435456) (hQ : Q (some (.int (nI (if chOK n v then n else 0)))) (hp S)) :
    sm_W N (d + 1 + 1) mm_M_character 115 [(0, .ref 33), (1, .int (nI p)), (4, .int (nI n)), (5, .int (nI v)), (6, .int (nI n))] [] (hp S) Q := by
  have w225 : ∀ (y : Int32), ((y = 1 ∧ (if n = 2 then 128 else if n = 3 then 2048 else 65536) ≤ v) ∨ (y = 0 ∧ ¬ (if n = 2 then 128 else if n = 3 then 2048 else 65536) ≤ v)) → sm_W N (d + 1 + 1) mm_M_character 225 [(4, .int (nI n)), (5, .int (nI v))] [.int y] (hp S) Q := by
    intro y hy
    have hbad : ¬ ((if n = 2 then 128 else if n = 3 then 2048 else 65536) ≤ v ∧ v ≤ 1114111 ∧ ¬ (55296 ≤ v ∧ v ≤ 57343)) → Q (some (.int 0)) (hp S) := by
      intro z
      have : chOK n v = false := by simp only [chOK, decide_eq_false_iff_not]; exact z
      rw [this] at hQ
      exact hQ
    refine kM_character_225 ⟨fun c => ?_, fun c => ⟨fun c2 => ?_, fun c2 => ⟨fun c3 => ?_, fun c3 => ⟨fun c4 => ?_, fun c4 => ?_⟩⟩⟩⟩
    · rcases hy with hy | hy
      · rw [hy.1] at c; exact absurd c (by decide)
      · exact hbad (fun z => hy.2 z.1)
    · rw [nI_gel (by omega) (by omega)] at c2
      exact hbad (fun z => by omega)
    · rw [nI_gel (by omega) (by omega)] at c2
      rw [nI_ltl (by omega) (by omega)] at c3
      refine kM_character_253 ?_
      have hg : (if n = 2 then 128 else if n = 3 then 2048 else 65536) ≤ v := by
        rcases hy with hy | hy
        · exact hy.2
        · exact absurd hy.1 c
      have : chOK n v = true := by simp only [chOK, decide_eq_true_eq]; exact ⟨hg, by omega, by omega⟩
      rw [this] at hQ
      exact hQ
    · rw [nI_lel (by omega) (by omega)] at c4
      rw [nI_ltl (by omega) (by omega)] at c3
      exact hbad (fun z => by omega)
    · rw [nI_gel (by omega) (by omega)] at c2
      rw [nI_lel (by omega) (by omega)] at c4
      refine kM_character_253 ?_
      have hg : (if n = 2 then 128 else if n = 3 then 2048 else 65536) ≤ v := by
        rcases hy with hy | hy
        · exact hy.2
        · exact absurd hy.1 c
      have : chOK n v = true := by simp only [chOK, decide_eq_true_eq]; exact ⟨hg, by omega, by omega⟩
      rw [this] at hQ
      exact hQ
  refine kM_character_115 ⟨fun _ => ⟨fun c => ⟨fun c2 => ?_, fun c2 => ?_⟩, fun c => ⟨fun c2 => ⟨fun c3 => ?_, fun c3 => ?_⟩, fun c2 => ⟨fun c3 => ?_, fun c3 => ?_⟩⟩⟩, fun c => absurd ((nI_leI (by omega) (by omega)).mpr (Nat.le_refl _)) c⟩
  · rw [nI_eql (by omega) (by omega)] at c
    rw [nI_lel (by omega) (by omega)] at c2
    exact w225 0 (Or.inr ⟨rfl, by rw [if_pos c]; omega⟩)
  · rw [nI_eql (by omega) (by omega)] at c
    rw [nI_lel (by omega) (by omega)] at c2
    exact w225 1 (Or.inl ⟨rfl, by rw [if_pos c]; omega⟩)
  · rw [nI_eql (by omega) (by omega)] at c c2
    rw [nI_lel (by omega) (by omega)] at c3
    exact w225 0 (Or.inr ⟨rfl, by rw [if_neg c, if_pos c2]; omega⟩)
  · rw [nI_eql (by omega) (by omega)] at c c2
    rw [nI_lel (by omega) (by omega)] at c3
    exact w225 1 (Or.inl ⟨rfl, by rw [if_neg c, if_pos c2]; omega⟩)
  · rw [nI_eql (by omega) (by omega)] at c c2
    rw [nI_lel (by omega) (by omega)] at c3
    exact w225 0 (Or.inr ⟨rfl, by rw [if_neg c, if_neg c2]; omega⟩)
  · rw [nI_eql (by omega) (by omega)] at c c2
    rw [nI_lel (by omega) (by omega)] at c3
    exact w225 1 (Or.inl ⟨rfl, by rw [if_neg c, if_neg c2]; omega⟩)
theorem sM_chS {p e : Nat} (hpe : p < e) (he : e ≤ 14100) (hQ : Q (some (.int (nI (chS (stl S) p e)))) (hp S)) : sm_V N (d + 2) mm_M_character 5 33 [.int (nI p), .int (nI e)] (hp S) Q := by
  have hb := stl_lt S p
  have w60 : ∀ n : Nat, n ≤ 4 → 128 ≤ (stl S).getD p 0 → n = (if (stl S).getD p 0 < 192 then 0 else if (stl S).getD p 0 < 224 then 2 else if (stl S).getD p 0 < 240 then 3 else if (stl S).getD p 0 < 248 then 4 else 0) → sm_W N (d + 1 + 1) mm_M_character 60 [(0, .ref 33), (1, .int (nI p)), (2, .int (nI e)), (3, .int (nI ((stl S).getD p 0)))] [.int (nI n)] (hp S) Q := by
    intro n h4 h128 hnn
    have ty := Nat.le_refl n
    rw [chS, if_neg (by omega)] at hQ
    refine kM_character_60 ⟨fun c => ?_, fun c => ⟨fun c2 => ?_, fun c2 => ?_⟩⟩
    · rw [nI_eql (by omega) (by omega)] at c
      have c0 : n = 0 := c
      by_cases g0 : (stl S).getD p 0 < 192
      · rw [if_pos g0] at hQ; exact hQ
      · rw [if_neg g0] at hnn
        by_cases g1 : (stl S).getD p 0 < 224
        · rw [if_pos g1] at hnn; omega
        · rw [if_neg g1] at hnn
          by_cases g2 : (stl S).getD p 0 < 240
          · rw [if_pos g2] at hnn; omega
          · rw [if_neg g2] at hnn
            by_cases g3 : (stl S).getD p 0 < 248
            · rw [if_pos g3] at hnn; omega
            · rw [if_neg g0, if_neg g1, if_neg g2, if_neg g3] at hQ
              exact hQ
    · rw [nI_eql (by omega) (by omega)] at c
      have c0 : ¬ n = 0 := c
      rw [nI_add, nI_leI (by omega) (by omega)] at c2
      by_cases g0 : (stl S).getD p 0 < 192
      · rw [if_pos g0] at hnn; omega
      · rw [if_neg g0] at hnn hQ
        by_cases g1 : (stl S).getD p 0 < 224
        · rw [if_pos g1] at hnn hQ
          subst hnn
          rw [if_pos (by omega)] at hQ
          refine ⟨fun _ => kM_character_110 ?_, fun z => absurd rfl z⟩
          rw [nI_sl (show 192 ≤ _ by omega)]
          refine m115s (n := 2) (i := 1) (by omega) (by omega) (by omega) (by omega) (fun q => ?_) (fun q => ?_)
          · rw [q] at hQ; exact hQ
          · rw [if_pos q] at hQ
            have t1 := stl_lt S (p + 1)
            exact m115e (n := 2) (Or.inl rfl) (by omega) hQ
        · rw [if_neg g1] at hnn hQ
          by_cases g2 : (stl S).getD p 0 < 240
          · rw [if_pos g2] at hnn hQ
            subst hnn
            rw [if_pos (by omega)] at hQ
            refine ⟨fun z => absurd z (by decide), fun _ => ⟨fun _ => kM_character_110 ?_, fun z => absurd rfl z⟩⟩
            rw [nI_sl (show 224 ≤ _ by omega)]
            have t1 := stl_lt S (p + 1)
            have t2 := stl_lt S (p + 2)
            refine m115s (n := 3) (i := 1) (by omega) (by omega) (by omega) (by omega) (fun q => ?_) (fun q => ?_)
            · rw [q] at hQ; exact hQ
            · rw [if_pos q] at hQ
              refine m115s (n := 3) (i := 2) (by omega) (by omega) (by omega) (by omega) (fun q => ?_) (fun q => ?_)
              · rw [q] at hQ; exact hQ
              · rw [if_pos q] at hQ
                exact m115e (n := 3) (Or.inr (Or.inl rfl)) (by omega) hQ
          · rw [if_neg g2] at hnn hQ
            by_cases g3 : (stl S).getD p 0 < 248
            · rw [if_pos g3] at hnn hQ
              subst hnn
              rw [if_pos (by omega)] at hQ
              refine ⟨fun z => absurd z (by decide), fun _ => ⟨fun z => absurd z (by decide), fun _ => kM_character_110 ?_⟩⟩
              rw [nI_sl (show 240 ≤ _ by omega)]
              have t1 := stl_lt S (p + 1)
              have t2 := stl_lt S (p + 2)
              have t3 := stl_lt S (p + 3)
              refine m115s (n := 4) (i := 1) (by omega) (by omega) (by omega) (by omega) (fun q => ?_) (fun q => ?_)
              · rw [q] at hQ; exact hQ
              · rw [if_pos q] at hQ
                refine m115s (n := 4) (i := 2) (by omega) (by omega) (by omega) (by omega) (fun q => ?_) (fun q => ?_)
                · rw [q] at hQ; exact hQ
                · rw [if_pos q] at hQ
                  refine m115s (n := 4) (i := 3) (by omega) (by omega) (by omega) (by omega) (fun q => ?_) (fun q => ?_)
                  · rw [q] at hQ; exact hQ
                  · rw [if_pos q] at hQ
                    exact m115e (n := 4) (Or.inr (Or.inr rfl)) (by omega) hQ
            · rw [if_neg g3] at hnn
              omega
    · rw [nI_eql (by omega) (by omega)] at c
      have c0 : ¬ n = 0 := c
      rw [nI_add, nI_leI (by omega) (by omega)] at c2
      by_cases g0 : (stl S).getD p 0 < 192
      · rw [if_pos g0] at hnn; omega
      · rw [if_neg g0] at hnn hQ
        by_cases g1 : (stl S).getD p 0 < 224
        · rw [if_pos g1] at hnn hQ
          rw [if_neg (by omega)] at hQ
          exact hQ
        · rw [if_neg g1] at hnn hQ
          by_cases g2 : (stl S).getD p 0 < 240
          · rw [if_pos g2] at hnn hQ
            rw [if_neg (by omega)] at hQ
            exact hQ
          · rw [if_neg g2] at hnn hQ
            by_cases g3 : (stl S).getD p 0 < 248
            · rw [if_pos g3] at hnn hQ
              rw [if_neg (by omega)] at hQ
              exact hQ
            · rw [if_neg g3] at hQ
              exact hQ
  refine cM_character (hk_33 S) (sM_at (by omega) ⟨_, rfl, fun c => ⟨fun c2 => ⟨fun c3 => ⟨fun c4 => ⟨fun c5 => ?_, fun c5 => ?_⟩, fun c4 => ?_⟩, fun c3 => ?_⟩, fun c2 => ?_⟩, fun c => ?_⟩)
  · simp (disch := omega) only [nI_gel] at c c2 c3 c4 c5
    exact w60 0 (by omega) (by omega) (by rw [if_neg (by omega), if_neg (by omega), if_neg (by omega), if_neg (by omega)])
  · simp (disch := omega) only [nI_gel] at c c2 c3 c4 c5
    exact w60 4 (by omega) (by omega) (by rw [if_neg (by omega), if_neg (by omega), if_neg (by omega), if_pos (by omega)])
  · simp (disch := omega) only [nI_gel] at c c2 c3 c4
    exact w60 3 (by omega) (by omega) (by rw [if_neg (by omega), if_neg (by omega), if_pos (by omega)])
  · simp (disch := omega) only [nI_gel] at c c2 c3
    exact w60 2 (by omega) (by omega) (by rw [if_neg (by omega), if_pos (by omega)])
  · simp (disch := omega) only [nI_gel] at c c2
    exact w60 0 (by omega) (by omega) (by rw [if_pos (by omega)])
  · simp (disch := omega) only [nI_gel] at c
    rw [chS, if_pos (by omega)] at hQ
    exact hQ
end MB
