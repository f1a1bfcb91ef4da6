/-! right UTF-8, and the plain static methods of the class -/
/-- whether v, that stands in n bytes, is a right character in its shortest form -/
def chOK (n v : Nat) : Bool := decide ((if n = 2 then 128 else if n = 3 then 2048 else 65536) ≤ v ∧ v ≤ 1114111 ∧ ¬ (55296 ≤ v ∧ v ≤ 57343))
def isC (c : Nat) : Bool := decide (128 ≤ c ∧ c < 192)
/-- how many bytes the character at p has, of a text that ends at e; 0: no right one -/
def chS (l : List Nat) (p e : Nat) : Nat :=
  if l.getD p 0 < 128 then 1 else if l.getD p 0 < 192 then 0 else if l.getD p 0 < 224 then
    (if p + 2 ≤ e then (if isC (l.getD (p + 1) 0) then (if chOK 2 ((l.getD p 0 - 192) * 64 + (l.getD (p + 1) 0 - 128)) then 2 else 0) else 0) else 0)
  else if l.getD p 0 < 240 then
    (if p + 3 ≤ e then (if isC (l.getD (p + 1) 0) then (if isC (l.getD (p + 2) 0) then (if chOK 3 (((l.getD p 0 - 224) * 64 + (l.getD (p + 1) 0 - 128)) * 64 + (l.getD (p + 2) 0 - 128)) then 3 else 0) else 0) else 0) else 0)
  else if l.getD p 0 < 248 then
    (if p + 4 ≤ e then (if isC (l.getD (p + 1) 0) then (if isC (l.getD (p + 2) 0) then (if isC (l.getD (p + 3) 0) then (if chOK 4 ((((l.getD p 0 - 240) * 64 + (l.getD (p + 1) 0 - 128)) * 64 + (l.getD (p + 2) 0 - 128)) * 64 + (l.getD (p + 3) 0 - 128)) then 4 else 0) else 0) else 0) else 0) else 0)
  else 0
theorem and192 : ∀ c, c < 256 → ((nI c &&& 192 = 128) ↔ isC c = true) := by decide +kernel
theorem and31 : ∀ c, c < 256 → 192 ≤ c → c < 224 → nI c &&& (255 >>> ((nI 2 + 1) &&& 31)) = nI (c - 192) := by decide +kernel
theorem and15 : ∀ c, c < 256 → 224 ≤ c → c < 240 → nI c &&& (255 >>> ((nI 3 + 1) &&& 31)) = nI (c - 224) := by decide +kernel
theorem and7 : ∀ c, c < 256 → 240 ≤ c → c < 248 → nI c &&& (255 >>> ((nI 4 + 1) &&& 31)) = nI (c - 240) := by decide +kernel
theorem shor {v c : Nat} (hv : v < 4194304) (hc : isC c = true) : (nI v <<< ((6 : Int32) &&& 31)) ||| (nI c &&& 63) = nI (v * 64 + (c - 128)) := by
  have h : 128 ≤ c ∧ c < 192 := by simpa [isC] using hc
  rw [pk_shlN (n := v) _ 6 (by decide) (by omega), pk_andN (by omega) 6 (by decide), nI_or, Nat.or_comm, or_add (k := 6) (by omega)]
  exact congrArg nI (by omega)
section Utf
variable {S : sT} {j N d : Nat} {Q : Option Value → sm_H → Prop}
theorem k79s {p n i v : Nat} (hj : j < 11) (hw : okB S j) (hi : i < n) (hn : n ≤ 4) (hp1 : p < 100000) (hv : v < 4194304) (h0 : isC ((bl S j).getD (p + i) 0) = false → Q (some (.int 0)) (hp S))
    (h1 : isC ((bl S j).getD (p + i) 0) = true → sm_W N (d + 1 + 1) mm_K_characterSize 79 [(0, .ref (11 + 2 * j)), (1, .int (nI p)), (4, .int (nI n)), (5, .int (nI (v * 64 + ((bl S j).getD (p + i) 0 - 128)))), (6, .int (nI (i + 1)))] [] (hp S) Q) :
    sm_W N (d + 1 + 1) mm_K_characterSize 79 [(0, .ref (11 + 2 * j)), (1, .int (nI p)), (4, .int (nI n)), (5, .int (nI v)), (6, .int (nI i))] [] (hp S) Q := by
  refine kK_characterSize_79 ⟨fun c => ?_, fun _ => ?_⟩
  · exact absurd ((nI_leI (by omega) (by omega)).mp c) (by omega)
  · rw [nI_add]
    have hb := bl_lt S j (p + i)
    refine sB_atn hj hw (by omega) ⟨_, rfl, fun c => ?_, fun c => ?_⟩
    · rw [and192 _ hb] at c
      rw [shor hv c, nI_1]
      exact h1 c
    · rw [and192 _ hb] at c
      exact h0 (by simpa using c)
theorem k79e {p n v : Nat} (hn : n = 2 ∨ n = 3 ∨ n = 4) (hv : v < 268435456) (hQ : Q (some (.int (nI (if chOK n v then n else 0)))) (hp S)) :
    sm_W N (d + 1 + 1) mm_K_characterSize 79 [(0, .ref (11 + 2 * j)), (1, .int (nI p)), (4, .int (nI n)), (5, .int (nI v)), (6, .int (nI n))] [] (hp S) Q := by
  have w176 : ∀ (m : Nat) (y : Int32), m < 100000 → ((y = 0 ∧ ¬ (55296 ≤ v ∧ v ≤ 57343)) ∨ (y = 1 ∧ (55296 ≤ v ∧ v ≤ 57343))) → m = (if n = 2 then 128 else if n = 3 then 2048 else 65536) → sm_W N (d + 1 + 1) mm_K_characterSize 176 [(4, .int (nI n)), (5, .int (nI v)), (6, .int (nI m))] [.int y] (hp S) Q := by
    intro m y hm hy hmm
    refine kK_characterSize_176 ⟨fun c => ?_, fun c => ⟨fun c2 => ?_, fun c2 => ⟨fun c3 => ?_, fun c3 => ?_⟩⟩⟩
    · rw [nI_ltI (by omega) (by omega)] at c
      have : chOK n v = false := by simp only [chOK, decide_eq_false_iff_not, ← hmm]; omega
      rw [this] at hQ
      exact hQ
    · rw [nI_gtl (by omega) (by omega)] at c2
      have : chOK n v = false := by simp only [chOK, decide_eq_false_iff_not]; omega
      rw [this] at hQ
      exact hQ
    · rw [nI_ltI (by omega) (by omega)] at c
      rw [nI_gtl (by omega) (by omega)] at c2
      subst c3
      have h0 : ¬ (55296 ≤ v ∧ v ≤ 57343) := by
        rcases hy with hy | hy
        · exact hy.2
        · exact absurd hy.1 (by decide)
      have : chOK n v = true := by simp only [chOK, decide_eq_true_eq, ← hmm]; omega
      rw [this] at hQ
      exact hQ
    · have h0 : 55296 ≤ v ∧ v ≤ 57343 := by
        rcases hy with hy | hy
        · exact absurd hy.1 c3
        · exact hy.2
      have : chOK n v = false := by simp only [chOK, decide_eq_false_iff_not]; omega
      rw [this] at hQ
      exact hQ
  have w155 : ∀ m : Nat, m < 100000 → m = (if n = 2 then 128 else if n = 3 then 2048 else 65536) → sm_W N (d + 1 + 1) mm_K_characterSize 155 [(4, .int (nI n)), (5, .int (nI v))] [.int (nI m)] (hp S) Q := by
    intro m hm hmm
    refine kK_characterSize_155 ⟨fun c => ?_, fun c => ⟨fun c2 => ?_, fun c2 => ?_⟩⟩
    · rw [nI_ltl (by omega) (by omega)] at c
      exact kK_characterSize_175 (w176 m 0 hm (Or.inl ⟨rfl, by omega⟩) hmm)
    · rw [nI_gtl (by omega) (by omega)] at c2
      exact kK_characterSize_175 (w176 m 0 hm (Or.inl ⟨rfl, by omega⟩) hmm)
    · rw [nI_ltl (by omega) (by omega)] at c
      rw [nI_gtl (by omega) (by omega)] at c2
      exact w176 m 1 hm (Or.inr ⟨rfl, by omega⟩) hmm
  refine kK_characterSize_79 ⟨fun _ => ⟨fun c => ?_, fun c => ⟨fun c2 => ?_, fun c2 => ?_⟩⟩, fun c => ?_⟩
  · rw [nI_eql (by omega) (by omega)] at c
    exact w155 128 (by omega) (by rw [if_pos c])
  · rw [nI_eql (by omega) (by omega)] at c c2
    exact w155 2048 (by omega) (by rw [if_neg c, if_pos c2])
  · rw [nI_eql (by omega) (by omega)] at c c2
    exact w155 65536 (by omega) (by rw [if_neg c, if_neg c2])
  · exact absurd ((nI_leI (by omega) (by omega)).mpr (Nat.le_refl _)) c
end Utf
section Utf2
variable {S : sT} {j N d : Nat} {Q : Option Value → sm_H → Prop}
theorem sK_chS {p e : Nat} (hj : j < 11) (hw : okB S j) (hpe : p ≤ e) (he : e < 100000) (hQ : Q (some (.int (nI (chS (bl S j) p e)))) (hp S)) : sm_T N (d + 2) mm_K_characterSize [.ref (11 + 2 * j), .int (nI p), .int (nI e)] (hp S) Q := by
  have hb := bl_lt S j p
  have w38 : ∀ n : Nat, (n = 2 ∨ n = 3 ∨ n = 4) → 128 ≤ (bl S j).getD p 0 → n = (if (bl S j).getD p 0 < 224 then 2 else if (bl S j).getD p 0 < 240 then 3 else 4) → sm_W N (d + 1 + 1) mm_K_characterSize 38 [(0, .ref (11 + 2 * j)), (1, .int (nI p)), (2, .int (nI e)), (3, .int (nI ((bl S j).getD p 0)))] [.int (nI n)] (hp S) Q := by
    intro n hn h128 hnn
    refine kK_characterSize_38 ⟨fun c => ?_, fun c => ⟨fun c2 => ?_, fun c2 => ⟨fun c3 => ?_, fun c3 => ?_⟩⟩⟩
    · rw [nI_ltl (by omega) (by omega)] at c
      rw [chS, if_neg (by omega), if_pos c] at hQ
      exact hQ
    · rw [nI_gtl (by omega) (by omega)] at c2
      rw [chS, if_neg (by omega), if_neg (by omega), if_neg (by omega), if_neg (by omega), if_neg (by omega)] at hQ
      exact hQ
    · rw [nI_ltl (by omega) (by omega)] at c
      rw [nI_gtl (by omega) (by omega)] at c2
      rw [pk_sub hpe, nI_leI (by omega) (by omega)] at c3
      rw [chS, if_neg (by omega), if_neg c] at hQ
      have t1 := bl_lt S j (p + 1)
      have t2 := bl_lt S j (p + 2)
      have t3 := bl_lt S j (p + 3)
      by_cases g1 : (bl S j).getD p 0 < 224
      · rw [if_pos g1] at hnn hQ
        subst hnn
        rw [if_pos (by omega)] at hQ
        rw [and31 _ hb (by omega) g1]
        refine k79s hj hw (n := 2) (i := 1) (by omega) (by omega) (by omega) (by omega) (fun q => ?_) (fun q => ?_)
        · rw [q] at hQ; exact hQ
        · rw [if_pos q] at hQ
          exact k79e (n := 2) (Or.inl rfl) (by omega) hQ
      · rw [if_neg g1] at hnn hQ
        by_cases g2 : (bl S j).getD p 0 < 240
        · rw [if_pos g2] at hnn hQ
          subst hnn
          rw [if_pos (by omega)] at hQ
          rw [and15 _ hb (by omega) g2]
          refine k79s hj hw (n := 3) (i := 1) (by omega) (by omega) (by omega) (by omega) (fun q => ?_) (fun q => ?_)
          · rw [q] at hQ; exact hQ
          · rw [if_pos q] at hQ
            refine k79s hj hw (n := 3) (i := 2) (by omega) (by omega) (by omega) (by omega) (fun q => ?_) (fun q => ?_)
            · rw [q] at hQ; exact hQ
            · rw [if_pos q] at hQ
              exact k79e (n := 3) (Or.inr (Or.inl rfl)) (by omega) hQ
        · rw [if_neg g2] at hnn hQ
          subst hnn
          rw [if_pos (by omega), if_pos (by omega)] at hQ
          rw [and7 _ hb (by omega) (by omega)]
          refine k79s hj hw (n := 4) (i := 1) (by omega) (by omega) (by omega) (by omega) (fun q => ?_) (fun q => ?_)
          · rw [q] at hQ; exact hQ
          · rw [if_pos q] at hQ
            refine k79s hj hw (n := 4) (i := 2) (by omega) (by omega) (by omega) (by omega) (fun q => ?_) (fun q => ?_)
            · rw [q] at hQ; exact hQ
            · rw [if_pos q] at hQ
              refine k79s hj hw (n := 4) (i := 3) (by omega) (by omega) (by omega) (by omega) (fun q => ?_) (fun q => ?_)
              · rw [q] at hQ; exact hQ
              · rw [if_pos q] at hQ
                exact k79e (n := 4) (Or.inr (Or.inr rfl)) (by omega) hQ
    · rw [nI_ltl (by omega) (by omega)] at c
      rw [nI_gtl (by omega) (by omega)] at c2
      rw [pk_sub hpe, nI_leI (by omega) (by omega)] at c3
      rw [chS, if_neg (by omega), if_neg c] at hQ
      by_cases g1 : (bl S j).getD p 0 < 224
      · rw [if_pos g1] at hnn hQ
        rw [if_neg (by omega)] at hQ
        exact hQ
      · rw [if_neg g1] at hnn hQ
        by_cases g2 : (bl S j).getD p 0 < 240
        · rw [if_pos g2] at hnn hQ
          rw [if_neg (by omega)] at hQ
          exact hQ
        · rw [if_neg g2] at hnn hQ
          rw [if_pos (by omega), if_neg (by omega)] at hQ
          exact hQ
  refine cK_characterSize (sB_atn hj hw (by omega) ⟨_, rfl, fun c => ⟨fun c2 => ⟨fun c3 => ?_, fun c3 => ?_⟩, fun c2 => ?_⟩, fun c => ?_⟩)
  · rw [nI_gel (by omega) (by omega)] at c c2 c3
    exact w38 4 (Or.inr (Or.inr rfl)) (by omega) (by rw [if_neg (by omega), if_neg (by omega)])
  · rw [nI_gel (by omega) (by omega)] at c c2 c3
    exact w38 3 (Or.inr (Or.inl rfl)) (by omega) (by rw [if_neg (by omega), if_pos (by omega)])
  · rw [nI_gel (by omega) (by omega)] at c c2
    exact w38 2 (Or.inl rfl) (by omega) (by rw [if_pos (by omega)])
  · rw [nI_gel (by omega) (by omega)] at c
    rw [chS, if_pos (by omega)] at hQ
    exact hQ
end Utf2
