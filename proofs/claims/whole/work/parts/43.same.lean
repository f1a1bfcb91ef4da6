/-! texts and names: isRightText, sameRange, sameNames, isHolder, isNumber -/
def utf (l : List Nat) : Nat → Nat → Nat → Bool
  | 0, p, e => decide (e ≤ p)
  | f + 1, p, e => if e ≤ p then true else if chS l p e = 0 then false else utf l f (p + chS l p e) e
def slice (l : List Nat) (a b : Nat) : List Nat := (l.drop a).take (b - a)
theorem slice_len {l : List Nat} {a b : Nat} (h : b ≤ l.length) : (slice l a b).length = b - a := by
  rw [slice, List.length_take, List.length_drop]; omega
theorem slice_get {l : List Nat} {a b k : Nat} (hk : k < b - a) : (slice l a b).getD k 0 = l.getD (a + k) 0 := by
  simp [slice, List.getD_eq_getElem?_getD, List.getElem?_take, hk]
theorem ext_getD {l m : List Nat} (h : l.length = m.length) (hk : ∀ k, k < l.length → l.getD k 0 = m.getD k 0) : l = m := by
  apply List.ext_getElem? 
  intro k
  by_cases hl : k < l.length
  · have := hk k hl
    simp only [List.getD_eq_getElem?_getD] at this
    rw [List.getElem?_eq_getElem hl, List.getElem?_eq_getElem (by omega)] at this ⊢
    simpa using this
  · rw [List.getElem?_eq_none (by omega), List.getElem?_eq_none (by omega)]
theorem slice_eq {l m : List Nat} {a b c e : Nat} (hb : b ≤ l.length) (he : e ≤ m.length) : slice l a b = slice m c e ↔ (b - a = e - c ∧ ∀ k, k < b - a → l.getD (a + k) 0 = m.getD (c + k) 0) := by
  constructor
  · intro h
    have hl := congrArg List.length h
    rw [slice_len hb, slice_len he] at hl
    refine ⟨hl, fun k hk => ?_⟩
    rw [← slice_get hk, h, slice_get (by omega)]
  · intro h
    refine ext_getD (by rw [slice_len hb, slice_len he]; exact h.1) (fun k hk => ?_)
    rw [slice_len hb] at hk
    rw [slice_get hk, slice_get (by omega)]
    exact h.2 k hk
section Same
variable {S : sT} {j j2 N d : Nat} {Q : Option Value → sm_H → Prop}
theorem sK_rt {p e : Nat} (hj : j < 11) (hw : okB S j) (hpe : p ≤ e) (he : e < 100000) (hQ : Q (some (.int (if utf (bl S j) (e - p) p e then 1 else 0))) (hp S)) : sm_T N (d + 3) mm_K_isRightText [.ref (11 + 2 * j), .int (nI p), .int (nI e)] (hp S) Q := by
  have ch4 : ∀ a, chS (bl S j) a e ≤ 4 := by
    intro a
    unfold chS
    repeat' split
    all_goals omega
  have key : ∀ (m n a : Nat), n + m = e → n ≤ a → a < 200000 → Q (some (.int (if utf (bl S j) m a e then 1 else 0))) (hp S) → sm_W N (d + 2 + 1) mm_K_isRightText 5 [(0, .ref (11 + 2 * j)), (2, .int (nI e)), (3, .int (nI a)), (4, .int (nI n))] [] (hp S) Q := by
    intro m
    induction m with
    | zero =>
      intro n a hn ha hb hq
      rw [utf, if_pos (by simp; omega)] at hq
      refine kK_isRightText_5 ⟨fun _ => hq, fun c => ?_⟩
      exact absurd ((nI_leI (by omega) (by omega)).mpr (by omega)) c
    | succ m ih =>
      intro n a hn ha hb hq
      rw [utf] at hq
      refine kK_isRightText_5 ⟨fun c => ?_, fun _ => ⟨fun c => ?_, fun c => ?_⟩⟩
      · exact absurd ((nI_leI (by omega) (by omega)).mp c) (by omega)
      · rw [nI_leI (by omega) (by omega)] at c
        rw [if_pos c] at hq
        exact hq
      · rw [nI_leI (by omega) (by omega)] at c
        rw [if_neg c] at hq
        have h4 := ch4 a
        refine sK_chS hj hw (by omega) (by omega) ⟨_, rfl, fun c2 => ?_, fun c2 => ?_⟩
        · rw [nI_eql (by omega) (by omega)] at c2
          rw [if_pos c2] at hq
          exact hq
        · rw [nI_eql (by omega) (by omega)] at c2
          rw [if_neg c2] at hq
          rw [nI_add, nI_1]
          exact ih (n + 1) _ (by omega) (by omega) (by omega) hq
  exact cK_isRightText (key (e - p) p p (by omega) (Nat.le_refl _) (by omega) hQ)
theorem sD_sameRange {a b c e : Nat} (hj : j < 11) (hw : okB S j) (hj2 : j2 < 11) (hw2 : okB S j2) (hab : a ≤ b) (hb : b ≤ (bl S j).length) (hce : c ≤ e) (he : e ≤ (bl S j2).length) (hQ : Q (some (.int (if slice (bl S j) a b = slice (bl S j2) c e then 1 else 0))) (hp S)) : sm_T N (d + 2) mm_D_sameRange [.ref (11 + 2 * j), .int (nI a), .int (nI b), .ref (11 + 2 * j2), .int (nI c), .int (nI e)] (hp S) Q := by
  have l1 := bl_lenB hw
  have l2 := bl_lenB hw2
  have c1 := caps_le j
  have c2 := caps_le j2
  have hse := slice_eq (a := a) (c := c) hb he
  have key : ∀ (m i : Nat), i + m = b - a → b - a = e - c → (∀ k, k < i → (bl S j).getD (a + k) 0 = (bl S j2).getD (c + k) 0) → sm_W N (d + 1 + 1) mm_D_sameRange 20 [(0, .ref (11 + 2 * j)), (1, .int (nI a)), (3, .ref (11 + 2 * j2)), (4, .int (nI c)), (6, .int (nI (b - a))), (7, .int (nI i))] [] (hp S) Q := by
    intro m
    induction m with
    | zero =>
      intro i hi hl hk
      rw [if_pos (hse.mpr ⟨hl, fun k q => hk k (by omega)⟩)] at hQ
      refine kD_sameRange_20 ⟨fun _ => hQ, fun q => ?_⟩
      exact absurd ((nI_leI (by omega) (by omega)).mpr (by omega)) q
    | succ m ih =>
      intro i hi hl hk
      refine kD_sameRange_20 ⟨fun q => ?_, fun _ => ?_⟩
      · exact absurd ((nI_leI (by omega) (by omega)).mp q) (by omega)
      · have b1 := bl_lt S j (a + i)
        have b2 := bl_lt S j2 (c + i)
        rw [nI_add, nI_add, nI_1]
        refine sB_atn hj hw (by omega) ⟨_, rfl, sB_atn hj2 hw2 (by omega) ⟨_, rfl, fun q => ?_, fun q => ?_⟩⟩
        · rw [nI_eq (by omega) (by omega)] at q
          refine ih (i + 1) (by omega) hl (fun k hk2 => ?_)
          by_cases hki : k < i
          · exact hk k hki
          · have : k = i := by omega
            subst this
            exact q
        · rw [nI_eq (by omega) (by omega)] at q
          rw [if_neg (fun z => q ((hse.mp z).2 i (by omega)))] at hQ
          exact hQ
  refine cD_sameRange ⟨fun q => ?_, fun q => ?_⟩
  · rw [pk_sub hab, pk_sub hce, nI_eq (by omega) (by omega)] at q
    rw [pk_sub hab]
    exact key (b - a) 0 (by omega) q (fun k hk => absurd hk (by omega))
  · rw [pk_sub hab, pk_sub hce, nI_eq (by omega) (by omega)] at q
    rw [if_neg (fun z => q (hse.mp z).1)] at hQ
    exact hQ
theorem sD_sameNames {A A2 B B2 n1 n2 : List Nat} (hj : j < 11) (hw : okB S j) (hj2 : j2 < 11) (hw2 : okB S j2) (h1 : bl S j = A ++ (n1 ++ 0 :: B)) (h2 : bl S j2 = A2 ++ (n2 ++ 0 :: B2)) (z1 : ∀ b ∈ n1, b ≠ 0) (z2 : ∀ b ∈ n2, b ≠ 0) (hQ : Q (some (.int (if n1 = n2 then 1 else 0))) (hp S)) : sm_T N (d + 2) mm_D_sameNames [.ref (11 + 2 * j), .int (nI A.length), .ref (11 + 2 * j2), .int (nI A2.length)] (hp S) Q := by
  have l1 := bl_lenB hw
  have l2 := bl_lenB hw2
  have c1 := caps_le j
  have c2 := caps_le j2
  have e1 := congrArg List.length h1
  have e2 := congrArg List.length h2
  simp only [List.length_append, List.length_cons] at e1 e2
  have key : ∀ (m1 m2 p1 p2 : List Nat), p1 ++ m1 = n1 → p2 ++ m2 = n2 → p1 = p2 → sm_W N (d + 1 + 1) mm_D_sameNames 3 [(0, .ref (11 + 2 * j)), (1, .int (nI A.length)), (2, .ref (11 + 2 * j2)), (3, .int (nI A2.length)), (4, .int (nI p1.length))] [] (hp S) Q := by
    intro m1
    induction m1 with
    | nil =>
      intro m2 p1 p2 q1 q2 hpp
      subst hpp
      rw [List.append_nil] at q1
      subst q1
      have g1 : (bl S j).getD (A.length + p1.length) 0 = 0 := by
        rw [h1, getD_app_r, getD_app_r' (k := 0) (by omega)]; rfl
      obtain ⟨n, hn, hl1, hf⟩ := id hw
      have hnl := bl_len hn hl1
      have b2 := bl_lt S j2 (A2.length + p1.length)
      have e3 := congrArg List.length q2
      simp only [List.length_append] at e3
      refine kD_sameNames_3 ⟨_, hb_g1 S hj, fun q => ?_, fun _ => ?_⟩
      · rw [hl1] at q
        exact absurd ((nI_leI (by omega) (by omega)).mp q) (by omega)
      · rw [nI_add, nI_add]
        refine sB_atn hj hw (by omega) ⟨_, rfl, sB_atn hj2 hw2 (by omega) ⟨_, rfl, fun q => ⟨fun _ => ?_, fun q2 => ?_⟩, fun q => ?_⟩⟩
        · rw [g1, nI_eq (by omega) (by omega)] at q
          cases m2 with
          | nil =>
            rw [List.append_nil] at q2
            rw [if_pos q2] at hQ
            exact hQ
          | cons b m2 =>
            rw [h2, ← q2, List.append_assoc, getD_app_r, getD_app_r' (k := 0) (by omega)] at q
            exact absurd q.symm (z2 b (by rw [← q2]; simp))
        · rw [g1] at q2
          exact absurd rfl q2
        · rw [g1, nI_eq (by omega) (by omega)] at q
          cases m2 with
          | nil =>
            rw [List.append_nil] at q2
            rw [h2, ← q2, getD_app_r, getD_app_r' (k := 0) (by omega)] at q
            exact absurd rfl q
          | cons b m2 =>
            rw [if_neg (by rw [← q2]; intro z; have := congrArg List.length z; simp at this)] at hQ
            exact hQ
    | cons x m1 ih =>
      intro m2 p1 p2 q1 q2 hpp
      subst hpp
      have g1 : (bl S j).getD (A.length + p1.length) 0 = x := by
        rw [h1, ← q1, List.append_assoc, getD_app_r, getD_app_r' (k := 0) (by omega)]; rfl
      have x0 : x ≠ 0 := z1 x (by rw [← q1]; simp)
      obtain ⟨n, hn, hl1, hf⟩ := id hw
      have hnl := bl_len hn hl1
      have b1 := bl_lt S j (A.length + p1.length)
      have b2 := bl_lt S j2 (A2.length + p1.length)
      have e3 := congrArg List.length q2
      have e4 := congrArg List.length q1
      simp only [List.length_append, List.length_cons] at e3 e4
      refine kD_sameNames_3 ⟨_, hb_g1 S hj, fun q => ?_, fun _ => ?_⟩
      · rw [hl1] at q
        exact absurd ((nI_leI (by omega) (by omega)).mp q) (by omega)
      · rw [nI_add, nI_add]
        refine sB_atn hj hw (by omega) ⟨_, rfl, sB_atn hj2 hw2 (by omega) ⟨_, rfl, fun q => ⟨fun q2 => ?_, fun _ => ?_⟩, fun q => ?_⟩⟩
        · rw [nI_eql (by omega) (by omega), g1] at q2
          exact absurd q2 x0
        · rw [nI_eq (by omega) (by omega), g1] at q
          cases m2 with
          | nil =>
            rw [List.append_nil] at q2
            rw [h2, ← q2, getD_app_r, getD_app_r' (k := 0) (by omega)] at q
            exact absurd q x0
          | cons y m2 =>
            rw [h2, ← q2, List.append_assoc, getD_app_r, getD_app_r' (k := 0) (by omega)] at q
            have q' : x = y := q
            subst q'
            have := ih m2 (p1 ++ [x]) (p1 ++ [x]) (by simp [q1]) (by simp [q2]) rfl
            rw [List.length_append, List.length_singleton] at this
            rw [nI_1]
            exact this
        · rw [nI_eq (by omega) (by omega), g1] at q
          rw [if_neg (fun z => ?_)] at hQ
          · exact hQ
          · rw [← q1, ← q2] at z
            cases m2 with
            | nil =>
              have := congrArg List.length z
              simp at this
            | cons y m2 =>
              have z2 := List.append_cancel_left z
              rw [h2, ← q2, List.append_assoc, getD_app_r, getD_app_r' (k := 0) (by omega)] at q
              exact q (List.cons.inj z2).1
  exact cD_sameNames (key n1 n2 [] [] rfl rfl rfl)
theorem sD_isHolder {k : Nat} (hk : k < 256) (hQ : Q (some (.int (if k = 3 ∨ k = 4 then 1 else 0))) (hp S)) : sm_T N (d + 1) mm_D_isHolder [.int (nI k)] (hp S) Q := by
  refine cD_isHolder ⟨fun c => kD_isHolder_10 ?_, fun c => ⟨fun c2 => kD_isHolder_10 ?_, fun c2 => ?_⟩⟩
  · rw [nI_eql (by omega) (by omega)] at c
    rw [if_pos (Or.inl c)] at hQ
    exact hQ
  · rw [nI_eql (by omega) (by omega)] at c2
    rw [if_pos (Or.inr c2)] at hQ
    exact hQ
  · rw [nI_eql (by omega) (by omega)] at c c2
    rw [if_neg (fun z => z.elim c c2)] at hQ
    exact hQ
theorem sD_isNumber {k : Nat} (hk : k < 256) (hQ : Q (some (.int (if k = 16 ∨ k = 18 then 1 else 0))) (hp S)) : sm_T N (d + 1) mm_D_isNumber [.int (nI k)] (hp S) Q := by
  refine cD_isNumber ⟨fun c => kD_isNumber_12 ?_, fun c => ⟨fun c2 => kD_isNumber_12 ?_, fun c2 => ?_⟩⟩
  · rw [nI_eql (by omega) (by omega)] at c
    rw [if_pos (Or.inl c)] at hQ
    exact hQ
  · rw [nI_eql (by omega) (by omega)] at c2
    rw [if_pos (Or.inr c2)] at hQ
    exact hQ
  · rw [nI_eql (by omega) (by omega)] at c c2
    rw [if_neg (fun z => z.elim c c2)] at hQ
    exact hQ
end Same
