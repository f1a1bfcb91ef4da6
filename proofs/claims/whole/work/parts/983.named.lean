/-! the class's plan: a name held against a text -/
def txt (i : Nat) : List Nat := [[36, 115, 101, 116], [36, 117, 110, 115, 101, 116], [36, 105, 110, 99], [36, 112, 117, 115, 104], [36, 112, 117, 108, 108], addN].getD i []
theorem txt_len {j : Nat} (hj : j < 6) : sm_sl.getD j 0 = (txt j).length := by
  rcases (show j = 0 ∨ j = 1 ∨ j = 2 ∨ j = 3 ∨ j = 4 ∨ j = 5 by omega) with rfl | rfl | rfl | rfl | rfl | rfl <;> rfl
theorem txt_le {j : Nat} (hj : j < 6) : (txt j).length ≤ 9 := by
  rcases (show j = 0 ∨ j = 1 ∨ j = 2 ∨ j = 3 ∨ j = 4 ∨ j = 5 by omega) with rfl | rfl | rfl | rfl | rfl | rfl <;> decide
theorem txt_ok {j : Nat} (hj : j < 6) : ∀ c ∈ txt j, c ≠ 0 ∧ c < 256 := by
  rcases (show j = 0 ∨ j = 1 ∨ j = 2 ∨ j = 3 ∨ j = 4 ∨ j = 5 by omega) with rfl | rfl | rfl | rfl | rfl | rfl <;> decide
theorem txt_ch {j k : Nat} (hj : j < 6) (hk : k < (txt j).length) : (sm_sb.getD j []).getD k 0 &&& 255 = nI ((txt j).getD k 0) := by
  have key : ∀ j, j < 6 → ∀ k, k < 9 → k < (txt j).length → (sm_sb.getD j []).getD k 0 &&& 255 = nI ((txt j).getD k 0) := by decide +kernel
  exact key j hj k (by have := txt_le hj; omega) hk
section Nm
variable {N d : Nat} {Q : Option Value → sm_H → Prop} {S : sT}
set_option maxRecDepth 20000 in
theorem nd_2 {A B nm : List Nat} {j : Nat} (hw : okB S 6) (hj : j < 6) (h : bl S 6 = A ++ (nm ++ 0 :: B)) (hz : ∀ b ∈ nm, b ≠ 0) : ∀ (u P r : List Nat), txt j = P ++ u → nm = P ++ r → Q (some (.int (if nm = txt j then 1 else 0))) (hp S) → sm_W N (d + 7 + 1) mm_P_isNamed 2 [(3, .int (nI P.length)), (0, .ref 4), (1, .int (nI A.length)), (2, .retAddr j)] [] (hp S) Q := by
  have hlen := bl_lenB hw
  rw [show caps 6 = 2000 from rfl] at hlen
  have htl := txt_le hj
  have hnl : A.length + nm.length < 3000 := by
    rw [h, List.length_append, List.length_append] at hlen
    omega
  intro u
  induction u with
  | nil =>
    intro P r ht hn hQ
    rw [List.append_nil] at ht
    refine sm_iload_n (k := 3) 3 0 (by decide +kernel) rfl rfl rfl ?_
    refine sm_aload_nS (k := 2) 4 3 (by decide +kernel) rfl rfl rfl ?_
    refine sm_callW (M2 := mm_S_length) (av := []) (rest := [.int (nI P.length)]) 7 (by decide +kernel) mw_length_92 (Nat.le_refl _) rfl hj rfl (Nat.le_of_ble_eq_true rfl) rfl (sS_length (d := d + 5) (Q := fun r h1 => r = some (.int (nI (txt j).length)) ∧ h1 = hp S) hj ⟨by rw [txt_len hj]; rfl, rfl⟩) ?_
    rintro r1 h1 ⟨rfl, rfl⟩
    rw [ht]
    refine sm_icmp_ge (off := 29) 10 36 (by decide +kernel) (by decide) rfl (fun _ => ?_) (fun q => absurd (Int32.le_refl _) q)
    refine sm_aload_n (k := 0) 37 1 (by decide +kernel) rfl rfl rfl ?_
    refine sm_get 40 (by decide +kernel) fl_P_14 (hg_4_0 S) rfl ?_
    refine sm_iload_n (k := 1) 41 2 (by decide +kernel) rfl rfl rfl ?_
    refine sm_aload_nS (k := 2) 42 3 (by decide +kernel) rfl rfl rfl ?_
    refine sm_callW (M2 := mm_S_length) (av := []) (rest := [.int (nI A.length), .ref 23]) 45 (by decide +kernel) mw_length_92 (Nat.le_refl _) rfl hj rfl (Nat.le_of_ble_eq_true rfl) rfl (sS_length (d := d + 5) (Q := fun r h1 => r = some (.int (nI (txt j).length)) ∧ h1 = hp S) hj ⟨by rw [txt_len hj]; rfl, rfl⟩) ?_
    rintro r1 h1 ⟨rfl, rfl⟩
    refine sm_iadd 46 (by decide +kernel) rfl ?_
    rw [nI_add]
    have hrd : (bl S 6).getD (A.length + (txt j).length) 0 = (r ++ 0 :: B).headD 0 := by
      rw [h, hn, ht, List.append_assoc, ← List.append_assoc A P, List.getD_eq_getElem?_getD, List.getElem?_append_right (by rw [List.length_append]; omega), List.length_append, Nat.sub_self, ← List.head?_eq_getElem?]
      cases (r ++ 0 :: B) <;> rfl
    refine sm_callV (M2 := mm_B_at) (av := [.int (nI (A.length + (txt j).length))]) (rest := []) 49 (by decide +kernel) ml_P_56 (Nat.le_refl _) rfl rfl (Nat.le_of_ble_eq_true rfl) rfl (sB_atn (j := 6) (d := d + 6) (Q := fun r1 h1 => r1 = some (.int (nI ((r ++ 0 :: B).headD 0))) ∧ h1 = hp S) (by omega) hw (by omega) ⟨by rw [hrd], rfl⟩) ?_
    rintro r1 h1 ⟨rfl, rfl⟩
    cases r with
    | nil =>
      refine sm_if_ne (off := 7) 52 56 (by decide +kernel) (by decide) rfl (fun q => absurd rfl q) (fun _ => ?_)
      refine sm_iconst (i := 1) (x := 1) 53 (by decide +kernel) rfl rfl ?_
      refine sm_goto (off := 4) 57 (by decide +kernel) (by decide) ?_
      refine sm_zret rfl (by decide +kernel) (Or.inr rfl) ?_
      rw [if_pos (by rw [hn, ht, List.append_nil])] at hQ
      exact hQ
    | cons b r =>
      have hb := hz b (by rw [hn]; simp)
      refine sm_if_ne (off := 7) 52 56 (by decide +kernel) (by decide) rfl (fun _ => ?_) (fun q => ?_)
      · refine sm_iconst (i := 0) (x := 0) 57 (by decide +kernel) rfl rfl ?_
        refine sm_zret rfl (by decide +kernel) (Or.inl rfl) ?_
        rw [if_neg (fun z => ?_)] at hQ
        · exact hQ
        · rw [hn, ht] at z
          have := congrArg List.length z
          rw [List.length_append, List.length_cons] at this
          omega
      · have hb2 : b < 256 := by have := bl_lt S 6 (A.length + (txt j).length); rw [hrd] at this; exact this
        have q' : nI b = 0 := q
        rw [nI_eql (by omega) (by omega)] at q'
        exact absurd q' hb
  | cons c u ih =>
    intro P r ht hn hQ
    have hPl : P.length < (txt j).length := by rw [ht, List.length_append, List.length_cons]; omega
    have hc := txt_ok hj c (by rw [ht]; simp)
    refine sm_iload_n (k := 3) 3 0 (by decide +kernel) rfl rfl rfl ?_
    refine sm_aload_nS (k := 2) 4 3 (by decide +kernel) rfl rfl rfl ?_
    refine sm_callW (M2 := mm_S_length) (av := []) (rest := [.int (nI P.length)]) 7 (by decide +kernel) mw_length_92 (Nat.le_refl _) rfl hj rfl (Nat.le_of_ble_eq_true rfl) rfl (sS_length (d := d + 5) (Q := fun r h1 => r = some (.int (nI (txt j).length)) ∧ h1 = hp S) hj ⟨by rw [txt_len hj]; rfl, rfl⟩) ?_
    rintro r1 h1 ⟨rfl, rfl⟩
    refine sm_icmp_ge (off := 29) 10 36 (by decide +kernel) (by decide) rfl (fun q => ?_) (fun _ => ?_)
    · rw [nI_leI (by omega) (by omega)] at q
      omega
    refine sm_aload_n (k := 0) 11 1 (by decide +kernel) rfl rfl rfl ?_
    refine sm_get 14 (by decide +kernel) fl_P_14 (hg_4_0 S) rfl ?_
    refine sm_iload_n (k := 1) 15 2 (by decide +kernel) rfl rfl rfl ?_
    refine sm_iload_n (k := 3) 16 0 (by decide +kernel) rfl rfl rfl ?_
    refine sm_iadd 17 (by decide +kernel) rfl ?_
    rw [nI_add]
    have hrd : (bl S 6).getD (A.length + P.length) 0 = (r ++ 0 :: B).headD 0 := by
      rw [h, hn, List.append_assoc, ← List.append_assoc A P, List.getD_eq_getElem?_getD, List.getElem?_append_right (by rw [List.length_append]; omega), List.length_append, Nat.sub_self, ← List.head?_eq_getElem?]
      cases (r ++ 0 :: B) <;> rfl
    refine sm_callV (M2 := mm_B_at) (av := [.int (nI (A.length + P.length))]) (rest := []) 20 (by decide +kernel) ml_P_56 (Nat.le_refl _) rfl rfl (Nat.le_of_ble_eq_true rfl) rfl (sB_atn (j := 6) (d := d + 6) (Q := fun r1 h1 => r1 = some (.int (nI ((r ++ 0 :: B).headD 0))) ∧ h1 = hp S) (by omega) hw (by omega) ⟨by rw [hrd], rfl⟩) ?_
    rintro r1 h1 ⟨rfl, rfl⟩
    refine sm_aload_nS (k := 2) 21 3 (by decide +kernel) rfl rfl rfl ?_
    refine sm_iload_n (k := 3) 22 0 (by decide +kernel) rfl rfl rfl ?_
    have hch : (sm_sb.getD j []).getD (nI P.length).toNatClampNeg 0 &&& 255 = nI c := by
      rw [nI_clamp (by omega), txt_ch hj hPl, ht, List.getD_eq_getElem?_getD, List.getElem?_append_right (Nat.le_refl _), Nat.sub_self]
      rfl
    refine sm_callW (M2 := mm_S_charAt) (av := [.int (nI P.length)]) (rest := [.int (nI ((r ++ 0 :: B).headD 0))]) 25 (by decide +kernel) mw_charAt_98 (Nat.le_refl _) rfl hj rfl (Nat.le_of_ble_eq_true rfl) rfl (sS_charAt (d := d + 3) (Q := fun r1 h1 => r1 = some (.int (nI c)) ∧ h1 = hp S) hj (by rw [nI_t (by omega), txt_len hj]; exact ⟨by omega, by omega⟩) ⟨by rw [hch], rfl⟩) ?_
    rintro r1 h1 ⟨rfl, rfl⟩
    have no : ∀ z : Prop, (nm = txt j → False) → Q (some (.int 0)) (hp S) := fun _ z => by
      rw [if_neg z] at hQ
      exact hQ
    refine sm_icmp_eq (off := 5) 28 30 (by decide +kernel) (by decide) rfl (fun q => ?_) (fun q => ?_)
    · cases r with
      | nil =>
        have q' : nI 0 = nI c := q
        rw [nI_eq (by omega) (by omega)] at q'
        exact absurd q'.symm hc.1
      | cons b r =>
        have hb2 : b < 256 := by have := bl_lt S 6 (A.length + P.length); rw [hrd] at this; exact this
        have q' : nI b = nI c := q
        rw [nI_eq (by omega) (by omega)] at q'
        subst q'
        refine sm_iinc (i := 3) (j := 0) (z := 1) (y := nI (P.length + 1)) 33 [(3, .int (nI (P.length + 1))), (0, .ref 4), (1, .int (nI A.length)), (2, .retAddr j)] (by decide +kernel) rfl (nI_add P.length 1) (by decide) rfl rfl ?_
        refine sm_goto (off := -31) 2 (by decide +kernel) (by decide) ?_
        have := ih (P ++ [b]) r (by rw [ht]; simp) (by rw [hn]; simp) hQ
        rw [List.length_append] at this
        exact this
    · refine sm_iconst (i := 0) (x := 0) 29 (by decide +kernel) rfl rfl ?_
      refine sm_zret rfl (by decide +kernel) (Or.inl rfl) ?_
      refine no True (fun z => ?_)
      rw [hn, ht] at z
      have z2 := List.append_cancel_left z
      rw [z2] at q
      exact absurd rfl q
end Nm
theorem sP_isNamed {S : sT} {N d : Nat} {Q : Option Value → sm_H → Prop} {A B nm : List Nat} {i : Nat} (hw : okB S 6) (hi : i < 6) (h : bl S 6 = A ++ (nm ++ 0 :: B)) (hz : ∀ b ∈ nm, b ≠ 0) (hQ : Q (some (.int (if nm = txt i then 1 else 0))) (hp S)) : sm_V N (d + 8) mm_P_isNamed 3 4 [.int (nI A.length), .retAddr i] (hp S) Q := by
  refine ⟨hk_4 S, sm_meth (L := [(0, .ref 4), (1, .int (nI A.length)), (2, .retAddr i)]) (by decide +kernel) (fun _ => Nat.le_of_ble_eq_true rfl) (fun _ => rfl) ?_⟩
  refine sm_iconst (i := 0) (x := 0) 1 (by decide +kernel) rfl rfl ?_
  refine sm_istore_n (k := 3) 2 [(3, .int 0), (0, .ref 4), (1, .int (nI A.length)), (2, .retAddr i)] (by decide +kernel) rfl (by decide) rfl rfl ?_
  exact nd_2 hw hi h hz (txt i) [] nm rfl rfl hQ
