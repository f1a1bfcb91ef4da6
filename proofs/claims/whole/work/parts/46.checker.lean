/-! the Checker: names and texts -/
theorem nI_tc {u : Nat} (h : u < 4294967296) : (nI u).toInt = if u < 2147483648 then (u : Int) else (u : Int) - 4294967296 := by
  rw [nI_jI, jI, Int32.toInt_ofInt]
  show (u : Int).bmod 4294967296 = _
  rw [Int.bmod_def]
  split <;> split <;> omega
/-- S2 is S but for what the Checker writes: its count, its names, its digits -/
def eqK (S S2 : sT) : Prop := (∀ k, k ≠ 3 → k ≠ 35 → S2.1 k = S.1 k) ∧ (∀ k, k ≠ 11 → k ≠ 5 → S2.2.1 k = S.2.1 k) ∧ S2.2.2 = S.2.2 ∧ okB S2 5
theorem eqK_rf {S : sT} (h : okB S 5) : eqK S S := ⟨fun _ _ _ => rfl, fun _ _ _ => rfl, rfl, h⟩
theorem eqK_tr {S S1 S2 : sT} (h1 : eqK S S1) (h2 : eqK S1 S2) : eqK S S2 := ⟨fun k a b => (h2.1 k a b).trans (h1.1 k a b), fun k a b => (h2.2.1 k a b).trans (h1.2.1 k a b), h2.2.2.1.trans h1.2.2.1, h2.2.2.2⟩
theorem eqK_bl {S S2 : sT} {j : Nat} (h : eqK S S2) (hj : j < 11) (h5 : j ≠ 5) : bl S2 j = bl S j := by
  rw [bl, bl, h.2.1 j (by omega) h5, h.1 (30 + j) (by omega) (by omega)]
theorem eqK_ok {S S2 : sT} {j : Nat} (h : eqK S S2) (hj : j < 11) (h5 : j ≠ 5) (hw : okB S j) : okB S2 j := by
  obtain ⟨n, a, b, c⟩ := hw
  exact ⟨n, a, by rw [h.1 (30 + j) (by omega) (by omega)]; exact b, fun i => by rw [h.2.1 j (by omega) h5]; exact c i⟩
theorem eqB_K {S S2 : sT} {l : List Nat} (h : eqB 5 l S S2) : eqK S S2 := ⟨fun k _ b => eqB_i h (by omega), fun k _ b => eqB_a h b, eqB_l h, h.2.1⟩
theorem sI_K {S : sT} (h : okB S 5) (x : Int32) : eqK S (sI S 3 x) := ⟨fun k a _ => by simp [sI, va_up, a], fun _ _ _ => rfl, rfl, by obtain ⟨n, a, b, c⟩ := h; exact ⟨n, a, b, c⟩⟩
theorem sA_K {S : sT} (h : okB S 5) (f : Nat → Int32) : eqK S (sA S 11 f) := ⟨fun _ _ _ => rfl, fun k a _ => by simp [sA, va_up, a], rfl, by obtain ⟨n, a, b, c⟩ := h; exact ⟨n, a, b, c⟩⟩
/-- a name stands at a place, and a 0 behind it -/
def NmAt (l : List Nat) (p : Nat) (nm : List Nat) : Prop := ∃ A B, l = A ++ (nm ++ 0 :: B) ∧ p = A.length ∧ ∀ b ∈ nm, b ≠ 0
theorem nmAt_zf {l : List Nat} {p : Nat} (hp : p ≤ l.length) (hz : zf l p < l.length) : NmAt l p (slice l p (zf l p)) := by
  have h1 := zf_le hp
  obtain ⟨a1, a2⟩ := zf_spec hp
  refine ⟨slice l 0 p, slice l (zf l p + 1) l.length, ?_, by rw [slice_len hp]; omega, fun b hb => ?_⟩
  · have e := sl_cons (l := l) (a := zf l p) (b := l.length) hz (Nat.le_refl _)
    rw [a2 hz] at e
    rw [← e, sl_app h1.1 h1.2, sl_app (by omega) hp, sl_all]
  · obtain ⟨i, hi, rfl⟩ := List.mem_iff_getElem.mp hb
    rw [slice_len h1.2] at hi
    have := a1 (p + i) (by omega) (by omega)
    rw [← sl_getD (b := zf l p) (by omega)] at this
    rwa [List.getD_eq_getElem?_getD, List.getElem?_eq_getElem (by rw [slice_len h1.2]; exact hi)] at this
section Chk
variable {S : sT} {j N d : Nat} {Q : Option Value → sm_H → Prop}
theorem sK_text {p e : Nat} (hj : j < 11) (hw : okB S j) (hpe : p ≤ e) (he : e ≤ (bl S j).length) (hQ : Q (some (.int (match tchk (slice (bl S j) p e) with | some n => nI (p + n) | none => -1))) (hp S)) : sm_T N (d + 4) mm_K_textEnd [.ref (11 + 2 * j), .int (nI p), .int (nI e)] (hp S) Q := by
  have hlen := bl_lenB hw
  have hc := caps_le j
  have hsl := slice_len (l := bl S j) (a := p) he
  have hu := u4_lt S j p
  have em : ((nI e - nI p) - 4).toInt = (e : Int) - p - 4 := by
    rw [ti_sub (by rw [pk_sub_toInt (by omega) (by omega)]; simp; omega) (by rw [pk_sub_toInt (by omega) (by omega)]; simp; omega), pk_sub_toInt (by omega) (by omega)]
    simp
  refine cK_textEnd (sB_intAt hj hw (by omega) ⟨_, rfl, fun c => ?_, fun c => ⟨fun c2 => ?_, fun c2 => ?_⟩⟩)
  · have : tchk (slice (bl S j) p e) = none := by
      rw [tchk, if_neg]
      rintro ⟨g1, g2, g3, -⟩
      rw [hsl] at g1 g3
      rw [sl_u4 (by omega), Nat.add_zero] at g2 g3
      rw [i4, if_pos (by omega), ti_lt, nI_t (by omega)] at c
      simp at c
      omega
    rw [this] at hQ
    exact hQ
  · rw [ti_le, em] at c2
    rw [ti_lt] at c
    simp at c
    have h4 : p + 4 ≤ e := by
      rw [i4] at c2 c
      split at c2
      · rename_i q
        rw [if_pos q] at c
        omega
      · rename_i q
        rw [if_neg q] at c
        simp at c
    rw [i4, if_pos (by omega)] at c c2 ⊢
    rw [nI_tc hu] at c c2
    have u1 : u4 (bl S j) p < 2147483648 := by
      split at c
      · assumption
      · omega
    rw [if_pos u1] at c c2
    have e1 : ((nI p + 4) + nI (u4 (bl S j) p)) - 1 = nI (p + 3 + u4 (bl S j) p) := by
      rw [nI_al, nI_add, nI_sl (show 1 ≤ _ by omega)]
      exact congrArg nI (by omega)
    rw [e1]
    have gl := bl_lt S j (p + 3 + u4 (bl S j) p)
    refine sB_atn hj hw (by omega) ⟨_, rfl, fun q => ?_, fun q => ?_⟩
    · rw [nI_eql (by omega) (by omega)] at q
      rw [nI_al]
      refine sK_rt hj hw (by omega) (by omega) ⟨_, rfl, fun q2 => ?_, fun q2 => ?_⟩
      · rw [rt_sl (by omega) (by omega)] at q2
        have : tchk (slice (bl S j) p e) = none := by
          rw [tchk, if_neg]
          rintro ⟨g1, g2, g3, g4, g5⟩
          rw [hsl] at g3
          rw [sl_u4 (by omega), Nat.add_zero] at g2 g3 g5
          rw [sl_sl (by omega), ← Nat.add_assoc] at g5
          rw [show OfNat.ofNat 4 = 4 from rfl, g5] at q2
          exact absurd q2 (by decide)
        rw [this] at hQ
        exact hQ
      · rw [rt_sl (by omega) (by omega)] at q2
        have : tchk (slice (bl S j) p e) = some (4 + u4 (bl S j) p) := by
          rw [tchk, sl_u4 (by omega), Nat.add_zero, if_pos]
          refine ⟨by omega, by omega, by omega, ?_, ?_⟩
          · rw [sl_getD (by omega)]
            rw [show p + (3 + u4 (bl S j) p) = p + 3 + u4 (bl S j) p by omega]
            exact q
          · rw [sl_sl (by omega), ← Nat.add_assoc]
            by_cases z : rt (slice (bl S j) (p + 4) (p + 3 + u4 (bl S j) p)) = true
            · exact z
            · exact absurd (by rw [show OfNat.ofNat 4 = 4 from rfl, if_neg z]) q2
        rw [this] at hQ
        rw [nI_add, Nat.add_assoc]
        exact hQ
    · rw [nI_eql (by omega) (by omega)] at q
      have : tchk (slice (bl S j) p e) = none := by
        rw [tchk, if_neg]
        rintro ⟨g1, g2, g3, g4, -⟩
        rw [hsl] at g3
        rw [sl_u4 (by omega), Nat.add_zero] at g2 g3 g4
        rw [sl_getD (by omega), show p + (3 + u4 (bl S j) p) = p + 3 + u4 (bl S j) p by omega] at g4
        exact q g4
      rw [this] at hQ
      exact hQ
  · have : tchk (slice (bl S j) p e) = none := by
      rw [tchk, if_neg]
      rintro ⟨g1, g2, g3, -⟩
      rw [hsl] at g1 g3
      rw [sl_u4 (by omega), Nat.add_zero] at g2 g3
      refine c2 ?_
      rw [ti_le, em, i4, if_pos (by omega), nI_t (by omega)]
      omega
    rw [this] at hQ
    exact hQ
theorem sK_isOneOf {f : Nat} {seen : List (List Nat)} {q : Nat} {nm : List Nat} (hj : j < 11) (hw : okB S j) (hc : S.1 3 = nI (f + seen.length)) (hf : f + seen.length < 1000) (hs : ∀ (i : Nat) (x : List Nat), seen[i]? = some x → ∃ p, NmAt (bl S j) p x ∧ S.2.1 11 (f + i) = nI p) (hn : NmAt (bl S j) q nm) (hQ : Q (some (.int (if nm ∈ seen then 1 else 0))) (hp S)) : sm_V N (d + 3) mm_K_isOneOf 1 2 [.ref (11 + 2 * j), .int (nI q), .int (nI f)] (hp S) Q := by
  have key : ∀ (m i : Nat), i + m = seen.length → nm ∉ seen.take i → sm_W N (d + 2 + 1) mm_K_isOneOf 7 [(0, .ref 2), (1, .ref (11 + 2 * j)), (2, .int (nI q)), (4, .int (nI (f + i)))] [] (hp S) Q := by
    intro m
    induction m with
    | zero =>
      intro i hi ht
      rw [List.take_of_length_le (by omega)] at ht
      rw [if_neg ht] at hQ
      refine kK_isOneOf_7 ⟨_, hg_2_2 S, fun _ => hQ, fun c => ?_⟩
      rw [hc] at c
      exact absurd ((nI_leI (by omega) (by omega)).mpr (by omega)) c
    | succ m ih =>
      intro i hi ht
      have hx : seen[i]? = some seen[i] := List.getElem?_eq_getElem (by omega)
      obtain ⟨p, ⟨A, B, g1, g2, g3⟩, g4⟩ := hs i _ hx
      obtain ⟨A2, B2, k1, k2, k3⟩ := hn
      refine kK_isOneOf_7 ⟨_, hg_2_2 S, fun c => ?_, fun _ => ⟨_, hg_2_0 S, _, hn_3 S, fun c => ?_, fun _ => ⟨_, hg_2_0 S, nI p, ?_, ?_⟩⟩⟩
      · rw [hc] at c
        exact absurd ((nI_leI (by omega) (by omega)).mp c) (by omega)
      · exact absurd ((nI_gel (by omega) (by omega)).mp c) (by omega)
      · rw [ha_3, nI_t (by omega), if_pos ⟨by omega, by omega⟩, nI_clamp (by omega), g4]
      · rw [g2, k2]
        refine sD_sameNames hj hw hj hw g1 k1 g3 k3 ⟨_, rfl, fun c => ?_, fun c => ?_⟩
        · have ne : ¬ seen[i] = nm := by
            intro z
            rw [if_pos z] at c
            exact absurd c (by decide)
          rw [nI_1, ← k2]
          have t : nm ∉ seen.take (i + 1) := by
            rw [List.take_succ, hx]
            simp only [Option.toList, List.mem_append, List.mem_singleton]
            rintro (z | z)
            · exact ht z
            · exact ne z.symm
          exact ih (i + 1) (by omega) t
        · have eq : seen[i] = nm := by
            by_cases z : seen[i] = nm
            · exact z
            · rw [if_neg z] at c
              exact absurd rfl c
          rw [if_pos (by rw [← eq]; exact List.getElem_mem ..)] at hQ
          exact hQ
  refine cK_isOneOf (hk_2 S) ?_
  unfold fK_isOneOf_0
  rw [if_neg (nI_pos (by omega))]
  exact key seen.length 0 (by omega) (by simp)
end Chk
