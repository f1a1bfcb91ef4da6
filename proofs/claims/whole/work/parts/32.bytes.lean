/-! Bytes: what each of its methods answers and does, over its list of bytes -/
theorem ub_ti (x : Int32) : (ub x : Int) = x.toInt % 256 := by
  have h : x.toInt = x.toBitVec.toInt := rfl
  rw [h, BitVec.toInt_eq_toNat_cond, ub]
  have := x.toBitVec.isLt
  split <;> omega
theorem ub_b (x : Int32) : ub x.toInt8.toInt32 = ub x := by
  have h1 := ub_ti x.toInt8.toInt32
  have h2 := ub_ti x
  rw [lg_i2b_toInt] at h1
  have h3 : (x.toInt.bmod (2 ^ 8)) % 256 = x.toInt % 256 := by
    have := Int.bmod_emod (x := x.toInt) (m := 256)
    exact this
  rw [h3] at h1
  omega
theorem up_id {α : Type} (f : Nat → α) (k : Nat) : va_up f k (f k) = f := by
  funext i
  unfold va_up
  split
  · rename_i e; rw [e]
  · rfl
theorem up_up {α : Type} (f : Nat → α) (k : Nat) (a b : α) : va_up (va_up f k a) k b = va_up f k b := bx_uu f k a b
/-- S2 is S but for Bytes j, whose bytes are l now -/
def eqB (j : Nat) (l : List Nat) (S S2 : sT) : Prop := (∃ g x, S2 = sI (sA S j g) (30 + j) x) ∧ okB S2 j ∧ bl S2 j = l
theorem eqB_id {j : Nat} {S : sT} (h : okB S j) : eqB j (bl S j) S S := ⟨⟨S.2.1 j, S.1 (30 + j), by simp [sI, sA, up_id]⟩, h, rfl⟩
theorem eqB_tr {j : Nat} {l1 l2 : List Nat} {S S1 S2 : sT} (h1 : eqB j l1 S S1) (h2 : eqB j l2 S1 S2) : eqB j l2 S S2 := by
  obtain ⟨⟨g1, x1, rfl⟩, -, -⟩ := h1
  obtain ⟨⟨g2, x2, rfl⟩, o, b⟩ := h2
  exact ⟨⟨g2, x2, by simp [sI, sA, up_up]⟩, o, b⟩
theorem eqB_i {j k : Nat} {l : List Nat} {S S2 : sT} (h : eqB j l S S2) (hk : k ≠ 30 + j) : S2.1 k = S.1 k := by
  obtain ⟨⟨g, x, rfl⟩, -, -⟩ := h
  simp [sI, sA, va_up, hk]
theorem eqB_a {j k : Nat} {l : List Nat} {S S2 : sT} (h : eqB j l S S2) (hk : k ≠ j) : S2.2.1 k = S.2.1 k := by
  obtain ⟨⟨g, x, rfl⟩, -, -⟩ := h
  simp [sI, sA, va_up, hk]
theorem eqB_l {j : Nat} {l : List Nat} {S S2 : sT} (h : eqB j l S S2) : S2.2.2 = S.2.2 := by
  obtain ⟨⟨g, x, rfl⟩, -, -⟩ := h
  rfl
theorem eqB_bl {j k : Nat} {l : List Nat} {S S2 : sT} (h : eqB j l S S2) (hk : k ≠ j) : bl S2 k = bl S k := by
  rw [bl, bl, eqB_a h hk, eqB_i h (by omega)]
theorem eqB_ok {j k : Nat} {l : List Nat} {S S2 : sT} (h : eqB j l S S2) (hk : okB S k) : okB S2 k := by
  by_cases e : k = j
  · subst e; exact h.2.1
  · obtain ⟨n, a, b, c⟩ := hk
    exact ⟨n, a, by rw [eqB_i h (by omega)]; exact b, fun i => by rw [eqB_a h e]; exact c i⟩
theorem bytesOf_upd {f : Nat → Int32} {n i : Nat} (x : Int32) (h : i < n) : bytesOf (upd f i x) 0 n = (bytesOf f 0 n).set i (ub x) := by
  apply List.ext_getElem?
  intro k
  rw [List.getElem?_set, bytesOf_len]
  simp only [bytesOf, List.getElem?_map, List.getElem?_range, Nat.zero_add]
  by_cases hk : k < n
  · by_cases e : i = k
    · subst e
      simp [hk, upd]
    · simp [hk, e, upd, Ne.symm e]
  · have : ¬ i = k := by omega
    simp [hk, this]
theorem bytesOf_cpy {f g : Nat → Int32} {sp dp c n m : Nat} (h1 : sp + c ≤ m) (h2 : dp + c ≤ n) : bytesOf (va_cpy f g sp dp c) 0 n = (bytesOf g 0 n).take dp ++ ((bytesOf f 0 m).drop sp).take c ++ (bytesOf g 0 n).drop (dp + c) := by
  apply List.ext_getElem?
  intro k
  have l1 : ((bytesOf g 0 n).take dp).length = dp := by rw [List.length_take, bytesOf_len]; omega
  have l2 : (((bytesOf f 0 m).drop sp).take c).length = c := by rw [List.length_take, List.length_drop, bytesOf_len]; omega
  rw [List.append_assoc, List.getElem?_append, l1]
  by_cases a : k < dp
  · rw [if_pos a, List.getElem?_take, if_pos a]
    simp only [bytesOf, List.getElem?_map, Nat.zero_add]
    by_cases hk : k < n
    · simp [List.getElem?_range, hk, pk_cpy_out (Or.inl a)]
    · simp [List.getElem?_range, hk]
  · rw [if_neg a, List.getElem?_append, l2]
    by_cases b : k - dp < c
    · rw [if_pos b, List.getElem?_take, if_pos b, List.getElem?_drop]
      simp only [bytesOf, List.getElem?_map, Nat.zero_add]
      have e1 : k < n := by omega
      have e2 : sp + (k - dp) < m := by omega
      simp [List.getElem?_range, e1, e2, pk_cpy_in (show dp ≤ k by omega) (show k < dp + c by omega)]
    · rw [if_neg b, List.getElem?_drop]
      have e : dp + c + (k - dp - c) = k := by omega
      rw [e]
      simp only [bytesOf, List.getElem?_map, Nat.zero_add]
      by_cases hk : k < n
      · simp [List.getElem?_range, hk, pk_cpy_out (show k < dp ∨ dp + c ≤ k by omega)]
      · simp [List.getElem?_range, hk]
theorem okB_upd {S : sT} {j i : Nat} {x : Int32} (h : okB S j) (hx : sB x) : okB (sA S j (upd (S.2.1 j) i x)) j := by
  obtain ⟨n, a, b, c⟩ := h
  refine ⟨n, a, b, fun k => ?_⟩
  simp only [sA, va_up, if_pos, upd]
  split
  · exact hx
  · exact c k
section BSpecs
variable {S : sT} {j N d : Nat} {Q : Option Value → sm_H → Prop}
theorem sB_put {i v : Int32} (hj : j < 11) (hw : okB S j) (hi : 0 ≤ i.toInt) (hQ : ∀ S2, eqB j ((bl S j).set i.toInt.toNat (ub v)) S S2 → Q none (hp S2)) : sm_V N (d + 1) mm_B_put 0 (11 + 2 * j) [.int i, .int v] (hp S) Q := by
  have hw0 := hw
  obtain ⟨n, hn, hl, hf⟩ := hw
  have hc := caps_le j
  refine cB_put (hb_k S hj) ⟨fun c => ?_, fun c => ⟨_, hb_g1 S hj, fun c2 => ?_, fun c2 => ⟨_, hb_g0 S hj, hp (sA S j (upd (S.2.1 j) i.toInt.toNat v.toInt8.toInt32)), ?_, ?_⟩⟩⟩
  · rw [ti_lt] at c
    simp at c
    omega
  · rw [hl, ti_le, nI_t (by omega)] at c2
    have e := eqB_id hw0
    rw [← List.set_eq_of_length_le (l := bl S j) (i := i.toInt.toNat) (a := ub v) (by rw [bl_len hn hl]; omega)] at e
    exact hQ S e
  · rw [hl, ti_le, nI_t (by omega)] at c2
    rw [hb_w S hj, if_pos ⟨hi, by omega⟩, pk_vb]
    rfl
  · rw [hl, ti_le, nI_t (by omega)] at c2
    refine hQ _ ⟨⟨upd (S.2.1 j) i.toInt.toNat v.toInt8.toInt32, S.1 (30 + j), ?_⟩, okB_upd hw0 (pk_fb v), ?_⟩
    · simp [sI, sA, up_id]
    · rw [bl_eq (S := sA S j _) hn hl, bl_eq hn hl]
      show bytesOf (va_up S.2.1 j _ j) 0 n = _
      rw [va_up_self, bytesOf_upd _ (by omega), ub_b]
end BSpecs
