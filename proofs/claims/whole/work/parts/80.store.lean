/-! the reference's store: bytes put and copied -/
def eqS (l : List Nat) (S T : sT) : Prop := (∃ g, T = sA S 17 g) ∧ okSt T ∧ stl T = l
theorem eqS_id {S : sT} (h : okSt S) : eqS (stl S) S S := ⟨⟨S.2.1 17, by simp [sA, up_id]⟩, h, rfl⟩
theorem eqS_tr {l1 l2 : List Nat} {S S1 S2 : sT} (h1 : eqS l1 S S1) (h2 : eqS l2 S1 S2) : eqS l2 S S2 := by
  obtain ⟨⟨g1, rfl⟩, -, -⟩ := h1
  obtain ⟨⟨g2, rfl⟩, o, b⟩ := h2
  exact ⟨⟨g2, by simp [sA, up_up]⟩, o, b⟩
theorem eqS_i {l : List Nat} {S T : sT} (h : eqS l S T) : T.1 = S.1 := by
  obtain ⟨⟨g, rfl⟩, -, -⟩ := h
  rfl
theorem eqS_L {l : List Nat} {S T : sT} (h : eqS l S T) : T.2.2 = S.2.2 := by
  obtain ⟨⟨g, rfl⟩, -, -⟩ := h
  rfl
theorem eqS_a {k : Nat} {l : List Nat} {S T : sT} (h : eqS l S T) (hk : k ≠ 17) : T.2.1 k = S.2.1 k := by
  obtain ⟨⟨g, rfl⟩, -, -⟩ := h
  simp [sA, va_up, hk]
theorem nar_b (x : Int32) : vp_nar .byte x = x.toInt8.toInt32 := rfl
theorem eqS_set {S : sT} {k : Nat} (x : Int32) (hs : okSt S) (hk : k < 14100) : sm_pb (hp S) 34 (nI k) x = some (hp (sA S 17 (upd (S.2.1 17) k x.toInt8.toInt32))) ∧ eqS ((stl S).set k (ub x)) S (sA S 17 (upd (S.2.1 17) k x.toInt8.toInt32)) := by
  have h17 : (sA S 17 (upd (S.2.1 17) k x.toInt8.toInt32)).2.1 17 = upd (S.2.1 17) k x.toInt8.toInt32 := by simp [sA, va_up]
  refine ⟨by rw [hw_34, nI_t (by omega), if_pos ⟨by omega, by omega⟩, nI_clamp (by omega), nar_b], ⟨_, rfl⟩, fun i => ?_, ?_⟩
  · rw [h17]
    unfold upd
    split
    · exact pk_fb x
    · exact hs i
  · rw [stl, h17, bytesOf_upd _ hk, ub_b]
    rfl
/-- n bytes copied one by one from p to q -/
def cpL (l : List Nat) (q p : Nat) : Nat → List Nat
  | 0 => l
  | i + 1 => (cpL l q p i).set (q + i) ((cpL l q p i).getD (p + i) 0)
theorem cpL_len (l : List Nat) (q p i : Nat) : (cpL l q p i).length = l.length := by
  induction i with
  | zero => rfl
  | succ i ih => rw [cpL, List.length_set, ih]
theorem getD_set {l : List Nat} {i k v : Nat} (hi : i < l.length) : (l.set i v).getD k 0 = if k = i then v else l.getD k 0 := by
  rw [List.getD_eq_getElem?_getD, List.getD_eq_getElem?_getD, List.getElem?_set]
  by_cases h : i = k
  · subst h; simp [hi]
  · rw [if_neg h, if_neg (fun z => h z.symm)]
theorem cpL_get {l : List Nat} {q p n : Nat} (hd : q + n ≤ p ∨ p + n ≤ q ∨ q = p) (hq : q + n ≤ l.length) : ∀ i, i ≤ n → ∀ k, (cpL l q p i).getD k 0 = if q ≤ k ∧ k < q + i then l.getD (p + (k - q)) 0 else l.getD k 0 := by
  intro i
  induction i with
  | zero => intro _ k; rw [if_neg (by omega)]; rfl
  | succ i ih =>
    intro hi k
    rw [cpL, getD_set (by rw [cpL_len]; omega), ih (by omega), ih (by omega)]
    by_cases h : k = q + i
    · subst h
      have h2 : ¬ (q ≤ p + i ∧ p + i < q + i) := by omega
      rw [if_pos rfl, if_neg h2, if_pos (show q ≤ q + i ∧ q + i < q + (i + 1) from ⟨by omega, by omega⟩), show q + i - q = i by omega]
    · rw [if_neg h]
      by_cases h2 : q ≤ k ∧ k < q + i
      · rw [if_pos h2, if_pos ⟨by omega, by omega⟩]
      · rw [if_neg h2, if_neg (by omega)]
theorem sl_ext {l m : List Nat} {a b c e : Nat} (hb : b ≤ l.length) (he : e ≤ m.length) (hlen : b - a = e - c) (h : ∀ k, k < b - a → l.getD (a + k) 0 = m.getD (c + k) 0) : slice l a b = slice m c e := by
  apply List.ext_getElem?
  intro k
  have l1 : (slice l a b).length = b - a := slice_len hb
  have l2 : (slice m c e).length = e - c := slice_len he
  by_cases hk : k < b - a
  · have g1 := sl_getD (l := l) (a := a) (b := b) (k := k) (by omega)
    have g2 := sl_getD (l := m) (a := c) (b := e) (k := k) (by omega)
    rw [h k hk, ← g2] at g1
    rw [List.getD_eq_getElem?_getD, List.getD_eq_getElem?_getD, List.getElem?_eq_getElem (by omega), List.getElem?_eq_getElem (by omega)] at g1
    rw [List.getElem?_eq_getElem (by omega), List.getElem?_eq_getElem (by omega)]
    simpa using g1
  · rw [List.getElem?_eq_none (by omega), List.getElem?_eq_none (by omega)]
theorem cpL_in {l : List Nat} {q p n : Nat} (hd : q + n ≤ p ∨ p + n ≤ q ∨ q = p) (hq : q + n ≤ l.length) (hp1 : p + n ≤ l.length) : slice (cpL l q p n) q (q + n) = slice l p (p + n) := by
  refine sl_ext (by rw [cpL_len]; exact hq) hp1 (by omega) (fun k hk => ?_)
  rw [cpL_get hd hq n (Nat.le_refl _), if_pos ⟨by omega, by omega⟩, show q + k - q = k by omega]
theorem cpL_out {l : List Nat} {q p n a b : Nat} (hd : q + n ≤ p ∨ p + n ≤ q ∨ q = p) (hq : q + n ≤ l.length) (hb : b ≤ l.length) (ho : b ≤ q ∨ q + n ≤ a) : slice (cpL l q p n) a b = slice l a b := by
  refine sl_ext (by rw [cpL_len]; exact hb) hb rfl (fun k hk => ?_)
  rw [cpL_get hd hq n (Nat.le_refl _), if_neg (by omega)]
section Cp
variable {N d : Nat} {Q : Option Value → sm_H → Prop}
theorem sM_copy0 {S : sT} {r s n : Nat} (hs : okSt S) (hr : r < 4) (hs4 : s < 4) (hn : u4 (stl S) (2000 * s) = n) (hn2 : n ≤ 2000) (hQ : ∀ T, eqS (cpL (stl S) (2000 * r) (2000 * s) n) S T → Q (some (.int 1)) (hp T)) : sm_V N (d + 3) mm_M_copy 5 33 [.int (nI r), .int (nI s)] (hp S) Q := by
  have isl : ∀ x : Nat, x < 4 → (if 0 ≤ (nI x).toInt ∧ (nI x).toInt < 4 then (1 : Int32) else 0) = 1 := by
    intro x hx
    rw [nI_t (by omega), if_pos ⟨by omega, by omega⟩]
  refine cM_copy (hk_33 S) (sM_isSlot ⟨_, rfl, fun c => ?_, fun _ => sM_isSlot ⟨_, rfl, fun c => ?_, fun _ => ?_⟩⟩)
  · rw [isl r hr] at c; exact absurd c (by decide)
  · rw [isl s hs4] at c; exact absurd c (by decide)
  · rw [nI_mul]
    refine sM_whole (by omega) ⟨_, rfl, ?_⟩
    rw [hn]
    have key : ∀ (m i : Nat) (T : sT), i + m = n → eqS (cpL (stl S) (2000 * r) (2000 * s) i) S T → sm_W N (d + 2 + 1) mm_M_copy 29 [(0, .ref 33), (1, .int (nI r)), (2, .int (nI s)), (3, .int (nI n)), (4, .int (nI i))] [] (hp T) Q := by
      intro m
      induction m with
      | zero =>
        intro i T hi e
        have : i = n := by omega
        subst this
        exact kM_copy_29 ⟨fun _ => hQ T e, fun c => absurd ((nI_leI (by omega) (by omega)).mpr (Nat.le_refl _)) c⟩
      | succ m ih =>
        intro i T hi e
        obtain ⟨p1, p2⟩ := eqS_set (S := T) (k := 2000 * r + i) (T.2.1 17 (2000 * s + i)) e.2.1 (by omega)
        have p1' : sm_pb (hp T) 34 (2000 * nI r + nI i) (T.2.1 17 (2000 * s + i)) = some (hp (sA T 17 (upd (T.2.1 17) (2000 * r + i) (T.2.1 17 (2000 * s + i)).toInt8.toInt32))) := by
          rw [nI_mul, nI_add]
          exact p1
        refine kM_copy_29 ⟨fun c => absurd ((nI_leI (by omega) (by omega)).mp c) (by omega), fun _ => ⟨_, hg_33_1 T, _, hg_33_1 T, T.2.1 17 (2000 * s + i), ?_, _, p1', ?_⟩⟩
        · rw [nI_mul, nI_add]
          exact hm_r T (by omega)
        · rw [nI_1]
          refine ih (i + 1) _ (by omega) ?_
          have e3 := eqS_tr e p2
          rw [← stl_get (by omega), e.2.2] at e3
          exact e3
    exact key n 0 S (by omega) (eqS_id hs)
end Cp
