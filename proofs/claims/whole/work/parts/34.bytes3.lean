/-! Bytes: what changes them -/
theorem sB_fit {x : Int32} (h : sB x) : fits .byte (.int x) = true := h
theorem bytesOf_push {f : Nat → Int32} {n : Nat} (x : Int32) : bytesOf (upd f n x) 0 (n + 1) = bytesOf f 0 n ++ [ub x] := by
  have e : ∀ i, i ∈ List.range n → ub (upd f n x (0 + i)) = ub (f (0 + i)) := by
    intro i hi
    have := List.mem_range.mp hi
    rw [Nat.zero_add, pk_un (by omega)]
  rw [bytesOf, List.range_succ, List.map_append, List.map_congr_left e, bytesOf]
  simp [upd]
theorem eqB_len {j n : Nat} {S : sT} {g : Nat → Int32} (hn : n ≤ caps j) (hg : ∀ i, sB (g i)) : eqB j (bytesOf g 0 n) S (sI (sA S j g) (30 + j) (nI n)) := by
  have hl : (sI (sA S j g) (30 + j) (nI n)).1 (30 + j) = nI n := by simp [sI, va_up]
  have hg2 : (sI (sA S j g) (30 + j) (nI n)).2.1 j = g := by simp [sI, sA, va_up]
  exact ⟨⟨g, nI n, rfl⟩, ⟨n, hn, hl, by rw [hg2]; exact hg⟩, by rw [bl_eq hn hl, hg2]⟩
theorem sI_sA (S : sT) (j k : Nat) (g : Nat → Int32) (x : Int32) : sA (sI S k x) j g = sI (sA S j g) k x := rfl
section BSpecs3
variable {S : sT} {j N d : Nat} {Q : Option Value → sm_H → Prop}
theorem sB_add {v : Int32} (hj : j < 11) (hw : okB S j) (hl : (bl S j).length < caps j) (hQ : ∀ S2, eqB j (bl S j ++ [ub v]) S S2 → Q none (hp S2)) : sm_V N (d + 1) mm_B_add 0 (11 + 2 * j) [.int v] (hp S) Q := by
  obtain ⟨n, hn, hl1, hf⟩ := hw
  have hc := caps_le j
  rw [bl_len hn hl1] at hl
  refine cB_add (hb_k S hj) ⟨_, hb_g1 S hj, _, hb_g0 S hj, _, hb_n S hj, fun c => ?_, fun c => ?_⟩
  · rw [hl1] at c
    exact absurd ((nI_leI (by omega) (by omega)).mp c) (by omega)
  · refine ⟨_, hb_g0 S hj, _, hb_g1 S hj, hp (sA S j (upd (S.2.1 j) n v.toInt8.toInt32)), ?_, _, hb_g1 _ hj, _, hb_p1 _ hj _, ?_⟩
    · rw [hl1, hb_w S hj, nI_t (by omega), if_pos ⟨by omega, by omega⟩, pk_vb, nI_clamp (by omega)]
    · have e : (sA S j (upd (S.2.1 j) n v.toInt8.toInt32)).1 (30 + j) + 1 = nI (n + 1) := by
        show S.1 (30 + j) + 1 = _
        rw [hl1, nI_succ]
      rw [e]
      refine hQ _ ?_
      have h := eqB_len (S := S) (j := j) (n := n + 1) (g := upd (S.2.1 j) n v.toInt8.toInt32) (by omega) (fun i => ?_)
      · rw [bytesOf_push, ub_b, ← bl_eq hn hl1] at h
        exact h
      · unfold upd
        split
        · exact pk_fb v
        · exact hf i
theorem bl_lenB {S : sT} {j : Nat} (h : okB S j) : (bl S j).length ≤ caps j := by
  obtain ⟨n, hn, hl, -⟩ := h
  rw [bl_len hn hl]
  exact hn
/-- four bytes of an int, highest first -/
def hb4 (v : Int32) : List Nat := [ub (v >>> ((24 : Int32) &&& 31)), ub (v >>> ((16 : Int32) &&& 31)), ub (v >>> ((8 : Int32) &&& 31)), ub (v >>> ((0 : Int32) &&& 31))]
theorem sB_addHF {v : Int32} (hj : j < 11) (hw : okB S j) (hl : (bl S j).length + 4 ≤ caps j) (hQ : ∀ S2, eqB j (bl S j ++ hb4 v) S S2 → Q none (hp S2)) : sm_V N (d + 2) mm_B_addHighestFirst 0 (11 + 2 * j) [.int v] (hp S) Q := by
  refine cB_addHighestFirst (hb_k S hj) ?_
  refine kB_addHighestFirst_3 ⟨fun c => absurd c (by decide), fun _ => ?_⟩
  refine sB_add hj hw (by omega) (fun S1 e1 => ⟨rfl, ?_⟩)
  have o1 := eqB_ok e1 hw
  have l1 : (bl S1 j).length = (bl S j).length + 1 := by rw [e1.2.2]; simp
  refine kB_addHighestFirst_3 ⟨fun c => absurd c (by decide), fun _ => ?_⟩
  refine sB_add hj o1 (by omega) (fun S2 e2 => ⟨rfl, ?_⟩)
  have o2 := eqB_ok e2 o1
  have l2 : (bl S2 j).length = (bl S j).length + 2 := by rw [e2.2.2, e1.2.2]; simp
  refine kB_addHighestFirst_3 ⟨fun c => absurd c (by decide), fun _ => ?_⟩
  refine sB_add hj o2 (by omega) (fun S3 e3 => ⟨rfl, ?_⟩)
  have o3 := eqB_ok e3 o2
  have l3 : (bl S3 j).length = (bl S j).length + 3 := by rw [e3.2.2, e2.2.2, e1.2.2]; simp
  refine kB_addHighestFirst_3 ⟨fun c => absurd c (by decide), fun _ => ?_⟩
  refine sB_add hj o3 (by omega) (fun S4 e4 => ⟨rfl, ?_⟩)
  refine kB_addHighestFirst_3 ⟨fun _ => ?_, fun c => absurd (by decide) c⟩
  refine hQ S4 ?_
  have e := eqB_tr e1 (eqB_tr e2 (eqB_tr e3 e4))
  rw [e3.2.2, e2.2.2, e1.2.2] at e
  simp only [List.append_assoc, List.cons_append, List.nil_append] at e
  exact e
theorem sB_empty (hj : j < 11) (hw : okB S j) (hc : 5 ≤ caps j) (hQ : ∀ S2, eqB j [5, 0, 0, 0, 0] S S2 → Q none (hp S2)) : sm_V N (d + 2) mm_B_becomeEmptyDocument 0 (11 + 2 * j) [] (hp S) Q := by
  obtain ⟨n, hn, hl1, hf⟩ := hw
  refine cB_becomeEmptyDocument (hb_k S hj) ⟨_, hb_p1 S hj _, ?_⟩
  have e0 : eqB j [] S (sI S (30 + j) 0) := by
    have h := eqB_len (S := S) (j := j) (n := 0) (g := S.2.1 j) (by omega) hf
    simp only [sA, up_id] at h
    exact h
  have b0 : bl (sI S (30 + j) 0) j = [] := e0.2.2
  refine sB_add hj e0.2.1 (by rw [b0]; simp; omega) (fun S1 e1 => ⟨rfl, ?_⟩)
  rw [b0] at e1
  have o1 := e1.2.1
  refine kB_becomeEmptyDocument_12 ⟨fun c => absurd c (by decide), fun _ => ?_⟩
  refine sB_add hj o1 (by rw [e1.2.2]; simp; omega) (fun S2 e2 => ⟨rfl, ?_⟩)
  have o2 := e2.2.1
  rw [e1.2.2] at e2
  refine kB_becomeEmptyDocument_12 ⟨fun c => absurd c (by decide), fun _ => ?_⟩
  refine sB_add hj o2 (by rw [e2.2.2]; simp; omega) (fun S3 e3 => ⟨rfl, ?_⟩)
  have o3 := e3.2.1
  rw [e2.2.2] at e3
  refine kB_becomeEmptyDocument_12 ⟨fun c => absurd c (by decide), fun _ => ?_⟩
  refine sB_add hj o3 (by rw [e3.2.2]; simp; omega) (fun S4 e4 => ⟨rfl, ?_⟩)
  have o4 := e4.2.1
  rw [e3.2.2] at e4
  refine kB_becomeEmptyDocument_12 ⟨fun c => absurd c (by decide), fun _ => ?_⟩
  refine sB_add hj o4 (by rw [e4.2.2]; simp; omega) (fun S5 e5 => ⟨rfl, ?_⟩)
  rw [e4.2.2] at e5
  refine kB_becomeEmptyDocument_12 ⟨fun _ => ?_, fun c => absurd (by decide) c⟩
  refine hQ S5 ?_
  have e := eqB_tr e0 (eqB_tr e1 (eqB_tr e2 (eqB_tr e3 (eqB_tr e4 e5))))
  exact e
/-- eight bytes of a long, lowest first -/
def lb8 (v : Int64) : List Nat := (List.range 8).map (fun i => ub (Int64.toInt32 (v >>> (Int32.toInt64 (nI (8 * i)) &&& 63))))
theorem sB_num {v : Int64} (hj : j < 11) (hw : okB S j) (hc : 8 ≤ caps j) (hQ : ∀ S2, eqB j (lb8 v) S S2 → Q none (hp S2)) : sm_V N (d + 2) mm_B_becomeNumber 0 (11 + 2 * j) [.long v] (hp S) Q := by
  obtain ⟨n, hn, hl1, hf⟩ := hw
  refine cB_becomeNumber (hb_k S hj) ⟨_, hb_p1 S hj _, ?_⟩
  have e0 : eqB j [] S (sI S (30 + j) 0) := by
    have h := eqB_len (S := S) (j := j) (n := 0) (g := S.2.1 j) (by omega) hf
    simp only [sA, up_id] at h
    exact h
  have key : ∀ (m i : Nat) (T : sT), i + m = 8 → eqB j ((List.range i).map (fun i => ub (Int64.toInt32 (v >>> (Int32.toInt64 (nI (8 * i)) &&& 63))))) S T → sm_W N (d + 1 + 1) mm_B_becomeNumber 7 [(0, .ref (11 + 2 * j)), (1, .long v), (3, .int (nI (8 * i)))] [] (hp T) Q := by
    intro m
    induction m with
    | zero =>
      intro i T h e
      have : i = 8 := by omega
      subst this
      exact kB_becomeNumber_7 ⟨fun _ => hQ T e, fun c => absurd (by decide) c⟩
    | succ m ih =>
      intro i T h e
      refine kB_becomeNumber_7 ⟨fun c => ?_, fun _ => ?_⟩
      · exact absurd ((nI_gel (by omega) (by omega)).mp c) (by omega)
      · refine sB_add hj e.2.1 (by rw [e.2.2]; simp; omega) (fun T2 e2 => ⟨rfl, ?_⟩)
        have e3 := eqB_tr e e2
        rw [e.2.2] at e3
        have := ih (i + 1) T2 (by omega) (by rw [List.range_succ, List.map_append]; exact e3)
        rw [show nI (8 * i) + 8 = nI (8 * (i + 1)) by rw [nI_al]; congr 1] 
        exact this
  exact key 8 0 _ rfl e0
end BSpecs3
