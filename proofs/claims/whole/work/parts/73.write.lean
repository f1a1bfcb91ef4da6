/-! the reference's writers: out gets bytes -/
def okO (S : sT) : Prop := ∃ n : Nat, n ≤ 16000 ∧ S.1 20 = nI n ∧ ∀ i, sB (S.2.1 29 i)
def ol (S : sT) : List Nat := bytesOf (S.2.1 29) 0 (S.1 20).toInt.toNat
/-- S2 is S but for the bytes written, which are l now -/
def eqO (l : List Nat) (S S2 : sT) : Prop := (∃ g x, S2 = sI (sA S 29 g) 20 x) ∧ okO S2 ∧ ol S2 = l
theorem ol_eq {S : sT} {n : Nat} (hn : n ≤ 16000) (h : S.1 20 = nI n) : ol S = bytesOf (S.2.1 29) 0 n := by
  rw [ol, h, nI_t (by omega)]
  rfl
theorem ol_len {S : sT} {n : Nat} (hn : n ≤ 16000) (h : S.1 20 = nI n) : (ol S).length = n := by rw [ol_eq hn h, bytesOf_len]
theorem ok_sz {S : sT} (h : okO S) : S.1 20 = nI (ol S).length ∧ (ol S).length ≤ 16000 := by
  obtain ⟨n, hn, hl, -⟩ := h
  rw [ol_len hn hl]
  exact ⟨hl, hn⟩
theorem eqO_id {S : sT} (h : okO S) : eqO (ol S) S S := ⟨⟨S.2.1 29, S.1 20, by simp [sI, sA, up_id]⟩, h, rfl⟩
theorem eqO_tr {l1 l2 : List Nat} {S S1 S2 : sT} (h1 : eqO l1 S S1) (h2 : eqO l2 S1 S2) : eqO l2 S S2 := by
  obtain ⟨⟨g1, x1, rfl⟩, -, -⟩ := h1
  obtain ⟨⟨g2, x2, rfl⟩, o, b⟩ := h2
  exact ⟨⟨g2, x2, by simp [sI, sA, up_up]⟩, o, b⟩
theorem eqO_i {k : Nat} {l : List Nat} {S S2 : sT} (h : eqO l S S2) (hk : k ≠ 20) : S2.1 k = S.1 k := by
  obtain ⟨⟨g, x, rfl⟩, -, -⟩ := h
  simp [sI, sA, va_up, hk]
theorem eqO_a {k : Nat} {l : List Nat} {S S2 : sT} (h : eqO l S S2) (hk : k ≠ 29) : S2.2.1 k = S.2.1 k := by
  obtain ⟨⟨g, x, rfl⟩, -, -⟩ := h
  simp [sI, sA, va_up, hk]
theorem eqO_L {l : List Nat} {S S2 : sT} (h : eqO l S S2) : S2.2.2 = S.2.2 := by
  obtain ⟨⟨g, x, rfl⟩, -, -⟩ := h
  rfl
theorem eqO_st {l : List Nat} {S S2 : sT} (h : eqO l S S2) : stl S2 = stl S := by rw [stl, stl, eqO_a h (by omega)]
theorem eqO_len {n : Nat} {S : sT} {g : Nat → Int32} (hn : n ≤ 16000) (hg : ∀ i, sB (g i)) : eqO (bytesOf g 0 n) S (sI (sA S 29 g) 20 (nI n)) := by
  have hl : (sI (sA S 29 g) 20 (nI n)).1 20 = nI n := by simp [sI, va_up]
  have hg2 : (sI (sA S 29 g) 20 (nI n)).2.1 29 = g := by simp [sI, sA, va_up]
  exact ⟨⟨g, nI n, rfl⟩, ⟨n, hn, hl, by rw [hg2]; exact hg⟩, by rw [ol_eq hn hl, hg2]⟩
section MW
variable {S : sT} {N d : Nat} {Q : Option Value → sm_H → Prop}
theorem sM_write {v : Int32} (hw : okO S) (hl : (ol S).length < 16000) (hQ : ∀ S2, eqO (ol S ++ [ub v]) S S2 → Q none (hp S2)) : sm_V N (d + 1) mm_M_write 5 33 [.int v] (hp S) Q := by
  obtain ⟨n, hn, hl1, hf⟩ := hw
  rw [ol_len hn hl1] at hl
  refine cM_write (hk_33 S) ⟨_, hg_33_21 S, _, hg_33_19 S, hp (sA S 29 (upd (S.2.1 29) n v.toInt8.toInt32)), ?_, _, hg_33_19 _, _, hu_33_19 _ _, ?_⟩
  · rw [hl1, hw_47, nI_t (by omega), if_pos ⟨by omega, by omega⟩, pk_vb, nI_clamp (by omega)]
  · have e : (sA S 29 (upd (S.2.1 29) n v.toInt8.toInt32)).1 20 + 1 = nI (n + 1) := by
      show S.1 20 + 1 = _
      rw [hl1, nI_succ]
    rw [e]
    refine hQ _ ?_
    have h := eqO_len (S := S) (n := n + 1) (g := upd (S.2.1 29) n v.toInt8.toInt32) (by omega) (fun i => ?_)
    · rw [bytesOf_push, ub_b, ← ol_eq hn hl1] at h
      exact h
    · unfold upd
      split
      · exact pk_fb v
      · exact hf i
/-- n low bytes of a long, lowest first -/
def lw (v : Int64) (n : Nat) : List Nat := (List.range n).map (fun i => ub (Int64.toInt32 ((v >>> (Int32.toInt64 (8 * nI i) &&& 63)) &&& 255)))
theorem lw_len (v : Int64) (n : Nat) : (lw v n).length = n := by simp [lw]
theorem lw_succ (v : Int64) (n : Nat) : lw v (n + 1) = lw v n ++ [ub (Int64.toInt32 ((v >>> (Int32.toInt64 (8 * nI n) &&& 63)) &&& 255))] := by
  simp [lw, List.range_succ]
theorem sM_writeLow {v : Int64} {n : Nat} (hw : okO S) (hn8 : n ≤ 8) (hl : (ol S).length + n ≤ 16000) (hQ : ∀ S2, eqO (ol S ++ lw v n) S S2 → Q none (hp S2)) : sm_V N (d + 2) mm_M_writeLow 5 33 [.long v, .int (nI n)] (hp S) Q := by
  refine cM_writeLow (hk_33 S) ?_
  have key : ∀ (m i : Nat) (T : sT), i + m = n → eqO (ol S ++ lw v i) S T → sm_W N (d + 1 + 1) mm_M_writeLow 3 [(0, .ref 33), (1, .long v), (3, .int (nI n)), (4, .int (nI i))] [] (hp T) Q := by
    intro m
    induction m with
    | zero =>
      intro i T hi e
      have : i = n := by omega
      subst this
      exact kM_writeLow_3 ⟨fun _ => hQ T e, fun c => absurd ((nI_leI (by omega) (by omega)).mpr (Nat.le_refl _)) c⟩
    | succ m ih =>
      intro i T hi e
      refine kM_writeLow_3 ⟨fun c => absurd ((nI_leI (by omega) (by omega)).mp c) (by omega), fun _ => sM_write e.2.1 (by rw [e.2.2, List.length_append, lw_len]; omega) (fun T2 e2 => ⟨rfl, ?_⟩)⟩
      rw [nI_1]
      refine ih (i + 1) T2 (by omega) ?_
      have e3 := eqO_tr e e2
      rw [e.2.2, List.append_assoc, ← lw_succ] at e3
      exact e3
  refine key n 0 S (by omega) ?_
  have := eqO_id hw
  simpa [lw] using this
theorem sM_writeBytes {p n : Nat} (hw : okO S) (hp1 : p + n ≤ 14100) (hl : (ol S).length + n ≤ 16000) (hQ : ∀ S2, eqO (ol S ++ slice (stl S) p (p + n)) S S2 → Q none (hp S2)) : sm_V N (d + 2) mm_M_writeBytes 5 33 [.int (nI p), .int (nI n)] (hp S) Q := by
  refine cM_writeBytes (hk_33 S) ?_
  have hlen := stl_len S
  have key : ∀ (m i : Nat) (T : sT), i + m = n → eqO (ol S ++ slice (stl S) p (p + i)) S T → sm_W N (d + 1 + 1) mm_M_writeBytes 2 [(0, .ref 33), (1, .int (nI p)), (2, .int (nI n)), (3, .int (nI i))] [] (hp T) Q := by
    intro m
    induction m with
    | zero =>
      intro i T hi e
      have : i = n := by omega
      subst this
      exact kM_writeBytes_2 ⟨fun _ => hQ T e, fun c => absurd ((nI_leI (by omega) (by omega)).mpr (Nat.le_refl _)) c⟩
    | succ m ih =>
      intro i T hi e
      have hsl : (slice (stl S) p (p + i)).length = i := by rw [slice_len (by omega)]; omega
      refine kM_writeBytes_2 ⟨fun c => absurd ((nI_leI (by omega) (by omega)).mp c) (by omega), fun _ => ⟨_, hg_33_1 T, T.2.1 17 (p + i), ?_, sM_write e.2.1 (by rw [e.2.2, List.length_append, hsl]; omega) (fun T2 e2 => ⟨rfl, ?_⟩)⟩⟩
      · rw [nI_add]
        exact hm_r T (by omega)
      · rw [nI_1]
        refine ih (i + 1) T2 (by omega) ?_
        have e3 := eqO_tr e e2
        rw [e.2.2, List.append_assoc] at e3
        have e4 : slice (stl S) p (p + i) ++ [ub (T.2.1 17 (p + i))] = slice (stl S) p (p + (i + 1)) := by
          rw [← sl_app (l := stl S) (a := p) (b := p + i) (c := p + (i + 1)) (by omega) (by omega), sl_cons (a := p + i) (by omega) (by omega), sl_nil (a := p + i + 1) (b := p + (i + 1)) (by omega), ← eqO_st e, stl_get (by omega)]
        rw [e4] at e3
        exact e3
  refine key n 0 S (by omega) ?_
  have := eqO_id hw
  rw [sl_nil (by omega), List.append_nil]
  exact this
end MW
