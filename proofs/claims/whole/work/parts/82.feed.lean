/-! the reference: put, feed, byteAt, many -/
theorem sl_set {l : List Nat} {p v a b : Nat} (hp1 : p < l.length) (hb : b ≤ p) : slice (l.set p v) a b = slice l a b := by
  refine sl_ext (by rw [List.length_set]; omega) (by omega) rfl (fun k hk => ?_)
  rw [getD_set hp1, if_neg (by omega)]
theorem sl_push {l : List Nat} {p v a : Nat} (hp1 : p < l.length) (ha : a ≤ p) : slice (l.set p v) a (p + 1) = slice l a p ++ [v] := by
  rw [← sl_app (l := l.set p v) (a := a) (b := p) (c := p + 1) ha (by omega), sl_set hp1 (Nat.le_refl _), sl_cons (a := p) (by omega) (by rw [List.length_set]; omega), sl_nil (Nat.le_refl _), getD_set hp1, if_pos rfl]
/-- the tape is longer by l -/
def eqT (tp : Nat) (l : List Nat) (S T : sT) : Prop := (∀ k, k ≠ 15 → T.1 k = S.1 k) ∧ (∀ k, k ≠ 17 → T.2.1 k = S.2.1 k) ∧ T.2.2 = S.2.2 ∧ okSt T ∧ T.1 15 = nI (tp + l.length) ∧ slice (stl T) 10000 (10000 + (tp + l.length)) = slice (stl S) 10000 (10000 + tp) ++ l ∧ ∀ a b, b ≤ 10000 → slice (stl T) a b = slice (stl S) a b
theorem eqT_rf {S : sT} {tp : Nat} (hs : okSt S) (h : S.1 15 = nI tp) : eqT tp [] S S := ⟨fun _ _ => rfl, fun _ _ => rfl, rfl, hs, h, by simp, fun _ _ _ => rfl⟩
section Fd
variable {N d : Nat} {Q : Option Value → sm_H → Prop}
theorem pt_step {S T : sT} {tp : Nat} {l : List Nat} {v x : Int32} (e : eqT tp l S T) (hl : tp + l.length < 4000) (hx : ¬ x < 0) (hW : ∀ T2, eqT tp (l ++ [ub (v >>> (x &&& 31))]) S T2 → sm_W N (d + 1) mm_M_put 3 [(0, .ref 33), (1, .int v), (2, .int (x + (-8)))] [] (hp T2) Q) : sm_W N (d + 1) mm_M_put 3 [(0, .ref 33), (1, .int v), (2, .int x)] [] (hp T) Q := by
  obtain ⟨a1, a2, a3, a4, a5, a6, a7⟩ := e
  obtain ⟨p1, p2⟩ := eqS_set (S := T) (k := 10000 + (tp + l.length)) ((v >>> (x &&& 31)).toInt8.toInt32) a4 (by omega)
  have p1' : sm_pb (hp T) 34 (10000 + T.1 15) ((v >>> (x &&& 31)).toInt8.toInt32) = some (hp (sA T 17 (upd (T.2.1 17) (10000 + (tp + l.length)) (v >>> (x &&& 31)).toInt8.toInt32.toInt8.toInt32))) := by
    rw [a5, nI_la]
    exact p1
  refine kM_put_3 ⟨fun c => absurd c hx, fun _ => ⟨_, hg_33_1 T, _, hg_33_2 T, _, p1', _, hg_33_2 _, _, hu_33_2 _ _, hW _ ?_⟩⟩
  have hlT := stl_len T
  generalize sA T 17 (upd (T.2.1 17) (10000 + (tp + l.length)) (v >>> (x &&& 31)).toInt8.toInt32.toInt8.toInt32) = T1 at *
  rw [ub_b] at p2
  have i1 : T1.1 15 + 1 = nI (tp + (l ++ [ub (v >>> (x &&& 31))]).length) := by
    rw [eqS_i p2, a5, nI_1]
    exact congrArg nI (by simp; omega)
  have s1 : stl (sI T1 15 (T1.1 15 + 1)) = (stl T).set (10000 + (tp + l.length)) (ub (v >>> (x &&& 31))) := p2.2.2
  refine ⟨fun k hk => ?_, fun k hk => ?_, ?_, fun i => p2.2.1 i, ?_, ?_, fun a b hb => ?_⟩
  · simp only [sI, va_up, if_neg hk]
    rw [eqS_i p2]
    exact a1 k hk
  · show T1.2.1 k = _
    rw [eqS_a p2 hk]
    exact a2 k hk
  · show T1.2.2 = _
    rw [eqS_L p2]
    exact a3
  · rw [i1]
    simp [sI, va_up]
  · rw [s1, List.length_append, show 10000 + (tp + (l.length + [ub (v >>> (x &&& 31))].length)) = 10000 + (tp + l.length) + 1 by simp; omega, sl_push (by omega) (by omega), a6, List.append_assoc]
  · rw [s1, sl_set (by omega) (by omega)]
    exact a7 a b hb
theorem sM_put {S T : sT} {tp : Nat} {l : List Nat} {v : Int32} (e : eqT tp l S T) (hl : tp + l.length + 4 ≤ 4000) (hQ : ∀ T2, eqT tp (l ++ hb4 v) S T2 → Q none (hp T2)) : sm_V N (d + 1) mm_M_put 5 33 [.int v] (hp T) Q := by
  refine cM_put (hk_33 T) ?_
  refine pt_step e (by omega) (by decide) (fun T1 e1 => ?_)
  rw [show (24 : Int32) + (-8) = 16 from by decide]
  refine pt_step e1 (by simp; omega) (by decide) (fun T2 e2 => ?_)
  rw [show (16 : Int32) + (-8) = 8 from by decide]
  refine pt_step e2 (by simp; omega) (by decide) (fun T3 e3 => ?_)
  rw [show (8 : Int32) + (-8) = 0 from by decide]
  refine pt_step e3 (by simp; omega) (by decide) (fun T4 e4 => ?_)
  rw [show (0 : Int32) + (-8) = -8 from by decide]
  refine kM_put_3 ⟨fun _ => hQ T4 ?_, fun c => absurd (by decide) c⟩
  simp only [List.append_assoc, List.cons_append, List.nil_append] at e4
  exact e4
theorem sM_feed {S : sT} {tp : Nat} {v1 v2 v3 v4 v5 : Int32} (hs : okSt S) (h15 : S.1 15 = nI tp) (htp : tp ≤ 2000) (h0 : ¬ tp + 20 ≤ 2000 → Q (some (.int (-1))) (hp S)) (h1 : tp + 20 ≤ 2000 → ∀ T, eqT tp (hb4 v1 ++ (hb4 v2 ++ (hb4 v3 ++ (hb4 v4 ++ hb4 v5)))) S T → Q (some (.int (nI (tp + 20)))) (hp T)) : sm_V N (d + 2) mm_M_feed 5 33 [.int v1, .int v2, .int v3, .int v4, .int v5] (hp S) Q := by
  have hh : ∀ v, (hb4 v).length = 4 := fun v => rfl
  refine cM_feed (hk_33 S) ⟨_, hg_33_2 S, fun c => ?_, fun c => ?_⟩
  · rw [h15, nI_al, nI_lel (by omega) (by omega)] at c
    refine sM_put (eqT_rf hs h15) (by simp; omega) (fun T1 e1 => ⟨rfl, ?_⟩)
    refine sM_put e1 (by simp [hh]; omega) (fun T2 e2 => ⟨rfl, ?_⟩)
    refine sM_put e2 (by simp [hh]; omega) (fun T3 e3 => ⟨rfl, ?_⟩)
    refine sM_put e3 (by simp [hh]; omega) (fun T4 e4 => ⟨rfl, ?_⟩)
    refine sM_put e4 (by simp [hh]; omega) (fun T5 e5 => ⟨rfl, _, hg_33_2 T5, ?_⟩)
    simp only [List.append_assoc, List.nil_append] at e5
    rw [e5.2.2.2.2.1]
    simp only [List.length_append, hh]
    exact h1 c T5 e5
  · rw [h15, nI_al, nI_lel (by omega) (by omega)] at c
    exact h0 c
theorem slot_1 {k : Nat} (hk : k < 4) : (if 0 ≤ (nI k).toInt ∧ (nI k).toInt < 4 then (1 : Int32) else 0) = 1 := by
  rw [nI_t (by omega), if_pos ⟨by omega, by omega⟩]
theorem sM_byteAt {S : sT} {s x : Int32} (hb : ¬ (0 ≤ s.toInt ∧ s.toInt < 4) → Q (some (.int (-1))) (hp S)) (hk : ∀ k, k < 4 → s = nI k → u4 (stl S) (2000 * k) ≤ 2000) (h0 : ∀ k, k < 4 → s = nI k → ¬ (0 ≤ x.toInt ∧ x.toInt < u4 (stl S) (2000 * k)) → Q (some (.int (-1))) (hp S)) (h1 : ∀ k i, k < 4 → s = nI k → x = nI i → i < u4 (stl S) (2000 * k) → Q (some (.int (nI ((stl S).getD (2000 * k + i) 0)))) (hp S)) : sm_V N (d + 3) mm_M_byteAt 5 33 [.int s, .int x] (hp S) Q := by
  by_cases y : 0 ≤ s.toInt ∧ s.toInt < 4
  · obtain ⟨k, hk4, rfl⟩ := nat_of (m := 4) y.1 (by omega) (by omega)
    have hu := hk k hk4 rfl
    have z0 : (0 : Int32).toInt = 0 := rfl
    refine cM_byteAt (hk_33 S) (sM_isSlot ⟨_, rfl, fun c => ?_, fun _ => ⟨fun c => kM_byteAt_24 (h0 k hk4 rfl (fun w => ?_)), fun c => ?_⟩⟩)
    · rw [slot_1 hk4] at c; exact absurd c (by decide)
    · rw [ti_lt] at c; omega
    · rw [nI_mul]
      refine sM_whole (by omega) ⟨_, rfl, fun c2 => ?_, fun c2 => kM_byteAt_24 (h0 k hk4 rfl (fun w => c2 ?_))⟩
      · rw [ti_lt] at c
        rw [ti_lt, nI_t (by omega)] at c2
        obtain ⟨i, hi, rfl⟩ := nat_of (s := x) (m := u4 (stl S) (2000 * k)) (by omega) (by omega) (by omega)
        rw [nI_add]
        exact sM_at (by omega) ⟨_, rfl, h1 k i hk4 rfl rfl hi⟩
      · rw [ti_lt, nI_t (by omega)]
        exact w.2
  · refine cM_byteAt (hk_33 S) (sM_isSlot ⟨_, rfl, fun _ => kM_byteAt_24 (hb y), fun c => ?_⟩)
    rw [if_neg y] at c
    exact absurd rfl c
end Fd
