/-! the reference's print: closing a holder -/
def frP (S T : sT) (o : Nat) : Prop := (∀ k, k ≠ 20 → k ≠ 21 → T.1 k = S.1 k) ∧ (∀ k, (k < 26 ∨ 29 < k) → T.2.1 k = S.2.1 k) ∧ T.2.2 = S.2.2 ∧ ∀ j, j < o → T.2.1 26 j = S.2.1 26 j ∧ T.2.1 27 j = S.2.1 27 j ∧ T.2.1 28 j = S.2.1 28 j
theorem frP_rf (S : sT) (o : Nat) : frP S S o := ⟨fun _ _ _ => rfl, fun _ _ => rfl, rfl, fun _ _ => ⟨rfl, rfl, rfl⟩⟩
theorem frP_tr {S S1 S2 : sT} {o : Nat} (h1 : frP S S1 o) (h2 : frP S1 S2 o) : frP S S2 o := by
  obtain ⟨a1, a2, a3, a4⟩ := h1
  obtain ⟨b1, b2, b3, b4⟩ := h2
  exact ⟨fun k h h' => (b1 k h h').trans (a1 k h h'), fun k h => (b2 k h).trans (a2 k h), b3.trans a3, fun j hj => ⟨(b4 j hj).1.trans (a4 j hj).1, (b4 j hj).2.1.trans (a4 j hj).2.1, (b4 j hj).2.2.trans (a4 j hj).2.2⟩⟩
theorem frP_le {S S1 : sT} {o p : Nat} (h : frP S S1 o) (hp : p ≤ o) : frP S S1 p := ⟨h.1, h.2.1, h.2.2.1, fun j hj => h.2.2.2 j (by omega)⟩
theorem frP_O {l : List Nat} {S S2 : sT} (h : eqO l S S2) (o : Nat) : frP S S2 o := ⟨fun k hk _ => eqO_i h hk, fun k hk => eqO_a h (by omega), eqO_L h, fun j _ => ⟨by rw [eqO_a h (by omega)], by rw [eqO_a h (by omega)], by rw [eqO_a h (by omega)]⟩⟩
theorem frP_own {S T : sT} {o : Nat} (h : frP S T o) (i : Nat) : sOwn S T i := ⟨by rw [h.2.1 18 (by omega)], by rw [h.2.2.1], by rw [h.2.1 21 (by omega)], by rw [h.2.1 22 (by omega)], by rw [h.2.1 23 (by omega)], by rw [h.2.1 25 (by omega)], by rw [h.2.1 19 (by omega)], by rw [h.2.1 20 (by omega)]⟩
theorem frP_st {S T : sT} {o : Nat} (h : frP S T o) : stl T = stl S := by rw [stl, stl, h.2.1 17 (by omega)]
/-- one byte of the size put in its place -/
theorem eqO_set {S : sT} {p : Nat} {v : Int32} (hw : okO S) (hp1 : p < (ol S).length) : sm_pb (hp S) 47 (nI p) (Int8.toInt32 (Int32.toInt8 v)) = some (hp (sA S 29 (upd (S.2.1 29) p v.toInt8.toInt32))) ∧ eqO ((ol S).set p (ub v)) S (sA S 29 (upd (S.2.1 29) p v.toInt8.toInt32)) := by
  obtain ⟨n, hn, hl, hf⟩ := hw
  rw [ol_len hn hl] at hp1
  refine ⟨by rw [hw_47, nI_t (by omega), if_pos ⟨by omega, by omega⟩, pk_vb, nI_clamp (by omega)], ?_⟩
  have h := eqO_len (S := S) (n := n) (g := upd (S.2.1 29) p v.toInt8.toInt32) hn (fun i => ?_)
  · rw [bytesOf_upd _ hp1, ub_b, ← ol_eq hn hl] at h
    have e : sI (sA S 29 (upd (S.2.1 29) p v.toInt8.toInt32)) 20 (nI n) = sA S 29 (upd (S.2.1 29) p v.toInt8.toInt32) := by
      rw [← hl]
      simp [sI, sA, up_id]
    rw [e] at h
    exact h
  · unfold upd
    split
    · exact pk_fb v
    · exact hf i
theorem set4 {a b : List Nat} {x0 x1 x2 x3 y0 y1 y2 y3 p : Nat} (hp : p = a.length) : ((((a ++ ([x0, x1, x2, x3] ++ b)).set (p + 0) y0).set (p + 1) y1).set (p + 2) y2).set (p + 3) y3 = a ++ ([y0, y1, y2, y3] ++ b) := by
  subst hp
  simp [List.set_append]
theorem ub_sh {n k : Nat} (hn : n < 2147483648) (hk : k < 4) : ub (nI n >>> ((8 * nI k) &&& 31)) = n / 2 ^ (8 * k) % 256 := by
  have key : ∀ (s : Int32) (m : Nat), (s.toBitVec.smod 32).toNat = m → ub (nI n >>> s) = n / 2 ^ m % 256 := by
    intro s m h
    rw [pk_shrN hn s m h, ub, pk_tn]
    have : n / 2 ^ m ≤ n := Nat.div_le_self ..
    omega
  rcases (show k = 0 ∨ k = 1 ∨ k = 2 ∨ k = 3 by omega) with rfl | rfl | rfl | rfl <;> exact key _ _ (by decide)
section PrC
variable {N d : Nat} {Q : Option Value → sm_H → Prop}
theorem pr_close {T : sT} {o p : Nat} {row : Int32} {a b : List Nat} {x0 x1 x2 x3 : Nat} (ho : o < 59) (hw : okO T) (hol : ol T = a ++ ([x0, x1, x2, x3] ++ b)) (hpa : p = a.length) (hlen : a.length + b.length ≤ 15900) (h26 : T.2.1 26 o = -1) (h27 : T.2.1 27 o = nI p)
    (hW : ∀ T2, eqO (a ++ (le4 (5 + b.length) ++ (b ++ [0]))) T T2 → sm_W N (d + 3 + 1) mm_M_print 46 [(0, .ref 33), (2, .int (nI o)), (3, .int (if o = 0 then 0 else if T.2.1 28 (o - 1) < 0 then 1 else 0))] [] (hp T2) Q) :
    sm_W N (d + 3 + 1) mm_M_print 46 [(0, .ref 33), (2, .int (nI (o + 1))), (3, .int row)] [] (hp T) Q := by
  have e1 : nI (o + 1) - 1 = nI o := by rw [nI_sl (show 1 ≤ o + 1 by omega)]; rfl
  have e2 : nI (o + 1) + (-1) = nI o := by rw [← e1, Int32.sub_eq_add_neg]
  have hlT : (ol T).length = a.length + 4 + b.length := by rw [hol]; simp; omega
  refine kM_print_46 ⟨fun c => ?_, fun _ => ?_⟩
  · rw [nI_lel (by omega) (by omega)] at c
    omega
  · rw [e1]
    refine ⟨_, hg_33_16 T, _, (hs_r T (by omega)).1, ?_⟩
    rw [h26]
    refine ⟨fun c => absurd c (by decide), fun _ => sM_write hw (by omega) (fun T1 t1 => ⟨rfl, _, hg_33_17 T1, _, (hs_r T1 (by omega)).2.1, _, hg_33_19 T1, ?_⟩)⟩
    have hl1 : (ol T1).length = a.length + 5 + b.length := by rw [t1.2.2, List.length_append, hlT]; simp; omega
    rw [eqO_a t1 (by omega), h27, (ok_sz t1.2.1).1, hl1, pk_sub (by omega), show a.length + 5 + b.length - p = 5 + b.length by omega]
    have hst : ∀ (T3 : sT) (k : Nat), k < 4 → okO T3 → (ol T3).length = a.length + 5 + b.length → (∀ T4, eqO ((ol T3).set (p + k) ((5 + b.length) / 2 ^ (8 * k) % 256)) T3 T4 → sm_W N (d + 3 + 1) mm_M_print 95 [(0, .ref 33), (2, .int (nI (o + 1))), (6, .int (nI p)), (7, .int (nI (5 + b.length))), (8, .int (nI (k + 1)))] [] (hp T4) Q) → sm_W N (d + 3 + 1) mm_M_print 95 [(0, .ref 33), (2, .int (nI (o + 1))), (6, .int (nI p)), (7, .int (nI (5 + b.length))), (8, .int (nI k))] [] (hp T3) Q := by
      intro T3 k hk hw3 hl3 hW3
      obtain ⟨s1, s2⟩ := eqO_set (S := T3) (p := p + k) (v := nI (5 + b.length) >>> ((8 * nI k) &&& 31)) hw3 (by omega)
      rw [← nI_add] at s1
      refine kM_print_95 ⟨fun c => ?_, fun _ => ⟨_, hg_33_21 T3, _, s1, ?_⟩⟩
      · rw [nI_gel (by omega) (by omega)] at c
        omega
      · rw [nI_1]
        rw [ub_sh (by omega) hk] at s2
        exact hW3 _ s2
    refine hst T1 0 (by omega) t1.2.1 hl1 (fun T2 t2 => ?_)
    have l2 : (ol T2).length = a.length + 5 + b.length := by rw [t2.2.2, List.length_set, hl1]
    refine hst T2 1 (by omega) t2.2.1 l2 (fun T3 t3 => ?_)
    have l3 : (ol T3).length = a.length + 5 + b.length := by rw [t3.2.2, List.length_set, l2]
    refine hst T3 2 (by omega) t3.2.1 l3 (fun T4 t4 => ?_)
    have l4 : (ol T4).length = a.length + 5 + b.length := by rw [t4.2.2, List.length_set, l3]
    refine hst T4 3 (by omega) t4.2.1 l4 (fun T5 t5 => ?_)
    have tt := eqO_tr t1 (eqO_tr t2 (eqO_tr t3 (eqO_tr t4 t5)))
    rw [t4.2.2, t3.2.2, t2.2.2, t1.2.2, hol, List.append_assoc, List.append_assoc, set4 hpa] at tt
    have el : [(5 + b.length) / 2 ^ (8 * 0) % 256, (5 + b.length) / 2 ^ (8 * 1) % 256, (5 + b.length) / 2 ^ (8 * 2) % 256, (5 + b.length) / 2 ^ (8 * 3) % 256] = le4 (5 + b.length) := by
      simp [le4]
    rw [el] at tt
    have hWT := hW T5 (by simpa [show ub 0 = 0 from rfl] using tt)
    refine kM_print_95 ⟨fun _ => ?_, fun c => absurd (by decide) c⟩
    rw [e2]
    refine ⟨fun c => ?_, fun c => ?_⟩
    · rw [nI_lel (by omega) (by omega)] at c
      rw [if_pos (by omega)] at hWT
      exact kM_print_148 (kM_print_149 hWT)
    · rw [nI_lel (by omega) (by omega)] at c
      have c0 : ¬ o = 0 := by intro z; exact c (by omega)
      rw [if_neg c0] at hWT
      rw [nI_sl (show 1 ≤ o by omega)]
      refine ⟨_, hg_33_18 T5, _, (hs_r T5 (by omega)).2.2, ?_⟩
      rw [eqO_a tt (by omega)]
      refine ⟨fun c2 => ?_, fun c2 => ?_⟩
      · have : ¬ T.2.1 28 (o - 1) < 0 := by
          rw [ti_lt]
          rw [ti_le] at c2
          exact Int.not_lt.mpr c2
        rw [if_neg this] at hWT
        exact kM_print_148 (kM_print_149 hWT)
      · have : T.2.1 28 (o - 1) < 0 := by
          rw [ti_lt]
          rw [ti_le] at c2
          exact Int.not_le.mp c2
        rw [if_pos this] at hWT
        exact kM_print_149 hWT
end PrC
