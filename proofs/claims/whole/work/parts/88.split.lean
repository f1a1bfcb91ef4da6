/-! the reference: split -/
def tw46 (l : List Nat) : List Nat := l.takeWhile (fun b => b != 46)
def stpF : Nat → List Nat → List (List Nat)
  | 0, l => [l]
  | f + 1, l => if (tw46 l).length < l.length then tw46 l :: stpF f (l.drop ((tw46 l).length + 1)) else [l]
/-- the steps of a path -/
def stp (l : List Nat) : List (List Nat) := stpF l.length l
theorem tw46_take (l : List Nat) : tw46 l = l.take (tw46 l).length := List.prefix_iff_eq_take.mp (List.takeWhile_prefix _)
theorem tw46_le (l : List Nat) : (tw46 l).length ≤ l.length := (List.takeWhile_prefix _).length_le
theorem stpF_ne (f : Nat) (l : List Nat) : 1 ≤ (stpF f l).length := by
  cases f with
  | zero => simp [stpF]
  | succ f =>
    rw [stpF]
    split <;> simp
def frS (S T : sT) : Prop := (∀ k, k ≠ 23 → T.1 k = S.1 k) ∧ (∀ k, k ≠ 31 → k ≠ 32 → T.2.1 k = S.2.1 k) ∧ T.2.2 = S.2.2
theorem frS_st {S T : sT} (h : frS S T) : stl T = stl S := by rw [stl, stl, h.2.1 17 (by omega) (by omega)]
section Sp
variable {N d : Nat} {Q : Option Value → sm_H → Prop}
theorem sp_36 {T : sT} {x e z : Nat} (he : e ≤ 14100) (hx : x ≤ e) (hz : z = x + (tw46 (slice (stl T) x e)).length) (hW : sm_W N (d + 1 + 1) mm_M_split 59 [(0, .ref 33), (3, .int (nI e)), (4, .int (nI x)), (6, .int (nI z))] [] (hp T) Q) : sm_W N (d + 1 + 1) mm_M_split 36 [(0, .ref 33), (3, .int (nI e)), (4, .int (nI x)), (6, .int (nI x))] [] (hp T) Q := by
  have hlen := stl_len T
  have key : ∀ (m y : Nat), y + m = e → z = y + (tw46 (slice (stl T) y e)).length → sm_W N (d + 1 + 1) mm_M_split 36 [(0, .ref 33), (3, .int (nI e)), (4, .int (nI x)), (6, .int (nI y))] [] (hp T) Q := by
    intro m
    induction m with
    | zero =>
      intro y hy hzy
      have : y = e := by omega
      subst this
      rw [sl_nil (Nat.le_refl _)] at hzy
      have : z = y := by simpa [tw46] using hzy
      subst this
      exact kM_split_36 ⟨fun _ => hW, fun c => absurd ((nI_leI (by omega) (by omega)).mpr (Nat.le_refl _)) c⟩
    | succ m ih =>
      intro y hy hzy
      rw [sl_cons (by omega) (by omega)] at hzy
      refine kM_split_36 ⟨fun c => absurd ((nI_leI (by omega) (by omega)).mp c) (by omega), fun _ => sM_at (by omega) ⟨_, rfl, fun c => ?_, fun c => ?_⟩⟩
      · rw [nI_eql (by have := stl_lt T y; omega) (by omega)] at c
        have c46 : (stl T).getD y 0 = 46 := c
        have : z = y := by
          rw [c46] at hzy
          simpa [tw46] using hzy
        subst this
        exact hW
      · rw [nI_eql (by have := stl_lt T y; omega) (by omega)] at c
        have c46 : ¬ (stl T).getD y 0 = 46 := c
        rw [nI_1]
        refine ih (y + 1) (by omega) ?_
        rw [hzy, tw46, List.takeWhile_cons_of_pos (by simpa using c46), List.length_cons]
        show y + ((tw46 _).length + 1) = _
        omega
  exact key (e - x) x (by omega) hz
theorem sp_loop {S : sT} {e : Nat} (he : e ≤ 14100) : ∀ (f x : Nat) (ds : List (List Nat)) (T : sT), x ≤ e → e - x ≤ f → frS S T → ds.length ≤ 8 → T.1 23 = nI ds.length → (∀ i w, ds[i]? = some w → StA T i w) →
    (¬ ((∀ w ∈ stpF f (slice (stl S) x e), w ≠ []) ∧ ds.length + (stpF f (slice (stl S) x e)).length ≤ 8) → ∀ T2, frS S T2 → Q (some (.int 0)) (hp T2)) →
    (((∀ w ∈ stpF f (slice (stl S) x e), w ≠ []) ∧ ds.length + (stpF f (slice (stl S) x e)).length ≤ 8) → ∀ T2, frS S T2 → T2.1 23 = nI (ds ++ stpF f (slice (stl S) x e)).length → (∀ i w, (ds ++ stpF f (slice (stl S) x e))[i]? = some w → StA T2 i w) → Q (some (.int 1)) (hp T2)) →
    sm_W N (d + 1 + 1) mm_M_split 27 [(0, .ref 33), (3, .int (nI e)), (4, .int (nI x)), (5, .int 1)] [] (hp T) Q := by
  have hlen := stl_len S
  intro f
  induction f with
  | zero =>
    intro x ds T hx hf hT hds h23 hst hb hg
    have : x = e := by omega
    subst this
    have hnil : slice (stl S) x x = [] := sl_nil (Nat.le_refl _)
    refine kM_split_27 ⟨fun c => absurd c (by decide), fun _ => sp_36 (z := x) he (Nat.le_refl _) (by rw [frS_st hT, hnil]; rfl) (kM_split_59 ⟨fun _ => hb (fun y => ?_) T hT, fun c => absurd rfl c⟩)⟩
    rw [hnil] at y
    exact y.1 [] (by simp [stpF]) rfl
  | succ f ih =>
    intro x ds T hx hf hT hds h23 hst hb hg
    generalize hL : slice (stl S) x e = l at *
    have hll : l.length = e - x := by rw [← hL, slice_len (by omega)]
    have htw := tw46_le l
    have htk : tw46 l = slice (stl S) x (x + (tw46 l).length) := by
      have := tw46_take l
      rw [← hL, sl_take (by rw [hL]; omega), hL] at this
      exact this
    generalize hz : x + (tw46 l).length = z at *
    refine kM_split_27 ⟨fun c => absurd c (by decide), fun _ => sp_36 (z := z) he hx (by rw [frS_st hT, hL, hz]) (kM_split_59 ⟨fun c => hb (fun y => ?_) T hT, fun c => ⟨_, hg_33_24 T, fun c8 => hb (fun y => ?_) T hT, fun c8 => ?_⟩⟩)⟩
    · rw [nI_eq (by omega) (by omega)] at c
      have h0 : (tw46 l).length = 0 := by omega
      have h1 : tw46 l = [] := List.length_eq_zero_iff.mp h0
      refine y.1 [] ?_ rfl
      rw [stpF]
      split
      · rw [h1]; simp
      · have : l = [] := List.length_eq_zero_iff.mp (by omega)
        rw [this]; simp
    · rw [h23, nI_eql (by omega) (by omega)] at c8
      have c88 : ds.length = 8 := c8
      have := stpF_ne (f + 1) l
      omega
    · rw [nI_eq (by omega) (by omega)] at c
      rw [h23, nI_eql (by omega) (by omega)] at c8
      have c88 : ¬ ds.length = 8 := c8
      refine ⟨_, hg_33_25 T, _, hg_33_24 T, hp (sA T 31 (upd (T.2.1 31) ds.length (nI x))), ?_, _, hg_33_26 _, _, hg_33_24 _, hp (sA (sA T 31 (upd (T.2.1 31) ds.length (nI x))) 32 (upd (T.2.1 32) ds.length (nI (z - x)))), ?_, _, hg_33_24 _, _, hu_33_24 _ _, ?_⟩
      · rw [h23, hw_49, nI_t (by omega), if_pos ⟨by omega, by omega⟩, nI_clamp (by omega)]
      · have s23 : (sA T 31 (upd (T.2.1 31) ds.length (nI x))).1 23 = nI ds.length := h23
        have s32 : (sA T 31 (upd (T.2.1 31) ds.length (nI x))).2.1 32 = T.2.1 32 := by simp [sA, va_up]
        rw [s23, hw_50, nI_t (by omega), if_pos ⟨by omega, by omega⟩, nI_clamp (by omega), pk_sub (by omega), s32]
      · have j23 : (sA (sA T 31 (upd (T.2.1 31) ds.length (nI x))) 32 (upd (T.2.1 32) ds.length (nI (z - x)))).1 23 + 1 = nI (ds.length + 1) := by
          show T.1 23 + 1 = _
          rw [h23, nI_1]
        rw [j23]
        have u23 : (sI (sA (sA T 31 (upd (T.2.1 31) ds.length (nI x))) 32 (upd (T.2.1 32) ds.length (nI (z - x)))) 23 (nI (ds.length + 1))).1 23 = nI (ds.length + 1) := by simp [sI, va_up]
        have uf : frS S (sI (sA (sA T 31 (upd (T.2.1 31) ds.length (nI x))) 32 (upd (T.2.1 32) ds.length (nI (z - x)))) 23 (nI (ds.length + 1))) := by
          refine ⟨fun k hk => ?_, fun k h1 h2 => ?_, hT.2.2⟩
          · simp only [sI, sA, va_up, if_neg hk]
            exact hT.1 k hk
          · simp only [sI, sA, va_up, if_neg h1, if_neg h2]
            exact hT.2.1 k h1 h2
        have u31 : (sI (sA (sA T 31 (upd (T.2.1 31) ds.length (nI x))) 32 (upd (T.2.1 32) ds.length (nI (z - x)))) 23 (nI (ds.length + 1))).2.1 31 = upd (T.2.1 31) ds.length (nI x) := by simp [sI, sA, va_up]
        have u32 : (sI (sA (sA T 31 (upd (T.2.1 31) ds.length (nI x))) 32 (upd (T.2.1 32) ds.length (nI (z - x)))) 23 (nI (ds.length + 1))).2.1 32 = upd (T.2.1 32) ds.length (nI (z - x)) := by simp [sI, sA, va_up]
        generalize sI (sA (sA T 31 (upd (T.2.1 31) ds.length (nI x))) 32 (upd (T.2.1 32) ds.length (nI (z - x)))) 23 (nI (ds.length + 1)) = T2 at *
        have hst2 : ∀ i w, (ds ++ [tw46 l])[i]? = some w → StA T2 i w := by
          intro i w hi
          rw [List.getElem?_append] at hi
          split at hi
          · rename_i hlt
            obtain ⟨a, a1, a2, a3, a4⟩ := hst i w hi
            exact ⟨a, by rw [u31, pk_un (by omega)]; exact a1, by rw [u32, pk_un (by omega)]; exact a2, a3, by rw [frS_st uf, ← frS_st hT]; exact a4⟩
          · rename_i hlt
            have hi0 : i = ds.length := by
              by_cases h : i - ds.length = 0
              · omega
              · rw [List.getElem?_eq_none (by simp; omega)] at hi
                cases hi
            subst hi0
            rw [Nat.sub_self] at hi
            have hw : tw46 l = w := by simpa using hi
            subst hw
            exact ⟨x, by rw [u31, pk_us], by rw [u32, pk_us]; exact congrArg nI (by omega), by omega, by rw [frS_st uf, hz]; exact htk.symm⟩
        have dl : (ds ++ [tw46 l]).length = ds.length + 1 := by simp
        have hne : tw46 l ≠ [] := fun h => c (by rw [h] at hz; simp at hz; omega)
        refine ⟨fun c2 => kM_split_123 (kM_split_27 ⟨fun _ => ?_, fun y => absurd rfl y⟩), fun c2 => kM_split_123 ?_⟩
        · rw [nI_leI (by omega) (by omega)] at c2
          have hfull : tw46 l = l := by
            have := tw46_take l
            rw [show (tw46 l).length = l.length by omega, List.take_length] at this
            exact this
          have hs1 : stpF (f + 1) l = [l] := by rw [stpF, if_neg (by omega)]
          rw [hs1] at hg
          rw [hfull] at hst2 hne dl
          exact hg ⟨fun w hw => by simp at hw; rw [hw]; exact hne, by simp; omega⟩ T2 uf (by rw [u23, dl]) hst2
        · rw [nI_leI (by omega) (by omega)] at c2
          rw [fM_split_123, nI_1]
          have hs1 : stpF (f + 1) l = tw46 l :: stpF f (slice (stl S) (z + 1) e) := by
            rw [stpF, if_pos (by omega)]
            conv => lhs; rhs; rw [← hL, sl_drop, hL]
            rw [show x + ((tw46 l).length + 1) = z + 1 by omega]
          rw [hs1] at hb hg
          refine ih (z + 1) (ds ++ [tw46 l]) T2 (by omega) (by omega) uf (by omega) (by rw [u23, dl]) hst2 (fun y T3 hT3 => hb (fun y2 => y ?_) T3 hT3) (fun y T3 hT3 h1 h2 => hg ?_ T3 hT3 ?_ ?_)
          · refine ⟨fun w hw => y2.1 w (List.mem_cons_of_mem _ hw), ?_⟩
            have := y2.2
            rw [List.length_cons] at this
            omega
          · refine ⟨fun w hw => ?_, ?_⟩
            · rcases List.mem_cons.mp hw with rfl | hw
              · exact hne
              · exact y.1 w hw
            · have := y.2
              rw [List.length_cons]
              omega
          · rw [h1, List.append_assoc]
            rfl
          · intro i w hi
            refine h2 i w ?_
            rw [List.append_assoc]
            exact hi
/-- a path whose steps may be taken -/
def spOK (nm : List Nat) : Prop := (∀ w ∈ stp nm, w ≠ []) ∧ (stp nm).length ≤ 8
theorem sM_split {S : sT} {n : Nat} {nm : List Nat} (hn : n < 6000) (hN : NmN S n nm) (h0 : ¬ spOK nm → ∀ T, frS S T → Q (some (.int 0)) (hp T)) (h1 : spOK nm → ∀ T, frS S T → T.1 23 = nI (stp nm).length → (∀ i w, (stp nm)[i]? = some w → StA T i w) → Q (some (.int 1)) (hp T)) : sm_V N (d + 2) mm_M_split 5 33 [.int (nI n)] (hp S) Q := by
  obtain ⟨p, h19, h20, hpl, hsl⟩ := hN
  refine cM_split (hk_33 S) ⟨_, hu_33_24 S _, _, hg_33_8 _, _, (hq_r _ hn).2.1, _, hg_33_9 _, _, (hq_r _ hn).2.2.1, ?_⟩
  have g19 : (sI S 23 0).2.1 19 n = nI p := h19
  have g20 : (sI S 23 0).2.1 20 n = nI nm.length := h20
  rw [g19, g20, nI_add]
  refine sp_loop (S := S) hpl nm.length p [] (sI S 23 0) (by omega) (by omega) ⟨fun k hk => by simp [sI, va_up, hk], fun _ _ _ => rfl, rfl⟩ (by simp) (by simp [sI, va_up]; rfl) (by simp) ?_ ?_
  · rw [hsl]
    intro y T hT
    exact h0 (fun z => y ⟨z.1, by simpa [stp] using z.2⟩) T hT
  · rw [hsl]
    intro y T hT t1 t2
    exact h1 ⟨y.1, by simpa [stp] using y.2⟩ T hT t1 t2
end Sp
