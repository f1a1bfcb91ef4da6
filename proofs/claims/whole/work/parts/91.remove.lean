/-! the reference: remove -/
theorem lastP_snoc (l : List Nat) (k : Nat) : lastP (l ++ [k]) = nI k := by
  rw [lastP, List.getLast?_concat]
theorem snoc_or (l : List Nat) : l = [] ∨ ∃ m k, l = m ++ [k] := by
  rcases List.eq_nil_or_concat l with h | ⟨m, k, h⟩
  · exact Or.inl h
  · exact Or.inr ⟨m, k, by rw [h]; simp⟩
theorem Ch_cut {S T : sT} {l q : Nat} {l2 : List Nat} (h1 : T.2.1 24 l = S.2.1 24 q) (h2 : ∀ k, k ≠ l → T.2.1 24 k = S.2.1 24 k) (hl2 : l ∉ l2) : ∀ (l0 : List Nat) (x : Int32), l ∉ l0 → Ch S x (l0 ++ l :: q :: l2) → Ch T x (l0 ++ l :: l2) := by
  intro l0
  induction l0 with
  | nil =>
    intro x _ h
    obtain ⟨a, b, c, -, e⟩ := h
    refine ⟨a, b, ?_⟩
    rw [h1]
    exact Ch_frame (fun k hk => h2 k (fun z => hl2 (z ▸ hk))) e
  | cons k l0 ih =>
    intro x hl h
    obtain ⟨a, b, c⟩ := h
    have hkl : k ≠ l := fun z => hl (z ▸ List.mem_cons_self)
    refine ⟨a, b, ?_⟩
    rw [h2 k hkl]
    exact ih _ (fun z => hl (List.mem_cons_of_mem _ z)) c
/-- what a change of p's children leaves alone: all but first, last of p and next of the nodes l1 -/
def frK (S T : sT) (p : Nat) (l1 : List Nat) : Prop := T.1 = S.1 ∧ T.2.2 = S.2.2 ∧ (∀ k, k ≠ 23 → k ≠ 24 → k ≠ 25 → T.2.1 k = S.2.1 k) ∧ (∀ i, i ≠ p → T.2.1 23 i = S.2.1 23 i ∧ T.2.1 25 i = S.2.1 25 i) ∧ ∀ i, i ∉ l1 → T.2.1 24 i = S.2.1 24 i
section Rm
variable {S : sT} {N d : Nat} {Q : Option Value → sm_H → Prop}
theorem sM_remove {p q : Nat} {l1 l2 : List Nat} (hp1 : p < 6000) (hK : Kids S p (l1 ++ q :: l2)) (hnd : (l1 ++ q :: l2).Nodup) (hQ : ∀ T, frK S T p l1 → Kids T p (l1 ++ l2) → Q none (hp T)) : sm_V N (d + 1) mm_M_remove 5 33 [.int (nI p), .int (nI q)] (hp S) Q := by
  obtain ⟨hC, hL⟩ := hK
  have hlt := Ch_lt hC
  obtain ⟨nd1, nd2, nd3⟩ := List.nodup_append.mp hnd
  obtain ⟨nq, nd4⟩ := List.nodup_cons.mp nd2
  have hq1 : q ∉ l1 := fun z => nd3 q z q List.mem_cons_self rfl
  have hq6 : q < 6000 := hlt q (by simp)
  -- last
  have w62 : ∀ T, T.1 = S.1 → T.2.2 = S.2.2 → (∀ k, k ≠ 23 → k ≠ 24 → T.2.1 k = S.2.1 k) → (∀ i, i ≠ p → T.2.1 23 i = S.2.1 23 i) → (∀ i, i ∉ l1 → T.2.1 24 i = S.2.1 24 i) → Ch T (T.2.1 23 p) (l1 ++ l2) → sm_W N (d + 1) mm_M_remove 62 [(0, .ref 33), (1, .int (nI p)), (2, .int (nI q)), (3, .int (lastP l1))] [] (hp T) Q := by
    intro T t1 t2 t3 t4 t5 t6
    refine kM_remove_62 ⟨_, hg_33_15 T, _, (hq_r T hp1).2.2.2.2.2.2.2, ?_⟩
    rw [t3 25 (by omega) (by omega), hL]
    refine ⟨fun c => ⟨_, hg_33_15 T, _, (hq_w T hp1 _).2.2.2.2.2.2.2, hQ _ ?_ ⟨?_, ?_⟩⟩, fun c => hQ T ⟨t1, t2, fun k a b _ => t3 k a b, fun i hi => ⟨t4 i hi, by rw [t3 25 (by omega) (by omega)]⟩, t5⟩ ⟨t6, ?_⟩⟩
    · refine ⟨t1, t2, fun k a b e => ?_, fun i hi => ⟨?_, ?_⟩, fun i hi => ?_⟩
      · simp only [sA, va_up, if_neg e]
        exact t3 k a b
      · simp only [sA, va_up]
        exact t4 i hi
      · simp only [sA, va_up, if_pos]
        rw [pk_un hi, t3 25 (by omega) (by omega)]
      · simp only [sA, va_up]
        exact t5 i hi
    · have e23 : (sA T 25 (upd (T.2.1 25) p (lastP l1))).2.1 23 = T.2.1 23 := by simp [sA, va_up]
      have e24 : (sA T 25 (upd (T.2.1 25) p (lastP l1))).2.1 24 = T.2.1 24 := by simp [sA, va_up]
      rw [e23]
      exact Ch_frame (fun k _ => by rw [e24]) t6
    · rcases snoc_or l2 with rfl | ⟨m, z, rfl⟩
      · rw [List.append_nil]
        simp [sA, va_up, upd]
      · rw [show l1 ++ q :: (m ++ [z]) = (l1 ++ q :: m) ++ [z] by simp, lastP_snoc] at c
        have hz6 : z < 6000 := hlt z (by simp)
        rw [nI_eq (by omega) (by omega)] at c
        exact absurd (by rw [c]; simp) nq
    · rw [t3 25 (by omega) (by omega), hL]
      rcases snoc_or l2 with rfl | ⟨m, z, rfl⟩
      · rw [lastP_snoc] at c
        exact absurd rfl c
      · rw [show l1 ++ q :: (m ++ [z]) = (l1 ++ q :: m) ++ [z] by simp, lastP_snoc, show l1 ++ (m ++ [z]) = (l1 ++ m) ++ [z] by simp, lastP_snoc]
  have wq : sm_W N (d + 1) mm_M_remove 10 [(0, .ref 33), (1, .int (nI p)), (2, .int (nI q)), (3, .int (lastP l1)), (4, .int (nI q))] [] (hp S) Q := by
    refine kM_remove_10 ⟨fun _ => ?_, fun c => absurd rfl c⟩
    rcases snoc_or l1 with rfl | ⟨m, l, rfl⟩
    · refine ⟨fun c => absurd c (by decide), fun _ => ⟨_, hg_33_13 S, _, hg_33_14 S, _, (hq_r S hq6).2.2.2.2.2.2.1, _, (hq_w S hp1 _).2.2.2.2.2.1, w62 _ rfl rfl (fun k a b => ?_) (fun i hi => ?_) (fun i _ => ?_) ?_⟩⟩
      · simp only [sA, va_up, if_neg a]
      · simp only [sA, va_up, if_pos]
        rw [pk_un hi]
      · simp only [sA, va_up]
        rfl
      · have e23 : (sA S 23 (upd (S.2.1 23) p (S.2.1 24 q))).2.1 23 p = S.2.1 24 q := by simp [sA, va_up, upd]
        rw [e23]
        exact Ch_frame (fun k _ => by simp [sA, va_up]) hC.2.2
    · have hl6 : l < 6000 := hlt l (by simp)
      have hlm : l ∉ m := by
        intro z
        exact (List.nodup_append.mp nd1).2.2 l z l (by simp) rfl
      have hl2 : l ∉ l2 := fun z => nd3 l (by simp) l (List.mem_cons_of_mem _ z) rfl
      refine ⟨fun _ => ⟨_, hg_33_14 S, _, hg_33_14 S, _, (hq_r S hq6).2.2.2.2.2.2.1, hp (sA S 24 (upd (S.2.1 24) l (S.2.1 24 q))), ?_, w62 _ rfl rfl (fun k a b => ?_) (fun i hi => ?_) (fun i hi => ?_) ?_⟩, fun c => absurd ?_ c⟩
      · rw [lastP_snoc]
        exact (hq_w S hl6 _).2.2.2.2.2.2.1
      · simp only [sA, va_up, if_neg b]
      · simp only [sA, va_up]
        rfl
      · simp only [sA, va_up, if_pos]
        rw [pk_un (fun z => hi (by rw [z]; simp))]
      · have e23 : (sA S 24 (upd (S.2.1 24) l (S.2.1 24 q))).2.1 23 = S.2.1 23 := by simp [sA, va_up]
        have e24 : (sA S 24 (upd (S.2.1 24) l (S.2.1 24 q))).2.1 24 = upd (S.2.1 24) l (S.2.1 24 q) := by simp [sA, va_up]
        rw [e23]
        have := Ch_cut (S := S) (T := sA S 24 (upd (S.2.1 24) l (S.2.1 24 q))) (l := l) (q := q) (l2 := l2) (by rw [e24, pk_us]) (fun k hk => by rw [e24, pk_un hk]) hl2 m (S.2.1 23 p) hlm (by simpa using hC)
        simpa using this
      · rw [lastP_snoc]
        exact nI_pos' (by omega)
  have key : ∀ (rest done : List Nat) (x : Int32), done ++ rest = l1 → Ch S x (rest ++ q :: l2) → sm_W N (d + 1) mm_M_remove 10 [(0, .ref 33), (1, .int (nI p)), (2, .int (nI q)), (3, .int (lastP done)), (4, .int x)] [] (hp S) Q := by
    intro rest
    induction rest with
    | nil =>
      intro done x hd hc
      obtain ⟨hx, -, -⟩ := hc
      rw [List.append_nil] at hd
      rw [hx, hd]
      exact wq
    | cons k rest ih =>
      intro done x hd hc
      obtain ⟨hx, hk, hc2⟩ := hc
      have hkq : k ≠ q := fun z => hq1 (by rw [← hd, ← z]; simp)
      rw [hx]
      refine kM_remove_10 ⟨fun c => ?_, fun _ => ⟨_, hg_33_14 S, _, (hq_r S hk).2.2.2.2.2.2.1, ?_⟩⟩
      · rw [nI_eq (by omega) (by omega)] at c
        exact absurd c hkq
      · have := ih (done ++ [k]) (S.2.1 24 k) (by rw [← hd]; simp) hc2
        rw [lastP_snoc] at this
        exact this
  exact cM_remove (hk_33 S) ⟨_, hg_33_13 S, _, (hq_r S hp1).2.2.2.2.2.1, key l1 [] _ rfl hC⟩
end Rm
