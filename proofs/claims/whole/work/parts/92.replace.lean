/-! the reference: replace -/
theorem Ch_put {S T : sT} {l q n : Nat} {l2 : List Nat} (hn : n < 6000) (h1 : T.2.1 24 l = nI n) (h3 : T.2.1 24 n = S.2.1 24 q) (h2 : ∀ k, k ≠ l → k ≠ n → T.2.1 24 k = S.2.1 24 k) (hl2 : l ∉ l2) (hn2 : n ∉ l2) : ∀ (l0 : List Nat) (x : Int32), l ∉ l0 → n ∉ l0 → Ch S x (l0 ++ l :: q :: l2) → Ch T x (l0 ++ l :: n :: l2) := by
  intro l0
  induction l0 with
  | nil =>
    intro x _ _ h
    obtain ⟨a, b, c, -, e⟩ := h
    refine ⟨a, b, h1, hn, ?_⟩
    rw [h3]
    exact Ch_frame (fun k hk => h2 k (fun z => hl2 (z ▸ hk)) (fun z => hn2 (z ▸ hk))) e
  | cons k l0 ih =>
    intro x hl hn0 h
    obtain ⟨a, b, c⟩ := h
    have hkl : k ≠ l := fun z => hl (z ▸ List.mem_cons_self)
    have hkn : k ≠ n := fun z => hn0 (z ▸ List.mem_cons_self)
    refine ⟨a, b, ?_⟩
    rw [h2 k hkl hkn]
    exact ih _ (fun z => hl (List.mem_cons_of_mem _ z)) (fun z => hn0 (List.mem_cons_of_mem _ z)) c
/-- what a node put in another's place leaves alone -/
def frW (S T : sT) (p n q : Nat) (l1 : List Nat) : Prop := T.1 = S.1 ∧ T.2.2 = S.2.2 ∧ (∀ k, k ≠ 19 → k ≠ 20 → k ≠ 23 → k ≠ 24 → k ≠ 25 → T.2.1 k = S.2.1 k) ∧ (∀ i, i ≠ p → T.2.1 23 i = S.2.1 23 i ∧ T.2.1 25 i = S.2.1 25 i) ∧ (∀ i, i ∉ l1 → i ≠ n → T.2.1 24 i = S.2.1 24 i) ∧ (∀ i, i ≠ n → T.2.1 19 i = S.2.1 19 i ∧ T.2.1 20 i = S.2.1 20 i) ∧ T.2.1 19 n = S.2.1 19 q ∧ T.2.1 20 n = S.2.1 20 q
section Rp
variable {S : sT} {N d : Nat} {Q : Option Value → sm_H → Prop}
theorem sM_replace {p q n : Nat} {l1 l2 : List Nat} (hp1 : p < 6000) (hn : n < 6000) (hK : Kids S p (l1 ++ q :: l2)) (hnd : (l1 ++ q :: l2).Nodup) (hn1 : n ∉ l1 ++ q :: l2) (hQ : ∀ T, frW S T p n q l1 → Kids T p (l1 ++ n :: l2) → Q none (hp T)) : sm_V N (d + 1) mm_M_replace 5 33 [.int (nI p), .int (nI q), .int (nI n)] (hp S) Q := by
  obtain ⟨hC, hL⟩ := hK
  have hlt := Ch_lt hC
  obtain ⟨nd1, nd2, nd3⟩ := List.nodup_append.mp hnd
  obtain ⟨nq, nd4⟩ := List.nodup_cons.mp nd2
  have hq1 : q ∉ l1 := fun z => nd3 q z q List.mem_cons_self rfl
  have hq6 : q < 6000 := hlt q (by simp)
  have hnl1 : n ∉ l1 := fun z => hn1 (by simp [z])
  have hnl2 : n ∉ l2 := fun z => hn1 (by simp [z])
  have hnq : q ≠ n := fun z => hn1 (by simp [z])
  refine cM_replace (hk_33 S) ⟨_, hg_33_8 S, _, hg_33_8 S, _, (hq_r S hq6).2.1, _, (hq_w S hn _).2.1, _, hg_33_9 _, _, hg_33_9 _, _, (hq_r _ hq6).2.2.1, _, (hq_w _ hn _).2.2.1, _, hg_33_14 _, _, hg_33_14 _, _, (hq_r _ hq6).2.2.2.2.2.2.1, _, (hq_w _ hn _).2.2.2.2.2.2.1, ?_⟩
  generalize hS1 : sA (sA (sA S 19 (upd (S.2.1 19) n (S.2.1 19 q))) 20 (upd ((sA S 19 (upd (S.2.1 19) n (S.2.1 19 q))).2.1 20) n ((sA S 19 (upd (S.2.1 19) n (S.2.1 19 q))).2.1 20 q))) 24 (upd ((sA (sA S 19 (upd (S.2.1 19) n (S.2.1 19 q))) 20 (upd ((sA S 19 (upd (S.2.1 19) n (S.2.1 19 q))).2.1 20) n ((sA S 19 (upd (S.2.1 19) n (S.2.1 19 q))).2.1 20 q))).2.1 24) n ((sA (sA S 19 (upd (S.2.1 19) n (S.2.1 19 q))) 20 (upd ((sA S 19 (upd (S.2.1 19) n (S.2.1 19 q))).2.1 20) n ((sA S 19 (upd (S.2.1 19) n (S.2.1 19 q))).2.1 20 q))).2.1 24 q)) = S1
  have s1 : S1.1 = S.1 := by rw [← hS1]; rfl
  have sL : S1.2.2 = S.2.2 := by rw [← hS1]; rfl
  have so : ∀ k, k ≠ 19 → k ≠ 20 → k ≠ 24 → S1.2.1 k = S.2.1 k := fun k a b c => by rw [← hS1]; simp [sA, va_up, a, b, c]
  have s19 : S1.2.1 19 = upd (S.2.1 19) n (S.2.1 19 q) := by rw [← hS1]; simp [sA, va_up]
  have s20 : S1.2.1 20 = upd (S.2.1 20) n (S.2.1 20 q) := by rw [← hS1]; simp [sA, va_up]
  have s24 : S1.2.1 24 = upd (S.2.1 24) n (S.2.1 24 q) := by rw [← hS1]; simp [sA, va_up]
  clear hS1
  have s23 := so 23 (by omega) (by omega) (by omega)
  have s25 := so 25 (by omega) (by omega) (by omega)
  have hC1 : Ch S1 (S.2.1 23 p) (l1 ++ q :: l2) := Ch_frame (fun k hk => by rw [s24, pk_un (show k ≠ n from fun z => hn1 (z ▸ hk))]) hC
  have w92 : ∀ T, T.1 = S.1 → T.2.2 = S.2.2 → (∀ k, k ≠ 19 → k ≠ 20 → k ≠ 23 → k ≠ 24 → T.2.1 k = S.2.1 k) → (∀ i, i ≠ p → T.2.1 23 i = S.2.1 23 i) → (∀ i, i ∉ l1 → i ≠ n → T.2.1 24 i = S.2.1 24 i) → T.2.1 19 = S1.2.1 19 → T.2.1 20 = S1.2.1 20 → Ch T (T.2.1 23 p) (l1 ++ n :: l2) → sm_W N (d + 1) mm_M_replace 92 [(0, .ref 33), (1, .int (nI p)), (2, .int (nI q)), (3, .int (nI n))] [] (hp T) Q := by
    intro T t1 t2 t3 t4 t5 t19 t20 t6
    have t25 := t3 25 (by omega) (by omega) (by omega) (by omega)
    have f19 : ∀ i, i ≠ n → T.2.1 19 i = S.2.1 19 i ∧ T.2.1 20 i = S.2.1 20 i := fun i hi => ⟨by rw [t19, s19, pk_un hi], by rw [t20, s20, pk_un hi]⟩
    have g19 : T.2.1 19 n = S.2.1 19 q := by rw [t19, s19, pk_us]
    have g20 : T.2.1 20 n = S.2.1 20 q := by rw [t20, s20, pk_us]
    refine kM_replace_92 ⟨_, hg_33_15 T, _, (hq_r T hp1).2.2.2.2.2.2.2, ?_⟩
    rw [t25, hL]
    refine ⟨fun c => ⟨_, hg_33_15 T, _, (hq_w T hp1 _).2.2.2.2.2.2.2, hQ _ ?_ ⟨?_, ?_⟩⟩, fun c => hQ T ⟨t1, t2, fun k a b e g _ => t3 k a b e g, fun i hi => ⟨t4 i hi, by rw [t25]⟩, t5, f19, g19, g20⟩ ⟨t6, ?_⟩⟩
    · have eo : ∀ k, k ≠ 25 → (sA T 25 (upd (T.2.1 25) p (nI n))).2.1 k = T.2.1 k := fun k h => by simp [sA, va_up, h]
      refine ⟨t1, t2, fun k a b e g h => by rw [eo k h]; exact t3 k a b e g, fun i hi => ⟨by rw [eo 23 (by omega)]; exact t4 i hi, ?_⟩, fun i hi hi2 => by rw [eo 24 (by omega)]; exact t5 i hi hi2, fun i hi => by rw [eo 19 (by omega), eo 20 (by omega)]; exact f19 i hi, by rw [eo 19 (by omega)]; exact g19, by rw [eo 20 (by omega)]; exact g20⟩
      simp only [sA, va_up, if_pos]
      rw [pk_un hi, t25]
    · have e23 : (sA T 25 (upd (T.2.1 25) p (nI n))).2.1 23 = T.2.1 23 := by simp [sA, va_up]
      have e24 : (sA T 25 (upd (T.2.1 25) p (nI n))).2.1 24 = T.2.1 24 := by simp [sA, va_up]
      rw [e23]
      exact Ch_frame (fun k _ => by rw [e24]) t6
    · rcases snoc_or l2 with rfl | ⟨m, z, rfl⟩
      · rw [lastP_snoc]
        simp [sA, va_up, upd]
      · rw [show l1 ++ q :: (m ++ [z]) = (l1 ++ q :: m) ++ [z] by simp, lastP_snoc] at c
        have hz6 : z < 6000 := hlt z (by simp)
        rw [nI_eq (by omega) (by omega)] at c
        exact absurd (by rw [c]; simp) nq
    · rw [t25, hL]
      rcases snoc_or l2 with rfl | ⟨m, z, rfl⟩
      · rw [lastP_snoc] at c
        exact absurd rfl c
      · rw [show l1 ++ q :: (m ++ [z]) = (l1 ++ q :: m) ++ [z] by simp, lastP_snoc, show l1 ++ n :: (m ++ [z]) = (l1 ++ n :: m) ++ [z] by simp, lastP_snoc]
  have wq : sm_W N (d + 1) mm_M_replace 47 [(0, .ref 33), (1, .int (nI p)), (2, .int (nI q)), (3, .int (nI n)), (4, .int (lastP l1)), (5, .int (nI q))] [] (hp S1) Q := by
    refine kM_replace_47 ⟨fun _ => ?_, fun c => absurd rfl c⟩
    rcases snoc_or l1 with rfl | ⟨m, l, rfl⟩
    · refine ⟨fun c => absurd c (by decide), fun _ => ⟨_, hg_33_13 S1, _, (hq_w S1 hp1 _).2.2.2.2.2.1, ?_⟩⟩
      have eo : ∀ k, k ≠ 23 → (sA S1 23 (upd (S1.2.1 23) p (nI n))).2.1 k = S1.2.1 k := fun k h => by simp [sA, va_up, h]
      have e23 : (sA S1 23 (upd (S1.2.1 23) p (nI n))).2.1 23 = upd (S1.2.1 23) p (nI n) := by simp [sA, va_up]
      refine w92 _ s1 sL (fun k a b c e => by rw [eo k c]; exact so k a b e) (fun i hi => by rw [e23, pk_un hi, s23]) (fun i _ hi => by rw [eo 24 (by omega), s24, pk_un hi]) (eo 19 (by omega)) (eo 20 (by omega)) ?_
      rw [e23, pk_us]
      refine ⟨rfl, hn, ?_⟩
      rw [eo 24 (by omega), s24, pk_us]
      exact Ch_frame (fun k hk => by rw [eo 24 (by omega), s24, pk_un (show k ≠ n from fun z => hnl2 (z ▸ hk))]) hC.2.2
    · have hl6 : l < 6000 := hlt l (by simp)
      have hlm : l ∉ m := by
        intro z
        exact (List.nodup_append.mp nd1).2.2 l z l (by simp) rfl
      have hl2 : l ∉ l2 := fun z => nd3 l (by simp) l (List.mem_cons_of_mem _ z) rfl
      have hnl : n ≠ l := fun z => hnl1 (by rw [z]; simp)
      have hnm : n ∉ m := fun z => hnl1 (by simp [z])
      refine ⟨fun _ => ⟨_, hg_33_14 S1, hp (sA S1 24 (upd (S1.2.1 24) l (nI n))), ?_, ?_⟩, fun c => absurd ?_ c⟩
      · rw [lastP_snoc]
        exact (hq_w S1 hl6 _).2.2.2.2.2.2.1
      · have eo : ∀ k, k ≠ 24 → (sA S1 24 (upd (S1.2.1 24) l (nI n))).2.1 k = S1.2.1 k := fun k h => by simp [sA, va_up, h]
        have e24 : (sA S1 24 (upd (S1.2.1 24) l (nI n))).2.1 24 = upd (S1.2.1 24) l (nI n) := by simp [sA, va_up]
        refine w92 _ s1 sL (fun k a b c e => by rw [eo k e]; exact so k a b e) (fun i hi => by rw [eo 23 (by omega), s23]) (fun i hi hi2 => by rw [e24, pk_un (fun z => hi (by rw [z]; simp)), s24, pk_un hi2]) (eo 19 (by omega)) (eo 20 (by omega)) ?_
        rw [eo 23 (by omega), s23]
        have := Ch_put (S := S) (T := sA S1 24 (upd (S1.2.1 24) l (nI n))) (l := l) (q := q) (n := n) (l2 := l2) hn (by rw [e24, pk_us]) (by rw [e24, pk_un hnl, s24, pk_us]) (fun k hk hk2 => by rw [e24, pk_un hk, s24, pk_un hk2]) hl2 hnl2 m (S.2.1 23 p) hlm hnm (by simpa using hC)
        simpa using this
      · rw [lastP_snoc]
        exact nI_pos' (by omega)
  have key : ∀ (rest done : List Nat) (x : Int32), done ++ rest = l1 → Ch S1 x (rest ++ q :: l2) → sm_W N (d + 1) mm_M_replace 47 [(0, .ref 33), (1, .int (nI p)), (2, .int (nI q)), (3, .int (nI n)), (4, .int (lastP done)), (5, .int x)] [] (hp S1) Q := by
    intro rest
    induction rest with
    | nil =>
      intro done x hd hc
      obtain ⟨hx, -, -⟩ := hc
      rw [List.append_nil] at hd
      rw [hx, hd]
      exact wq
    | cons k rest ih =>
      intro done x hd hc
      obtain ⟨hx, hk, hc2⟩ := hc
      have hkq : k ≠ q := fun z => hq1 (by rw [← hd, ← z]; simp)
      rw [hx]
      refine kM_replace_47 ⟨fun c => ?_, fun _ => ⟨_, hg_33_14 S1, _, (hq_r S1 hk).2.2.2.2.2.2.1, ?_⟩⟩
      · rw [nI_eq (by omega) (by omega)] at c
        exact absurd c hkq
      · have := ih (done ++ [k]) (S1.2.1 24 k) (by rw [← hd]; simp) hc2
        rw [lastP_snoc] at this
        exact this
  refine ⟨_, hg_33_13 S1, _, (hq_r S1 hp1).2.2.2.2.2.1, ?_⟩
  rw [s23]
  exact key l1 [] _ rfl hC1
end Rp
