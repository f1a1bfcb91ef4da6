/-! the reference: nodes and their chains -/
/-- a node is made: its number is n -/
def mkN (S : sT) (n : Nat) (x : Int32) : sT := sI (sA (sA (sA (sA (sA (sL (sA (sA (sA S 18 (upd (S.2.1 18) n x)) 19 (upd (S.2.1 19) n 0)) 20 (upd (S.2.1 20) n 0)) (vp_updL S.2.2 n 0)) 21 (upd (S.2.1 21) n 0)) 22 (upd (S.2.1 22) n 0)) 23 (upd (S.2.1 23) n (-1))) 24 (upd (S.2.1 24) n (-1))) 25 (upd (S.2.1 25) n (-1))) 19 (nI (n + 1))
theorem mkN_i (S : sT) (n : Nat) (x : Int32) {k : Nat} (h : k ≠ 19) : (mkN S n x).1 k = S.1 k := by simp [mkN, sI, sA, sL, va_up, h]
theorem mkN_19 (S : sT) (n : Nat) (x : Int32) : (mkN S n x).1 19 = nI (n + 1) := by simp [mkN, sI, va_up]
theorem mkN_o (S : sT) (n : Nat) (x : Int32) {k : Nat} (h : k < 18 ∨ 25 < k) : (mkN S n x).2.1 k = S.2.1 k := by
  have h1 : k ≠ 18 := by omega
  have h2 : k ≠ 19 := by omega
  have h3 : k ≠ 20 := by omega
  have h4 : k ≠ 21 := by omega
  have h5 : k ≠ 22 := by omega
  have h6 : k ≠ 23 := by omega
  have h7 : k ≠ 24 := by omega
  have h8 : k ≠ 25 := by omega
  simp [mkN, sI, sA, sL, va_up, h1, h2, h3, h4, h5, h6, h7, h8]
theorem mkN_18 (S : sT) (n : Nat) (x : Int32) : (mkN S n x).2.1 18 = upd (S.2.1 18) n x := by simp [mkN, sI, sA, sL, va_up]
theorem mkN_19a (S : sT) (n : Nat) (x : Int32) : (mkN S n x).2.1 19 = upd (S.2.1 19) n 0 := by simp [mkN, sI, sA, sL, va_up]
theorem mkN_20 (S : sT) (n : Nat) (x : Int32) : (mkN S n x).2.1 20 = upd (S.2.1 20) n 0 := by simp [mkN, sI, sA, sL, va_up]
theorem mkN_21 (S : sT) (n : Nat) (x : Int32) : (mkN S n x).2.1 21 = upd (S.2.1 21) n 0 := by simp [mkN, sI, sA, sL, va_up]
theorem mkN_22 (S : sT) (n : Nat) (x : Int32) : (mkN S n x).2.1 22 = upd (S.2.1 22) n 0 := by simp [mkN, sI, sA, sL, va_up]
theorem mkN_23 (S : sT) (n : Nat) (x : Int32) : (mkN S n x).2.1 23 = upd (S.2.1 23) n (-1) := by simp [mkN, sI, sA, sL, va_up]
theorem mkN_24 (S : sT) (n : Nat) (x : Int32) : (mkN S n x).2.1 24 = upd (S.2.1 24) n (-1) := by simp [mkN, sI, sA, sL, va_up]
theorem mkN_25 (S : sT) (n : Nat) (x : Int32) : (mkN S n x).2.1 25 = upd (S.2.1 25) n (-1) := by simp [mkN, sI, sA, sL, va_up]
theorem mkN_L (S : sT) (n : Nat) (x : Int32) : (mkN S n x).2.2 = vp_updL S.2.2 n 0 := by simp [mkN, sI, sA, sL]
/-- nodes from a pointer on, by 'next' -/
def Ch (S : sT) : Int32 → List Nat → Prop
  | x, [] => x = -1
  | x, k :: ks => x = nI k ∧ k < 6000 ∧ Ch S (S.2.1 24 k) ks
def lastP (ks : List Nat) : Int32 := match ks.getLast? with
  | none => -1
  | some k => nI k
/-- the children of a node -/
def Kids (S : sT) (p : Nat) (ks : List Nat) : Prop := Ch S (S.2.1 23 p) ks ∧ S.2.1 25 p = lastP ks
theorem Ch_frame {S S2 : sT} : ∀ {ks : List Nat} {x : Int32}, (∀ k ∈ ks, S2.2.1 24 k = S.2.1 24 k) → Ch S x ks → Ch S2 x ks := by
  intro ks
  induction ks with
  | nil => intro x _ h; exact h
  | cons k ks ih =>
    intro x hk h
    exact ⟨h.1, h.2.1, by rw [hk k List.mem_cons_self]; exact ih (fun q hq => hk q (List.mem_cons_of_mem _ hq)) h.2.2⟩
theorem Ch_snoc {S S2 : sT} {n : Nat} (hn : n < 6000) (h2 : S2.2.1 24 n = -1) : ∀ {ks : List Nat} {x : Int32} {l : Nat}, ks.Nodup → ks.getLast? = some l → (∀ k ∈ ks, k ≠ l → S2.2.1 24 k = S.2.1 24 k) → S2.2.1 24 l = nI n → Ch S x ks → Ch S2 x (ks ++ [n]) := by
  intro ks
  induction ks with
  | nil => intro x l _ hl; simp at hl
  | cons k ks ih =>
    intro x l hnd hl hk hl2 h
    cases ks with
    | nil =>
      simp at hl
      subst hl
      exact ⟨h.1, h.2.1, by rw [hl2]; exact ⟨rfl, hn, h2⟩⟩
    | cons k2 ks =>
      have hl3 : (k2 :: ks).getLast? = some l := by rw [List.getLast?_cons_cons] at hl; exact hl
      have hne : k ≠ l := by
        intro e
        subst e
        exact (List.nodup_cons.mp hnd).1 (List.mem_of_getLast? hl3)
      refine ⟨h.1, h.2.1, ?_⟩
      show Ch S2 (S2.2.1 24 k) ((k2 :: ks) ++ [n])
      rw [hk k List.mem_cons_self hne]
      exact ih (List.nodup_cons.mp hnd).2 hl3 (fun q hq => hk q (List.mem_cons_of_mem _ hq)) hl2 h.2.2
section MN
variable {S : sT} {N d : Nat} {Q : Option Value → sm_H → Prop}
theorem sM_make {n : Nat} {x : Int32} (hn : n < 6000) (hc : S.1 19 = nI n) (hQ : Q (some (.int (nI n))) (hp (mkN S n x))) : sm_V N (d + 1) mm_M_make 5 33 [.int x] (hp S) Q := by
  refine cM_make (hk_33 S) ⟨_, hg_33_7 S, _, hg_33_6 S, ?_⟩
  rw [hc]
  refine ⟨_, (hq_w S hn x).1, ?_⟩
  generalize e1 : sA S 18 (upd (S.2.1 18) n x) = S1
  have c1 : S1.1 19 = nI n := by rw [← e1]; exact hc
  refine ⟨_, hg_33_8 S1, _, hg_33_6 S1, ?_⟩
  rw [c1]
  refine ⟨_, (hq_w S1 hn 0).2.1, ?_⟩
  generalize e2 : sA S1 19 (upd (S1.2.1 19) n 0) = S2
  have c2 : S2.1 19 = nI n := by rw [← e2]; exact c1
  refine ⟨_, hg_33_9 S2, _, hg_33_6 S2, ?_⟩
  rw [c2]
  refine ⟨_, (hq_w S2 hn 0).2.2.1, ?_⟩
  generalize e3 : sA S2 20 (upd (S2.2.1 20) n 0) = S3
  have c3 : S3.1 19 = nI n := by rw [← e3]; exact c2
  refine ⟨_, hg_33_10 S3, _, hg_33_6 S3, ?_⟩
  rw [c3]
  refine ⟨_, hl_w S3 hn 0, ?_⟩
  generalize e4 : sL S3 (vp_updL S3.2.2 n 0) = S4
  have c4 : S4.1 19 = nI n := by rw [← e4]; exact c3
  refine ⟨_, hg_33_11 S4, _, hg_33_6 S4, ?_⟩
  rw [c4]
  refine ⟨_, (hq_w S4 hn 0).2.2.2.1, ?_⟩
  generalize e5 : sA S4 21 (upd (S4.2.1 21) n 0) = S5
  have c5 : S5.1 19 = nI n := by rw [← e5]; exact c4
  refine ⟨_, hg_33_12 S5, _, hg_33_6 S5, ?_⟩
  rw [c5]
  refine ⟨_, (hq_w S5 hn 0).2.2.2.2.1, ?_⟩
  generalize e6 : sA S5 22 (upd (S5.2.1 22) n 0) = S6
  have c6 : S6.1 19 = nI n := by rw [← e6]; exact c5
  refine ⟨_, hg_33_13 S6, _, hg_33_6 S6, ?_⟩
  rw [c6]
  refine ⟨_, (hq_w S6 hn (-1)).2.2.2.2.2.1, ?_⟩
  generalize e7 : sA S6 23 (upd (S6.2.1 23) n (-1)) = S7
  have c7 : S7.1 19 = nI n := by rw [← e7]; exact c6
  refine ⟨_, hg_33_14 S7, _, hg_33_6 S7, ?_⟩
  rw [c7]
  refine ⟨_, (hq_w S7 hn (-1)).2.2.2.2.2.2.1, ?_⟩
  generalize e8 : sA S7 24 (upd (S7.2.1 24) n (-1)) = S8
  have c8 : S8.1 19 = nI n := by rw [← e8]; exact c7
  refine ⟨_, hg_33_15 S8, _, hg_33_6 S8, ?_⟩
  rw [c8]
  refine ⟨_, (hq_w S8 hn (-1)).2.2.2.2.2.2.2, ?_⟩
  generalize e9 : sA S8 25 (upd (S8.2.1 25) n (-1)) = S9
  have c9 : S9.1 19 = nI n := by rw [← e9]; exact c8
  refine ⟨_, hg_33_6 S9, _, hu_33_6 S9 _, _, hg_33_6 _, ?_⟩
  have eN : sI S9 19 (S9.1 19 + 1) = mkN S n x := by
    rw [c9, nI_1, ← e9, ← e8, ← e7, ← e6, ← e5, ← e4, ← e3, ← e2, ← e1]
    rfl
  rw [eN, mkN_19, nI_pred]
  exact hQ
/-- a node comes behind the children of another one -/
def apS (S : sT) (p n : Nat) (ks : List Nat) : sT := match ks.getLast? with
  | none => sA (sA (sA S 24 (upd (S.2.1 24) n (-1))) 23 (upd (S.2.1 23) p (nI n))) 25 (upd (S.2.1 25) p (nI n))
  | some l => sA (sA S 24 (upd (upd (S.2.1 24) n (-1)) l (nI n))) 25 (upd (S.2.1 25) p (nI n))
theorem sM_append {p n : Nat} {ks : List Nat} (hp1 : p < 6000) (hn : n < 6000) (hk : Kids S p ks) (hnk : n ∉ ks) (hQ : Q none (hp (apS S p n ks))) : sm_V N (d + 1) mm_M_append 5 33 [.int (nI p), .int (nI n)] (hp S) Q := by
  refine cM_append (hk_33 S) ⟨_, hg_33_14 S, _, (hq_w S hn (-1)).2.2.2.2.2.2.1, ?_⟩
  generalize e1 : sA S 24 (upd (S.2.1 24) n (-1)) = S1
  have f1 : S1.2.1 23 = S.2.1 23 := by rw [← e1]; rfl
  have l1 : S1.2.1 25 = S.2.1 25 := by rw [← e1]; rfl
  have n1 : S1.2.1 24 = upd (S.2.1 24) n (-1) := by rw [← e1]; rfl
  refine ⟨_, hg_33_13 S1, _, (hq_r S1 hp1).2.2.2.2.2.1, ?_⟩
  rw [f1]
  cases ks with
  | nil =>
    have h0 : S.2.1 23 p = -1 := hk.1
    rw [h0]
    refine ⟨fun c => absurd c (by decide), fun _ => ⟨_, hg_33_13 S1, _, (hq_w S1 hp1 (nI n)).2.2.2.2.2.1, ?_⟩⟩
    refine kM_append_38 ⟨_, hg_33_15 _, _, (hq_w _ hp1 (nI n)).2.2.2.2.2.2.2, ?_⟩
    rw [f1] 
    subst e1
    exact hQ
  | cons k ks =>
    have h0 : S.2.1 23 p = nI k := hk.1.1
    have hk6 : k < 6000 := hk.1.2.1
    obtain ⟨l, hl⟩ : ∃ l, (k :: ks).getLast? = some l := ⟨_, List.getLast?_eq_some_getLast (by simp)⟩
    have hl1 : S.2.1 25 p = nI l := by rw [hk.2, lastP, hl]
    have hl6 : l < 6000 := by
      have : ∀ (ks : List Nat) (x : Int32), Ch S x ks → ∀ q ∈ ks, q < 6000 := by
        intro ks
        induction ks with
        | nil => intro x _ q hq; simp at hq
        | cons a ks ih =>
          intro x h q hq
          rcases List.mem_cons.mp hq with rfl | hq
          · exact h.2.1
          · exact ih _ h.2.2 q hq
      exact this _ _ hk.1 l (List.mem_of_getLast? hl)
    rw [h0]
    refine ⟨fun _ => ⟨_, hg_33_14 S1, _, hg_33_15 S1, _, (hq_r S1 hp1).2.2.2.2.2.2.2, ?_⟩, fun c => absurd (by rw [nI_gel (by omega) (by omega)]; exact Nat.zero_le _) c⟩
    rw [l1, hl1]
    refine ⟨_, (hq_w S1 hl6 (nI n)).2.2.2.2.2.2.1, ?_⟩
    refine kM_append_38 ⟨_, hg_33_15 _, _, (hq_w _ hp1 (nI n)).2.2.2.2.2.2.2, ?_⟩
    rw [apS, hl] at hQ
    subst e1
    have : sA (sA S 24 (upd (S.2.1 24) n (-1))) 24 (upd ((sA S 24 (upd (S.2.1 24) n (-1))).2.1 24) l (nI n)) = sA S 24 (upd (upd (S.2.1 24) n (-1)) l (nI n)) := by
      simp [sA, up_up, va_up_self]
    rw [this]
    exact hQ
end MN
