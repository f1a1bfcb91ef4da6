/-! a holder's children are changed -/
theorem dgf_b : ∀ (k v : Nat), ∀ b ∈ dgf k v, 48 ≤ b ∧ b ≤ 57 := by
  intro k
  induction k with
  | zero =>
    intro v b hb
    rw [dgf, List.mem_singleton] at hb
    omega
  | succ k ih =>
    intro v b hb
    rw [dgf] at hb
    rcases List.mem_cons.mp hb with hb | hb
    · have := Nat.mod_lt (v / 10 ^ (k + 1)) (show 0 < 10 by omega)
      omega
    · exact ih v b hb
theorem dg_b (v : Nat) : ∀ b ∈ dg v, 48 ≤ b ∧ b ≤ 57 := dgf_b _ _
/-- items with their numbers as names -/
def rnm : Nat → List El → List El
  | _, [] => []
  | i, e :: r => (e.1, dg i, e.2.2) :: rnm (i + 1) r
theorem rnm_len : ∀ (es : List El) (i : Nat), (rnm i es).length = es.length := by
  intro es
  induction es with
  | nil => intro i; rfl
  | cons e es ih => intro i; rw [rnm, List.length_cons, List.length_cons, ih]
def shf (k i : Nat) (es : List El) : List El := if k = 4 then rnm i es else es
theorem RL_shf {pv : Nat → Nat → List Nat → List Nat → Prop} {S : sT} {k : Nat} : ∀ {ks : List Nat} {es : List El} {fp : List Nat} {i j : Nat}, RL pv S k j ks es fp → RL pv S k i ks (shf k i es) fp := by
  intro ks
  induction ks with
  | nil =>
    intro es fp i j h
    cases es with
    | nil =>
      have : shf k i [] = [] := by rw [shf]; split <;> rfl
      rw [this]
      exact h
    | cons e es => exact absurd h (by simp [RL])
  | cons n ks ih =>
    intro es fp i j h
    cases es with
    | nil => exact absurd h (by simp [RL])
    | cons e es =>
      obtain ⟨f1, f2, h1, h2, h3, h4, h5⟩ := h
      have h6 := ih (i := i + 1) h5
      by_cases c : k = 4
      · rw [shf, if_pos c, rnm]
        rw [shf, if_pos c] at h6
        refine ⟨f1, f2, h1, by rw [if_pos c], fun b hb => ?_, h4, h6⟩
        have := dg_b i b hb
        omega
      · rw [shf, if_neg c]
        rw [shf, if_neg c] at h6
        exact ⟨f1, f2, h1, by rw [if_neg c]; rw [if_neg c] at h2; exact h2, h3, h4, h6⟩
theorem rnm_b : ∀ (es : List El) (i : Nat), (∀ b ∈ encs es, b < 256) → ∀ b ∈ encs (rnm i es), b < 256 := by
  intro es
  induction es with
  | nil => intro i h; exact h
  | cons e es ih =>
    intro i h
    obtain ⟨h1, h2⟩ := encs_bc.mp h
    refine encs_bc.mpr ⟨⟨h1.1, fun b hb => ?_, h1.2.2⟩, ih (i + 1) h2⟩
    have := dg_b i b hb
    omega
theorem shf_b {k i : Nat} {es : List El} (h : ∀ b ∈ encs es, b < 256) : ∀ b ∈ encs (shf k i es), b < 256 := by
  rw [shf]
  split
  · exact rnm_b es i h
  · exact h
theorem apS_own {S : sT} {p n i : Nat} {ks : List Nat} (h : i ≠ p) : sOwn S (apS S p n ks) i := ⟨by rw [apS_o _ _ _ _ (by omega) (by omega) (by omega)], by rw [apS_L], by rw [apS_o _ _ _ _ (by omega) (by omega) (by omega)], by rw [apS_o _ _ _ _ (by omega) (by omega) (by omega)], apS_23 _ _ _ _ h, by rw [apS_25, pk_un h], by rw [apS_o _ _ _ _ (by omega) (by omega) (by omega)], by rw [apS_o _ _ _ _ (by omega) (by omega) (by omega)]⟩
theorem apS_st (S : sT) (p n : Nat) (ks : List Nat) : stl (apS S p n ks) = stl S := by rw [stl, stl, apS_o _ _ _ _ (by omega) (by omega) (by omega)]
section Ed
variable {t : Nat} {S T : sT} {p k q n k2 : Nat} {es l1 l2 : List El} {e : El} {ks ks1 ks2 f fn w raw2 : List Nat}
theorem nd_ap (hnd : (p :: f).Nodup) (hfn : fn.Nodup) (hd : ∀ i ∈ fn, i ∉ p :: f) : (p :: (f ++ fn)).Nodup := by
  obtain ⟨n1, n2⟩ := List.nodup_cons.mp hnd
  refine List.nodup_cons.mpr ⟨fun z => ?_, List.nodup_append.mpr ⟨n2, hfn, fun i hi j hj z => ?_⟩⟩
  · rcases List.mem_append.mp z with z | z
    · exact n1 z
    · exact hd p z List.mem_cons_self
  · subst z
    exact hd i hj (List.mem_cons_of_mem _ hi)
theorem RH_app (hnd : (p :: f).Nodup) (h : RH t S p k es ks f) (hv : RV t S n k2 raw2 fn) (hfn : fn.Nodup) (hd : ∀ i ∈ fn, i ∉ p :: f) (hw : if k = 4 then w = dg es.length else NmN S n w) (hz : ∀ b ∈ w, b ≠ 0) (hb : ∀ b ∈ w, b < 256) : RH t (apS S p n ks) p k (es ++ [(k2, w, raw2)]) (ks ++ [n]) (f ++ fn) := by
  obtain ⟨h1, h2, h3, h4, h5, h6, h7⟩ := h
  obtain ⟨n1, n2⟩ := List.nodup_cons.mp hnd
  have kin := RL_in h7
  obtain ⟨f4, hf4⟩ := RV_hd hv
  have hnn : n ∈ fn := by rw [hf4]; simp
  have hnp : n ≠ p := fun z => hd n hnn (by simp [z])
  have hnk : n ∉ ks := fun z => hd n hnn (List.mem_cons_of_mem _ (kin n z))
  have hst := apS_st S p n ks
  refine ⟨h1, by rw [apS_o _ _ _ _ (by omega) (by omega) (by omega)]; exact h2, h3, by rw [apS_L]; exact h4, encs_b.mpr ⟨h5, encs_bc.mpr ⟨⟨(RV_k hv).2.2, hb, ?_⟩, by simp [encs]⟩⟩, apS_kids (RV_k hv).1 (RL_nd n2 h7) h6 hnk, ?_⟩
  · cases t with
    | zero => exact hv.2.2.1
    | succ t => exact hv.2.2.1
  · refine RL_snoc (e := (k2, w, raw2)) (RL_frame hst n2 (fun i hi => apS_own (fun z => n1 (z ▸ hi))) (fun i hi hik => apS_24 _ _ _ _ (fun z => hd n hnn (List.mem_cons_of_mem _ (z ▸ hi))) hik) h7) ?_ hz ?_
    · rw [RL_len h7, Nat.zero_add]
      by_cases c : k = 4
      · rw [if_pos c] at hw ⊢; exact hw
      · rw [if_neg c] at hw ⊢; exact NmN_frame (apS_own hnp) hst hw
    · exact RV_fr2 hst hfn (sOwn_val (apS_own hnp)) (fun i hi hin => ⟨apS_own (fun z => hd i hi (by simp [z])), apS_24 _ _ _ _ hin (fun z => hd i hi (List.mem_cons_of_mem _ (kin i z)))⟩) hv
theorem frW_own (h : frW S T p n q ks1) {i : Nat} (hp1 : i ≠ p) (hn : i ≠ n) : sOwn S T i := ⟨by rw [h.2.2.1 18 (by omega) (by omega) (by omega) (by omega) (by omega)], by rw [h.2.1], by rw [h.2.2.1 21 (by omega) (by omega) (by omega) (by omega) (by omega)], by rw [h.2.2.1 22 (by omega) (by omega) (by omega) (by omega) (by omega)], (h.2.2.2.1 i hp1).1, (h.2.2.2.1 i hp1).2, (h.2.2.2.2.2.1 i hn).1, (h.2.2.2.2.2.1 i hn).2⟩
theorem frW_val (h : frW S T p n q ks1) {i : Nat} (hp1 : i ≠ p) : sVal S T i := ⟨by rw [h.2.2.1 18 (by omega) (by omega) (by omega) (by omega) (by omega)], by rw [h.2.1], by rw [h.2.2.1 21 (by omega) (by omega) (by omega) (by omega) (by omega)], by rw [h.2.2.1 22 (by omega) (by omega) (by omega) (by omega) (by omega)], (h.2.2.2.1 i hp1).1, (h.2.2.2.1 i hp1).2⟩
theorem frK_own (h : frK S T p ks1) {i : Nat} (hp1 : i ≠ p) : sOwn S T i := ⟨by rw [h.2.2.1 18 (by omega) (by omega) (by omega)], by rw [h.2.1], by rw [h.2.2.1 21 (by omega) (by omega) (by omega)], by rw [h.2.2.1 22 (by omega) (by omega) (by omega)], (h.2.2.2.1 i hp1).1, (h.2.2.2.1 i hp1).2, by rw [h.2.2.1 19 (by omega) (by omega) (by omega)], by rw [h.2.2.1 20 (by omega) (by omega) (by omega)]⟩
theorem RH_rep (hnd : (p :: f).Nodup) (h : RH t S p k (l1 ++ e :: l2) (ks1 ++ q :: ks2) f) (hl : ks1.length = l1.length) (hv : RV t S n k2 raw2 fn) (hfn : fn.Nodup) (hd : ∀ i ∈ fn, i ∉ p :: f) (hW : frW S T p n q ks1) (hK : Kids T p (ks1 ++ n :: ks2)) : ∃ f2, RH t T p k (l1 ++ (k2, e.2.1, raw2) :: l2) (ks1 ++ n :: ks2) f2 ∧ (p :: f2).Nodup ∧ ∀ i ∈ f2, i ∈ f ∨ i ∈ fn := by
  obtain ⟨m1, m2, m3, f1, fe, f2, hks, rfl, hlen, hq, c2, b5, b2, b3, -⟩ := RH_mid hnd h
  obtain ⟨h1, h2, h3, h4, h5, h6, h7⟩ := h
  obtain ⟨rfl, hks2⟩ := List.append_inj hks (by omega)
  obtain ⟨rfl, rfl⟩ := List.cons.inj hks2
  obtain ⟨n1, n2⟩ := List.nodup_cons.mp hnd
  obtain ⟨n3, n4, n5⟩ := List.nodup_append.mp n2
  obtain ⟨n6, n7, n8⟩ := List.nodup_append.mp n4
  obtain ⟨e1, e2⟩ := encs_b.mp h5
  obtain ⟨e3, e4⟩ := encs_bc.mp e2
  have kin1 := RL_in c2
  have kin2 := RL_in b5
  obtain ⟨f4, hf4⟩ := RV_hd hv
  have hnn : n ∈ fn := by rw [hf4]; simp
  have hnp : n ≠ p := fun z => hd n hnn (by simp [z])
  have hst : stl T = stl S := by rw [stl, stl, hW.2.2.1 17 (by omega) (by omega) (by omega) (by omega) (by omega)]
  have hdn : ∀ i, i ∈ f1 ++ (fe ++ f2) → i ≠ n := fun i hi z => hd n hnn (List.mem_cons_of_mem _ (z ▸ hi))
  have hdp : ∀ i, i ∈ f1 ++ (fe ++ f2) → i ≠ p := fun i hi z => n1 (z ▸ hi)
  refine ⟨f1 ++ (fn ++ f2), ⟨h1, by rw [hW.2.2.1 18 (by omega) (by omega) (by omega) (by omega) (by omega)]; exact h2, h3, by rw [hW.2.1]; exact h4, encs_b.mpr ⟨e1, encs_bc.mpr ⟨⟨(RV_k hv).2.2, e3.2.1, ?_⟩, e4⟩⟩, hK, ?_⟩, ?_, fun i hi => ?_⟩
  · cases t with
    | zero => exact hv.2.2.1
    | succ t => exact hv.2.2.1
  · refine RL_app (RL_frame hst n3 (fun i hi => frW_own hW (hdp i (by simp [hi])) (hdn i (by simp [hi]))) (fun i hi hik => hW.2.2.2.2.1 i hik (hdn i (by simp [hi]))) c2) ?_
    refine ⟨fn, f2, rfl, ?_, b3, ?_, ?_⟩
    · rw [Nat.zero_add]
      by_cases c4 : k = 4
      · rw [if_pos c4] at b2 ⊢; exact b2
      · rw [if_neg c4] at b2 ⊢
        obtain ⟨a, a1, a2, a3, a4⟩ := b2
        exact ⟨a, by rw [hW.2.2.2.2.2.2.1]; exact a1, by rw [hW.2.2.2.2.2.2.2]; exact a2, a3, by rw [hst]; exact a4⟩
    · refine RV_fr2 hst hfn (frW_val hW hnp) (fun i hi hin => ⟨frW_own hW (fun z => hd i hi (by simp [z])) hin, hW.2.2.2.2.1 i (fun z => hd i hi ?_) hin⟩) hv
      have := kin1 i z
      simp [this]
    · rw [Nat.zero_add]
      refine RL_frame hst n7 (fun i hi => frW_own hW (hdp i (by simp [hi])) (hdn i (by simp [hi]))) (fun i hi _ => hW.2.2.2.2.1 i (fun z => n5 i (kin1 i z) i (by simp [hi]) rfl) (hdn i (by simp [hi]))) b5
  · refine List.nodup_cons.mpr ⟨fun z => ?_, List.nodup_append.mpr ⟨n3, List.nodup_append.mpr ⟨hfn, n7, fun i hi j hj z => ?_⟩, fun i hi j hj z => ?_⟩⟩
    · rcases List.mem_append.mp z with z | z
      · exact n1 (by simp [z])
      · rcases List.mem_append.mp z with z | z
        · exact hd p z List.mem_cons_self
        · exact n1 (by simp [z])
    · subst z
      exact hd i hi (by simp [hj])
    · subst z
      rcases List.mem_append.mp hj with hj | hj
      · exact hd i hj (by simp [hi])
      · exact n5 i hi i (by simp [hj]) rfl
  · rcases List.mem_append.mp hi with hi | hi
    · exact Or.inl (by simp [hi])
    · rcases List.mem_append.mp hi with hi | hi
      · exact Or.inr hi
      · exact Or.inl (by simp [hi])
theorem RH_rem (hnd : (p :: f).Nodup) (h : RH t S p k (l1 ++ e :: l2) (ks1 ++ q :: ks2) f) (hl : ks1.length = l1.length) (hW : frK S T p ks1) (hK : Kids T p (ks1 ++ ks2)) : ∃ f2, RH t T p k (l1 ++ shf k l1.length l2) (ks1 ++ ks2) f2 ∧ (p :: f2).Nodup ∧ ∀ i ∈ f2, i ∈ f := by
  obtain ⟨m1, m2, m3, f1, fe, f2, hks, rfl, hlen, hq, c2, b5, b2, b3, -⟩ := RH_mid hnd h
  obtain ⟨h1, h2, h3, h4, h5, h6, h7⟩ := h
  obtain ⟨rfl, hks2⟩ := List.append_inj hks (by omega)
  obtain ⟨rfl, rfl⟩ := List.cons.inj hks2
  obtain ⟨n1, n2⟩ := List.nodup_cons.mp hnd
  obtain ⟨n3, n4, n5⟩ := List.nodup_append.mp n2
  obtain ⟨n6, n7, n8⟩ := List.nodup_append.mp n4
  obtain ⟨e1, e2⟩ := encs_b.mp h5
  obtain ⟨e3, e4⟩ := encs_bc.mp e2
  have kin1 := RL_in c2
  have hst : stl T = stl S := by rw [stl, stl, hW.2.2.1 17 (by omega) (by omega) (by omega)]
  have hdp : ∀ i, i ∈ f1 ++ (fe ++ f2) → i ≠ p := fun i hi z => n1 (z ▸ hi)
  refine ⟨f1 ++ f2, ⟨h1, by rw [hW.2.2.1 18 (by omega) (by omega) (by omega)]; exact h2, h3, by rw [hW.2.1]; exact h4, encs_b.mpr ⟨e1, shf_b e4⟩, hK, ?_⟩, ?_, fun i hi => ?_⟩
  · refine RL_app (RL_frame hst n3 (fun i hi => frK_own hW (hdp i (by simp [hi]))) (fun i hi hik => hW.2.2.2.2 i hik) c2) ?_
    rw [Nat.zero_add]
    exact RL_shf (RL_frame hst n7 (fun i hi => frK_own hW (hdp i (by simp [hi]))) (fun i hi _ => hW.2.2.2.2 i (fun z => n5 i (kin1 i z) i (by simp [hi]) rfl)) b5)
  · refine List.nodup_cons.mpr ⟨fun z => ?_, List.nodup_append.mpr ⟨n3, n7, fun i hi j hj z => ?_⟩⟩
    · rcases List.mem_append.mp z with z | z
      · exact n1 (by simp [z])
      · exact n1 (by simp [z])
    · subst z
      exact n5 i hi i (by simp [hj]) rfl
  · rcases List.mem_append.mp hi with hi | hi
    · simp [hi]
    · simp [hi]
end Ed
