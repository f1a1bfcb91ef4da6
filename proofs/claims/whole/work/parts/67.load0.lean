/-! the reference's load: one element's node -/
def frL (S S2 : sT) : Prop := (∀ k, k ≠ 19 → S2.1 k = S.1 k) ∧ ∀ k, (k < 18 ∨ 28 < k) → S2.2.1 k = S.2.1 k
theorem frL_rf (S : sT) : frL S S := ⟨fun _ _ => rfl, fun _ _ => rfl⟩
theorem frL_tr {S S1 S2 : sT} (h1 : frL S S1) (h2 : frL S1 S2) : frL S S2 := ⟨fun k a => (h2.1 k a).trans (h1.1 k a), fun k a => (h2.2 k a).trans (h1.2 k a)⟩
theorem frL_st {S S2 : sT} (h : frL S S2) : stl S2 = stl S := by rw [stl, stl, h.2 17 (by omega)]
theorem frL_ok {S S2 : sT} (h : frL S S2) (hs : okSt S) : okSt S2 := by
  intro i
  rw [h.2 17 (by omega)]
  exact hs i
theorem sOwn_rf (S : sT) (i : Nat) : sOwn S S i := ⟨rfl, rfl, rfl, rfl, rfl, rfl, rfl, rfl⟩
theorem sOwn_tr {S S1 S2 : sT} {i : Nat} (h1 : sOwn S S1 i) (h2 : sOwn S1 S2 i) : sOwn S S2 i := by
  obtain ⟨a1, a2, a3, a4, a5, a6, a7, a8⟩ := h1
  obtain ⟨b1, b2, b3, b4, b5, b6, b7, b8⟩ := h2
  exact ⟨b1.trans a1, b2.trans a2, b3.trans a3, b4.trans a4, b5.trans a5, b6.trans a6, b7.trans a7, b8.trans a8⟩
/-- a new node n of kind b with its name, behind the children ks of H -/
def nwS (S : sT) (n : Nat) (b a c : Int32) (H : Nat) (ks : List Nat) : sT := apS (sA (sA (mkN S n b) 19 (upd ((mkN S n b).2.1 19) n a)) 20 (upd ((sA (mkN S n b) 19 (upd ((mkN S n b).2.1 19) n a)).2.1 20) n c)) H n ks
theorem apS_i (S : sT) (p n : Nat) (ks : List Nat) : (apS S p n ks).1 = S.1 := by unfold apS; split <;> rfl
theorem apS_L (S : sT) (p n : Nat) (ks : List Nat) : (apS S p n ks).2.2 = S.2.2 := by unfold apS; split <;> rfl
theorem apS_o (S : sT) (p n : Nat) (ks : List Nat) {k : Nat} (h1 : k ≠ 23) (h2 : k ≠ 24) (h3 : k ≠ 25) : (apS S p n ks).2.1 k = S.2.1 k := by
  unfold apS
  split <;> simp [sA, va_up, h1, h2, h3]
theorem apS_25 (S : sT) (p n : Nat) (ks : List Nat) : (apS S p n ks).2.1 25 = upd (S.2.1 25) p (nI n) := by
  unfold apS
  split <;> simp [sA, va_up]
theorem apS_23 (S : sT) (p n : Nat) (ks : List Nat) {i : Nat} (h : i ≠ p) : (apS S p n ks).2.1 23 i = S.2.1 23 i := by
  unfold apS
  split <;> simp [sA, va_up, upd, h]
theorem apS_24 (S : sT) (p n : Nat) (ks : List Nat) {i : Nat} (h : i ≠ n) (hk : i ∉ ks) : (apS S p n ks).2.1 24 i = S.2.1 24 i := by
  unfold apS
  split
  · simp [sA, va_up, upd, h]
  · rename_i l hl
    have : i ≠ l := fun z => hk (z ▸ List.mem_of_getLast? hl)
    simp [sA, va_up, upd, h, this]
theorem apS_24n (S : sT) (p n : Nat) (ks : List Nat) (hk : n ∉ ks) : (apS S p n ks).2.1 24 n = -1 := by
  unfold apS
  split
  · simp [sA, va_up, upd]
  · rename_i l hl
    have : n ≠ l := fun z => hk (z ▸ List.mem_of_getLast? hl)
    simp [sA, va_up, upd, this]
theorem apS_kids {S : sT} {p n : Nat} {ks : List Nat} (hn : n < 6000) (hnd : ks.Nodup) (hk : Kids S p ks) (hnk : n ∉ ks) : Kids (apS S p n ks) p (ks ++ [n]) := by
  have hl : (apS S p n ks).2.1 25 p = lastP (ks ++ [n]) := by
    rw [apS_25, pk_us, lastP]
    simp
  refine ⟨?_, hl⟩
  have h24 := apS_24n S p n ks hnk
  cases hg : ks.getLast? with
  | none =>
    have : ks = [] := List.getLast?_eq_none_iff.mp hg
    subst this
    have h23 : (apS S p n []).2.1 23 p = nI n := by simp [apS, sA, va_up, upd]
    exact ⟨h23, hn, h24⟩
  | some l =>
    have h23 : (apS S p n ks).2.1 23 p = S.2.1 23 p := by
      unfold apS
      rw [hg]
      simp [sA, va_up]
    rw [h23]
    refine Ch_snoc hn h24 hnd hg (fun k hk2 hne => ?_) ?_ hk.1
    · unfold apS
      rw [hg]
      have : k ≠ n := fun z => hnk (z ▸ hk2)
      simp [sA, va_up, upd, hne, this]
    · unfold apS
      rw [hg]
      simp [sA, va_up, upd]
section NW
variable {S : sT} {n H : Nat} {b a c : Int32} {ks : List Nat}
theorem nw_fr : frL S (nwS S n b a c H ks) := by
  refine ⟨fun k hk => ?_, fun k hk => ?_⟩
  · rw [nwS, apS_i]
    exact mkN_i S n b hk
  · rw [nwS, apS_o _ _ _ _ (by omega) (by omega) (by omega)]
    have h1 : k ≠ 20 := by omega
    have h2 : k ≠ 19 := by omega
    simp only [sA, va_up, if_neg h1, if_neg h2]
    exact mkN_o S n b (by omega)
theorem nw_sc {k : Nat} (hk : 25 < k) : (nwS S n b a c H ks).2.1 k = S.2.1 k := by
  rw [nwS, apS_o _ _ _ _ (by omega) (by omega) (by omega)]
  have h1 : k ≠ 20 := by omega
  have h2 : k ≠ 19 := by omega
  simp only [sA, va_up, if_neg h1, if_neg h2]
  exact mkN_o S n b (by omega)
theorem nw_19 : (nwS S n b a c H ks).1 19 = nI (n + 1) := by
  rw [nwS, apS_i]
  exact mkN_19 S n b
theorem nw_18 : (nwS S n b a c H ks).2.1 18 = upd (S.2.1 18) n b := by
  rw [nwS, apS_o _ _ _ _ (by omega) (by omega) (by omega)]
  exact mkN_18 S n b
theorem nw_19a : (nwS S n b a c H ks).2.1 19 = upd (upd (S.2.1 19) n 0) n a := by
  rw [nwS, apS_o _ _ _ _ (by omega) (by omega) (by omega)]
  show upd ((mkN S n b).2.1 19) n a = _
  rw [mkN_19a]
theorem nw_20 : (nwS S n b a c H ks).2.1 20 = upd (upd (S.2.1 20) n 0) n c := by
  rw [nwS, apS_o _ _ _ _ (by omega) (by omega) (by omega)]
  show upd ((mkN S n b).2.1 20) n c = _
  rw [mkN_20]
theorem nw_21 : (nwS S n b a c H ks).2.1 21 = upd (S.2.1 21) n 0 := by
  rw [nwS, apS_o _ _ _ _ (by omega) (by omega) (by omega)]
  exact mkN_21 S n b
theorem nw_22 : (nwS S n b a c H ks).2.1 22 = upd (S.2.1 22) n 0 := by
  rw [nwS, apS_o _ _ _ _ (by omega) (by omega) (by omega)]
  exact mkN_22 S n b
theorem nw_L : (nwS S n b a c H ks).2.2 = vp_updL S.2.2 n 0 := by
  rw [nwS, apS_L]
  exact mkN_L S n b
theorem nw_25 : (nwS S n b a c H ks).2.1 25 = upd (upd (S.2.1 25) n (-1)) H (nI n) := by
  rw [nwS, apS_25]
  show upd ((mkN S n b).2.1 25) H (nI n) = _
  rw [mkN_25]
theorem nw_23 {i : Nat} (hi : i ≠ H) : (nwS S n b a c H ks).2.1 23 i = upd (S.2.1 23) n (-1) i := by
  rw [nwS, apS_23 _ _ _ _ hi]
  show (mkN S n b).2.1 23 i = _
  rw [mkN_23]
theorem nw_24 {i : Nat} (hi : i ≠ n) (hk : i ∉ ks) : (nwS S n b a c H ks).2.1 24 i = S.2.1 24 i := by
  rw [nwS, apS_24 _ _ _ _ hi hk]
  show (mkN S n b).2.1 24 i = _
  rw [mkN_24, pk_un hi]
theorem nw_own {i : Nat} (hi : i ≠ n) (hH : i ≠ H) : sOwn S (nwS S n b a c H ks) i := by
  refine ⟨?_, ?_, ?_, ?_, ?_, ?_, ?_, ?_⟩
  · rw [nw_18, pk_un hi]
  · rw [nw_L, pk_uLn hi]
  · rw [nw_21, pk_un hi]
  · rw [nw_22, pk_un hi]
  · rw [nw_23 hH, pk_un hi]
  · rw [nw_25, pk_un hH, pk_un hi]
  · rw [nw_19a, pk_un hi, pk_un hi]
  · rw [nw_20, pk_un hi, pk_un hi]
theorem nw_kids (hn : n < 6000) (hnd : ks.Nodup) (hk : Kids S H ks) (hnk : n ∉ ks) (hnH : n ≠ H) : Kids (nwS S n b a c H ks) H (ks ++ [n]) := by
  rw [nwS]
  refine apS_kids hn hnd ⟨?_, ?_⟩ hnk
  · show Ch _ ((mkN S n b).2.1 23 H) ks
    rw [mkN_23, pk_un (Ne.symm hnH)]
    refine Ch_frame (fun q hq => ?_) hk.1
    show (mkN S n b).2.1 24 q = _
    rw [mkN_24, pk_un (show q ≠ n from fun z => hnk (z ▸ hq))]
  · show (mkN S n b).2.1 25 H = _
    rw [mkN_25, pk_un (Ne.symm hnH)]
    exact hk.2
end NW
theorem ANm_len {S : sT} : ∀ {ks : List Nat} {nms : List (List Nat)}, ANm S ks nms → ks.length = nms.length := by
  intro ks
  induction ks with
  | nil => intro nms h; cases nms with
    | nil => rfl
    | cons a b => exact absurd h (by simp [ANm])
  | cons k ks ih => intro nms h; cases nms with
    | nil => exact absurd h (by simp [ANm])
    | cons a b => simp [ih h.2]
theorem ANm_snoc {S S2 : sT} {n : Nat} {nm : List Nat} (hs : stl S2 = stl S) : ∀ {ks : List Nat} {nms : List (List Nat)}, (∀ k ∈ ks, sOwn S S2 k) → ANm S ks nms → NmN S2 n nm → ANm S2 (ks ++ [n]) (nms ++ [nm]) := by
  intro ks
  induction ks with
  | nil => intro nms _ h h2; cases nms with
    | nil => exact ⟨h2, trivial⟩
    | cons a b => exact absurd h (by simp [ANm])
  | cons k ks ih => intro nms ho h h2; cases nms with
    | nil => exact absurd h (by simp [ANm])
    | cons a b => exact ⟨NmN_frame (ho k List.mem_cons_self) hs h.1, ih (fun q hq => ho q (List.mem_cons_of_mem _ hq)) h.2 h2⟩
theorem ANm_frame {S S2 : sT} (hs : stl S2 = stl S) : ∀ {ks : List Nat} {nms : List (List Nat)}, (∀ k ∈ ks, sOwn S S2 k) → ANm S ks nms → ANm S2 ks nms := by
  intro ks
  induction ks with
  | nil => intro nms _ h; cases nms with
    | nil => trivial
    | cons a b => exact absurd h (by simp [ANm])
  | cons k ks ih => intro nms ho h; cases nms with
    | nil => exact absurd h (by simp [ANm])
    | cons a b => exact ⟨NmN_frame (ho k List.mem_cons_self) hs h.1, ih (fun q hq => ho q (List.mem_cons_of_mem _ hq)) h.2⟩
theorem fnd_ge {S : sT} {t : List Nat} : ∀ {ks : List Nat} {nms : List (List Nat)} {acc : Int32}, (∀ k ∈ ks, k < 6000) → ANm S ks nms → (0 ≤ fnd t ks nms acc ↔ 0 ≤ acc ∨ t ∈ nms) := by
  intro ks
  induction ks with
  | nil => intro nms acc _ h; cases nms with
    | nil => simp [fnd]
    | cons a b => exact absurd h (by simp [ANm])
  | cons k ks ih => intro nms acc hk h; cases nms with
    | nil => exact absurd h (by simp [ANm])
    | cons a b =>
      have e : fnd t (k :: ks) (a :: b) acc = fnd t ks b (if a = t then nI k else acc) := rfl
      have hk6 := hk k List.mem_cons_self
      rw [e, ih (fun q hq => hk q (List.mem_cons_of_mem _ hq)) h.2]
      by_cases c : a = t
      · rw [if_pos c]
        have : (0 : Int32) ≤ nI k := nI_pos' (by omega)
        simp [this, c]
      · rw [if_neg c]
        simp only [List.mem_cons]
        constructor
        · rintro (z | z)
          · exact Or.inl z
          · exact Or.inr (Or.inr z)
        · rintro (z | z | z)
          · exact Or.inl z
          · exact absurd z.symm c
          · exact Or.inr z
