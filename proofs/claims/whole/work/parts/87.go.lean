/-! the reference: item, meets, mayGo -/
/-- the n-th of some nodes, -1 where there is none -/
def ptI : List Nat → Nat → Int32
  | [], _ => -1
  | k :: _, 0 => nI k
  | _ :: ks, n + 1 => ptI ks n
theorem hst_r (S : sT) {k : Nat} (hk : k < 8) : sm_gi (hp S) 49 1 (nI k) = some (S.2.1 31 k) ∧ sm_gi (hp S) 50 1 (nI k) = some (S.2.1 32 k) := by
  refine ⟨?_, ?_⟩
  · rw [ha_49, nI_t (by omega), if_pos ⟨by omega, by omega⟩, nI_clamp (by omega)]
  · rw [ha_50, nI_t (by omega), if_pos ⟨by omega, by omega⟩, nI_clamp (by omega)]
/-- step number i of the path that was split -/
def StA (S : sT) (i : Nat) (w : List Nat) : Prop := ∃ a, S.2.1 31 i = nI a ∧ S.2.1 32 i = nI w.length ∧ a + w.length ≤ 14100 ∧ slice (stl S) a (a + w.length) = w
theorem numA_lt {m : List Nat} {v : Nat} (h : numA m = some v) : v ≤ 100000009 := by
  unfold numA at h
  split at h
  · cases h
  · rename_i w hw
    split at h
    · cases h
    · cases h; exact numF_lt _ _ _ (by omega) hw
section Go
variable {S : sT} {N d : Nat} {Q : Option Value → sm_H → Prop}
theorem sM_item {p n : Nat} {ks : List Nat} (hp1 : p < 6000) (hch : Ch S (S.2.1 23 p) ks) (hn : n < 1000000000) (hQ : Q (some (.int (ptI ks n))) (hp S)) : sm_V N (d + 1) mm_M_item 5 33 [.int (nI p), .int (nI n)] (hp S) Q := by
  refine cM_item (hk_33 S) ⟨_, hg_33_13 S, _, (hq_r S hp1).2.2.2.2.2.1, ?_⟩
  have key : ∀ (m i : Nat) (rs : List Nat) (x : Int32), i + m = n → Ch S x rs → ptI rs m = ptI ks n → sm_W N (d + 1) mm_M_item 10 [(0, .ref 33), (2, .int (nI n)), (3, .int x), (4, .int (nI i))] [] (hp S) Q := by
    intro m
    induction m with
    | zero =>
      intro i rs x hi hc hpt
      have : i = n := by omega
      subst this
      refine kM_item_10 ⟨fun _ => ?_, fun c => absurd ((nI_leI (by omega) (by omega)).mpr (Nat.le_refl _)) c⟩
      have : ptI rs 0 = x := by
        cases rs with
        | nil => exact Eq.symm hc
        | cons k rs => exact hc.1.symm
      rw [← hpt, this] at hQ
      exact hQ
    | succ m ih =>
      intro i rs x hi hc hpt
      refine kM_item_10 ⟨fun c => absurd ((nI_leI (by omega) (by omega)).mp c) (by omega), fun _ => ⟨fun c => ?_, fun c => ?_⟩⟩
      · cases rs with
        | nil =>
          have hx : x = -1 := hc
          rw [← hpt] at hQ
          rw [hx]
          exact hQ
        | cons k rs =>
          obtain ⟨rfl, hk, -⟩ := hc
          exact absurd c (by rw [ti_lt, nI_t (by omega)]; have : (0 : Int32).toInt = 0 := rfl; omega)
      · cases rs with
        | nil =>
          have hx : x = -1 := hc
          subst hx
          exact absurd (by decide) c
        | cons k rs =>
          obtain ⟨rfl, hk, hc2⟩ := hc
          refine ⟨_, hg_33_14 S, _, (hq_r S hk).2.2.2.2.2.2.1, ?_⟩
          rw [nI_1]
          exact ih (i + 1) rs _ (by omega) hc2 hpt
  exact key n 0 ks _ (by omega) hch rfl
theorem sM_mayGo {p s k : Nat} {ks w : List Nat} (hp1 : p < 6000) (hs8 : s < 8) (hk : S.2.1 18 p = nI k) (hk2 : k < 256) (hw : StA S s w) (hch : k = 4 → Ch S (S.2.1 23 p) ks) (hl : ks.length < 100000)
    (hQ : Q (some (.int (if k = 4 then (match numA w with | some v => if v ≤ ks.length then 1 else 0 | none => 0) else if k = 3 then 1 else 0))) (hp S)) : sm_V N (d + 3) mm_M_mayGo 5 33 [.int (nI p), .int (nI s)] (hp S) Q := by
  obtain ⟨a, h31, h32, hal, hsl⟩ := hw
  refine cM_mayGo (hk_33 S) ⟨_, hg_33_7 S, _, (hq_r S hp1).1, ?_⟩
  rw [hk]
  refine ⟨fun c => ?_, fun c => ⟨_, hg_33_7 S, _, (hq_r S hp1).1, ?_⟩⟩
  · rw [nI_eql (by omega) (by omega)] at c
    have c4 : k = 4 := c
    rw [if_pos c4] at hQ
    refine ⟨_, hg_33_25 S, _, (hst_r S hs8).1, _, hg_33_26 S, _, (hst_r S hs8).2, ?_⟩
    rw [h31, h32]
    refine sM_numberAt hal ⟨_, rfl, fun c2 => ?_, fun c2 => ?_⟩
    · rw [hsl] at c2
      cases hv : numA w with
      | none => rw [hv] at hQ; exact hQ
      | some v =>
        rw [hv] at c2
        have := numA_lt hv
        exact absurd (show nI v < 0 from c2) (by rw [ti_lt, nI_t (by omega)]; have : (0 : Int32).toInt = 0 := rfl; omega)
    · rw [hsl] at c2 ⊢
      cases hv : numA w with
      | none => rw [hv] at c2; exact absurd (by decide) c2
      | some v =>
        rw [hv] at hQ
        have hv9 := numA_lt hv
        refine sM_countOf (d := d + 1) hp1 (hch c4) hl ⟨_, rfl, fun c3 => ?_, fun c3 => ?_⟩
        · have c5 : nI ks.length < nI v := c3
          rw [nI_ltI (by omega) (by omega)] at c5
          have hQ2 : Q (some (.int (if v ≤ ks.length then 1 else 0))) (hp S) := hQ
          rw [if_neg (by omega)] at hQ2
          exact hQ2
        · have c5 : ¬ nI ks.length < nI v := c3
          rw [nI_ltI (by omega) (by omega)] at c5
          have hQ2 : Q (some (.int (if v ≤ ks.length then 1 else 0))) (hp S) := hQ
          rw [if_pos (by omega)] at hQ2
          exact hQ2
  · rw [nI_eql (by omega) (by omega)] at c
    have c4 : ¬ k = 4 := c
    rw [if_neg c4] at hQ
    rw [hk]
    refine ⟨fun c2 => ?_, fun c2 => ?_⟩
    · rw [nI_eql (by omega) (by omega)] at c2
      rw [if_pos (show k = 3 from c2)] at hQ
      exact hQ
    · rw [nI_eql (by omega) (by omega)] at c2
      rw [if_neg (show ¬ k = 3 from c2)] at hQ
      exact hQ
theorem sM_meets {p s k : Nat} {ks w : List Nat} {nms : List (List Nat)} (hs : okSt S) (hp1 : p < 6000) (hs8 : s < 8) (hk : S.2.1 18 p = nI k) (hk2 : k < 256) (hw : StA S s w) (hch : (k = 3 ∨ k = 4) → Ch S (S.2.1 23 p) ks) (hA : k = 3 → ANm S ks nms)
    (hQ : Q (some (.int (if k = 3 then fnd w ks nms (-1) else if k = 4 then (match numA w with | some v => ptI ks v | none => -1) else -1))) (hp S)) : sm_V N (d + 3) mm_M_meets 5 33 [.int (nI p), .int (nI s)] (hp S) Q := by
  obtain ⟨a, h31, h32, hal, hsl⟩ := hw
  refine cM_meets (hk_33 S) ⟨_, hg_33_7 S, _, (hq_r S hp1).1, ?_⟩
  rw [hk]
  refine ⟨fun c => ?_, fun c => ⟨_, hg_33_7 S, _, (hq_r S hp1).1, ?_⟩⟩
  · rw [nI_eql (by omega) (by omega)] at c
    have c3 : k = 3 := c
    rw [if_pos c3] at hQ
    refine ⟨_, hg_33_25 S, _, (hst_r S hs8).1, _, hg_33_26 S, _, (hst_r S hs8).2, ?_⟩
    rw [h31, h32]
    refine sM_named hs hp1 (hch (Or.inl c3)) (hA c3) hal ⟨_, rfl, ?_⟩
    rw [hsl]
    exact hQ
  · rw [nI_eql (by omega) (by omega)] at c
    have c3 : ¬ k = 3 := c
    rw [if_neg c3] at hQ
    rw [hk]
    refine ⟨fun c2 => ?_, fun c2 => ?_⟩
    · rw [nI_eql (by omega) (by omega)] at c2
      have c4 : k = 4 := c2
      rw [if_pos c4] at hQ
      refine ⟨_, hg_33_25 S, _, (hst_r S hs8).1, _, hg_33_26 S, _, (hst_r S hs8).2, ?_⟩
      rw [h31, h32]
      refine sM_numberAt hal ⟨_, rfl, ?_⟩
      rw [hsl]
      cases hv : numA w with
      | none =>
        rw [hv] at hQ
        exact kM_meets_58 ⟨fun z => absurd z (by decide), fun _ => hQ⟩
      | some v =>
        rw [hv] at hQ
        have hv9 := numA_lt hv
        exact kM_meets_58 ⟨fun _ => sM_item (d := d + 1) hp1 (hch (Or.inr c4)) (by omega) ⟨_, rfl, hQ⟩, fun z => absurd (nI_pos' (by omega)) z⟩
    · rw [nI_eql (by omega) (by omega)] at c2
      have c4 : ¬ k = 4 := c2
      rw [if_neg c4] at hQ
      exact kM_meets_58 ⟨fun z => absurd z (by decide), fun _ => hQ⟩
end Go
