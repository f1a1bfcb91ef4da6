/-! the reference: texts, and its nodes -/
theorem hq_r (S : sT) {k : Nat} (hk : k < 6000) : sm_gi (hp S) 35 1 (nI k) = some (S.2.1 18 k) ∧ sm_gi (hp S) 36 1 (nI k) = some (S.2.1 19 k) ∧ sm_gi (hp S) 37 1 (nI k) = some (S.2.1 20 k) ∧ sm_gi (hp S) 39 1 (nI k) = some (S.2.1 21 k) ∧ sm_gi (hp S) 40 1 (nI k) = some (S.2.1 22 k) ∧ sm_gi (hp S) 41 1 (nI k) = some (S.2.1 23 k) ∧ sm_gi (hp S) 42 1 (nI k) = some (S.2.1 24 k) ∧ sm_gi (hp S) 43 1 (nI k) = some (S.2.1 25 k) := by
  refine ⟨?_, ?_, ?_, ?_, ?_, ?_, ?_, ?_⟩
  · rw [ha_35, nI_t (by omega), if_pos ⟨by omega, by omega⟩, nI_clamp (by omega)]
  · rw [ha_36, nI_t (by omega), if_pos ⟨by omega, by omega⟩, nI_clamp (by omega)]
  · rw [ha_37, nI_t (by omega), if_pos ⟨by omega, by omega⟩, nI_clamp (by omega)]
  · rw [ha_39, nI_t (by omega), if_pos ⟨by omega, by omega⟩, nI_clamp (by omega)]
  · rw [ha_40, nI_t (by omega), if_pos ⟨by omega, by omega⟩, nI_clamp (by omega)]
  · rw [ha_41, nI_t (by omega), if_pos ⟨by omega, by omega⟩, nI_clamp (by omega)]
  · rw [ha_42, nI_t (by omega), if_pos ⟨by omega, by omega⟩, nI_clamp (by omega)]
  · rw [ha_43, nI_t (by omega), if_pos ⟨by omega, by omega⟩, nI_clamp (by omega)]
theorem hl_r (S : sT) {k : Nat} (hk : k < 6000) : sm_gl (hp S) 38 2 (nI k) = some (S.2.2 k) := by
  rw [ha_38, nI_t (by omega), if_pos ⟨by omega, by omega⟩, nI_clamp (by omega)]
theorem hq_w (S : sT) {k : Nat} (hk : k < 6000) (x : Int32) : sm_pi (hp S) 35 (nI k) x = some (hp (sA S 18 (upd (S.2.1 18) k x))) ∧ sm_pi (hp S) 36 (nI k) x = some (hp (sA S 19 (upd (S.2.1 19) k x))) ∧ sm_pi (hp S) 37 (nI k) x = some (hp (sA S 20 (upd (S.2.1 20) k x))) ∧ sm_pi (hp S) 39 (nI k) x = some (hp (sA S 21 (upd (S.2.1 21) k x))) ∧ sm_pi (hp S) 40 (nI k) x = some (hp (sA S 22 (upd (S.2.1 22) k x))) ∧ sm_pi (hp S) 41 (nI k) x = some (hp (sA S 23 (upd (S.2.1 23) k x))) ∧ sm_pi (hp S) 42 (nI k) x = some (hp (sA S 24 (upd (S.2.1 24) k x))) ∧ sm_pi (hp S) 43 (nI k) x = some (hp (sA S 25 (upd (S.2.1 25) k x))) := by
  refine ⟨?_, ?_, ?_, ?_, ?_, ?_, ?_, ?_⟩
  · rw [hw_35, nI_t (by omega), if_pos ⟨by omega, by omega⟩, nI_clamp (by omega)]
  · rw [hw_36, nI_t (by omega), if_pos ⟨by omega, by omega⟩, nI_clamp (by omega)]
  · rw [hw_37, nI_t (by omega), if_pos ⟨by omega, by omega⟩, nI_clamp (by omega)]
  · rw [hw_39, nI_t (by omega), if_pos ⟨by omega, by omega⟩, nI_clamp (by omega)]
  · rw [hw_40, nI_t (by omega), if_pos ⟨by omega, by omega⟩, nI_clamp (by omega)]
  · rw [hw_41, nI_t (by omega), if_pos ⟨by omega, by omega⟩, nI_clamp (by omega)]
  · rw [hw_42, nI_t (by omega), if_pos ⟨by omega, by omega⟩, nI_clamp (by omega)]
  · rw [hw_43, nI_t (by omega), if_pos ⟨by omega, by omega⟩, nI_clamp (by omega)]
theorem hl_w (S : sT) {k : Nat} (hk : k < 6000) (x : Int64) : sm_pl (hp S) 38 (nI k) x = some (hp (sL S (vp_updL S.2.2 k x))) := by
  rw [hw_38, nI_t (by omega), if_pos ⟨by omega, by omega⟩, nI_clamp (by omega)]
theorem utf_f2 {l : List Nat} {e : Nat} : ∀ (f g p : Nat), e - p ≤ f → e - p ≤ g → utf l f p e = utf l g p e := by
  intro f
  induction f with
  | zero =>
    intro g p h1 h2
    have c : e ≤ p := by omega
    cases g with
    | zero => rfl
    | succ g => simp [utf, c]
  | succ f ih =>
    intro g p h1 h2
    by_cases c : e ≤ p
    · cases g with
      | zero => simp [utf, c]
      | succ g => simp [utf, c]
    · obtain ⟨w, rfl⟩ : ∃ w, g = w + 1 := ⟨g - 1, by omega⟩
      rw [utf, utf, if_neg c, if_neg c]
      by_cases c2 : chS l p e = 0
      · rw [if_pos c2, if_pos c2]
      · rw [if_neg c2, if_neg c2, ih w _ (by omega) (by omega)]
section MP
variable {S : sT} {N d : Nat} {Q : Option Value → sm_H → Prop}
theorem sM_isText {p e : Nat} (hpe : p ≤ e) (he : e ≤ 14000) (hQ : Q (some (.int (if rt (slice (stl S) p e) then 1 else 0))) (hp S)) : sm_V N (d + 3) mm_M_isText 5 33 [.int (nI p), .int (nI e)] (hp S) Q := by
  have ch4 : ∀ a, chS (stl S) a e ≤ 4 := by
    intro a
    unfold chS
    repeat' split
    all_goals omega
  rw [← rt_sl hpe (by rw [stl_len]; omega)] at hQ
  have key : ∀ (m a : Nat), e - a ≤ m → a ≤ e + 4 → Q (some (.int (if utf (stl S) (e - a) a e then 1 else 0))) (hp S) → sm_W N (d + 2 + 1) mm_M_isText 2 [(0, .ref 33), (2, .int (nI e)), (3, .int (nI a))] [] (hp S) Q := by
    intro m
    induction m with
    | zero =>
      intro a h1 h2 hq
      rw [show e - a = 0 by omega, utf, if_pos (by simp; omega)] at hq
      refine kM_isText_2 ⟨fun _ => hq, fun c => absurd ((nI_leI (by omega) (by omega)).mpr (by omega)) c⟩
    | succ m ih =>
      intro a h1 h2 hq
      by_cases c : e ≤ a
      · rw [show e - a = 0 by omega, utf, if_pos (by simpa using c)] at hq
        refine kM_isText_2 ⟨fun _ => hq, fun c2 => absurd ((nI_leI (by omega) (by omega)).mpr c) c2⟩
      · obtain ⟨g, hg⟩ : ∃ g, e - a = g + 1 := ⟨e - a - 1, by omega⟩
        rw [hg, utf, if_neg c] at hq
        have h4 := ch4 a
        refine kM_isText_2 ⟨fun c2 => absurd ((nI_leI (by omega) (by omega)).mp c2) c, fun _ => ?_⟩
        refine sM_chS (by omega) (by omega) ⟨_, rfl, fun c2 => ?_, fun c2 => ?_⟩
        · rw [nI_eql (by omega) (by omega)] at c2
          rw [if_pos c2] at hq
          exact hq
        · rw [nI_eql (by omega) (by omega)] at c2
          have c3 : ¬ chS (stl S) a e = 0 := c2
          rw [if_neg c3, utf_f2 g (e - (a + chS (stl S) a e)) _ (by omega) (by omega)] at hq
          rw [nI_add]
          exact ih _ (by omega) (by omega) hq
  exact cM_isText (hk_33 S) (key (e - p) p (by omega) (by omega) hQ)
theorem sM_isAlike {a n b m : Nat} (hs : okSt S) (ha : a + n ≤ 14100) (hb : b + m ≤ 14100) (hQ : Q (some (.int (if slice (stl S) a (a + n) = slice (stl S) b (b + m) then 1 else 0))) (hp S)) : sm_V N (d + 1) mm_M_isAlike 5 33 [.int (nI a), .int (nI n), .int (nI b), .int (nI m)] (hp S) Q := by
  have hse := slice_eq (l := stl S) (m := stl S) (a := a) (b := a + n) (c := b) (e := b + m) (by rw [stl_len]; omega) (by rw [stl_len]; omega)
  rw [Nat.add_sub_cancel_left, Nat.add_sub_cancel_left] at hse
  have w16f : ∀ (i : Nat), i < 20000 → ¬ slice (stl S) a (a + n) = slice (stl S) b (b + m) → sm_W N (d + 1) mm_M_isAlike 16 [(0, .ref 33), (1, .int (nI a)), (2, .int (nI n)), (3, .int (nI b)), (5, .int 0), (6, .int (nI i))] [] (hp S) Q := by
    intro i hi hne
    rw [if_neg hne] at hQ
    exact kM_isAlike_16 ⟨fun _ => ⟨Or.inl rfl, hQ⟩, fun _ => ⟨fun _ => ⟨Or.inl rfl, hQ⟩, fun z => absurd rfl z⟩⟩
  have key : ∀ (w i : Nat), i + w = n → n = m → (∀ k, k < i → (stl S).getD (a + k) 0 = (stl S).getD (b + k) 0) → sm_W N (d + 1) mm_M_isAlike 16 [(0, .ref 33), (1, .int (nI a)), (2, .int (nI n)), (3, .int (nI b)), (5, .int 1), (6, .int (nI i))] [] (hp S) Q := by
    intro w
    induction w with
    | zero =>
      intro i hi hnm hk
      rw [if_pos (hse.mpr ⟨hnm, fun k q => hk k (by omega)⟩)] at hQ
      exact kM_isAlike_16 ⟨fun _ => ⟨Or.inr rfl, hQ⟩, fun z => absurd ((nI_leI (by omega) (by omega)).mpr (by omega)) z⟩
    | succ w ih =>
      intro i hi hnm hk
      refine kM_isAlike_16 ⟨fun z => absurd ((nI_leI (by omega) (by omega)).mp z) (by omega), fun _ => ⟨fun z => absurd z (by decide), fun _ => ?_⟩⟩
      rw [nI_add, nI_add]
      refine ⟨_, hg_33_1 S, _, hm_r S (by omega), _, hg_33_1 S, _, hm_r S (by omega), fun z => ?_, fun z => ?_⟩
      · refine kM_isAlike_53 ?_
        unfold fM_isAlike_53
        rw [nI_1]
        refine ih (i + 1) (by omega) hnm (fun k hk2 => ?_)
        by_cases hki : k < i
        · exact hk k hki
        · have : k = i := by omega
          subst this
          rw [stl_get (by omega), stl_get (by omega), z]
      · refine kM_isAlike_53 ?_
        unfold fM_isAlike_53
        rw [nI_1]
        refine w16f _ (by omega) (fun q => ?_)
        have := (hse.mp q).2 i (by omega)
        rw [stl_get (by omega), stl_get (by omega), ← ub_inj (hs _) (hs _)] at this
        exact z this
  refine cM_isAlike (hk_33 S) ⟨fun z => kM_isAlike_11 ?_, fun z => kM_isAlike_11 ?_⟩
  · rw [nI_eq (by omega) (by omega)] at z
    exact key n 0 (by omega) z (fun k hk => absurd hk (by omega))
  · rw [nI_eq (by omega) (by omega)] at z
    exact w16f 0 (by omega) (fun q => z (hse.mp q).1)
theorem sM_isKind {k : Nat} (hk : k < 256) (hQ : Q (some (.int (if k = 2 ∨ k = 3 ∨ k = 4 ∨ k = 8 ∨ k = 10 ∨ k = 16 ∨ k = 18 then 1 else 0))) (hp S)) : sm_T N (d + 1) mm_M_isKind [.int (nI k)] (hp S) Q := by
  have yes : (k = 2 ∨ k = 3 ∨ k = 4 ∨ k = 8 ∨ k = 10 ∨ k = 16 ∨ k = 18) → sm_W N (d + 1) mm_M_isKind 39 [] [] (hp S) Q := by
    intro h
    rw [if_pos h] at hQ
    exact kM_isKind_39 hQ
  refine cM_isKind ?_
  unfold fM_isKind_0
  simp (disch := omega) only [nI_eql]
  refine ⟨fun c => yes (by omega), fun c2 => ⟨fun c => yes (by omega), fun c3 => ⟨fun c => yes (by omega), fun c4 => ⟨fun c => yes (by omega), fun c8 => ⟨fun c => yes (by omega), fun c10 => ⟨fun c => yes (by omega), fun c16 => ⟨fun c => yes (by omega), fun c18 => ?_⟩⟩⟩⟩⟩⟩⟩
  rw [if_neg (by omega)] at hQ
  exact hQ
end MP
