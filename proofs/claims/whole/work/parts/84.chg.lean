/-! the reference: isChanged -/
def okF (S : sT) : Prop := ∃ m : Nat, m ≤ 16000 ∧ S.1 22 = nI m ∧ ∀ i, sB (S.2.1 30 i)
def bfl (S : sT) : List Nat := bytesOf (S.2.1 30) 0 (S.1 22).toInt.toNat
def eqF (l : List Nat) (S T : sT) : Prop := (∃ g x, T = sI (sA S 30 g) 22 x) ∧ okF T ∧ bfl T = l
theorem bfl_eq {S : sT} {n : Nat} (hn : n ≤ 16000) (h : S.1 22 = nI n) : bfl S = bytesOf (S.2.1 30) 0 n := by
  rw [bfl, h, nI_t (by omega)]
  rfl
theorem bytesOf_cg {f g : Nat → Int32} {n : Nat} (h : ∀ j, j < n → ub (f j) = ub (g j)) : bytesOf f 0 n = bytesOf g 0 n := by
  unfold bytesOf
  refine List.map_congr_left (fun i hi => ?_)
  have := List.mem_range.mp hi
  rw [Nat.zero_add]
  exact h i this
theorem bytesOf_at {f g : Nat → Int32} {n j : Nat} (h : bytesOf f 0 n = bytesOf g 0 n) (hj : j < n) : ub (f j) = ub (g j) := by
  have h1 := bytesOf_get f 0 hj
  have h2 := bytesOf_get g 0 hj
  rw [h] at h1
  rw [Nat.zero_add] at h1 h2
  exact h1.symm.trans h2
section Chg
variable {N d : Nat} {Q : Option Value → sm_H → Prop}
theorem sM_isChanged {S : sT} (hw : okO S) (hf : okF S) (hQ : ∀ T, eqF (ol S) S T → Q (some (.int (if ol S = bfl S then 0 else 1))) (hp T)) : sm_V N (d + 1) mm_M_isChanged 5 33 [] (hp S) Q := by
  obtain ⟨n, hn, h20, hsb⟩ := hw
  obtain ⟨m, hm, h22, hsf⟩ := hf
  have e1 := ol_eq hn h20
  have e2 := bfl_eq hm h22
  have w58 : ∀ x : Int32, x = (if ol S = bfl S then 0 else 1) → sm_W N (d + 1) mm_M_isChanged 58 [(0, .ref 33), (1, .int x)] [] (hp S) Q := by
    intro x hx
    refine kM_isChanged_58 ⟨_, hg_33_19 S, _, hu_33_22 S _, ?_⟩
    rw [h20]
    have key : ∀ (k i : Nat) (g : Nat → Int32), i + k = n → (∀ j, sB (g j)) → (∀ j, j < i → ub (g j) = ub (S.2.1 29 j)) → sm_W N (d + 1) mm_M_isChanged 68 [(0, .ref 33), (1, .int x), (2, .int (nI i))] [] (hp (sI (sA S 30 g) 22 (nI n))) Q := by
      intro k
      induction k with
      | zero =>
        intro i g hi hg hgj
        have : i = n := by omega
        subst this
        have s20 : (sI (sA S 30 g) 22 (nI i)).1 20 = nI i := by simp [sI, sA, va_up, h20]
        refine kM_isChanged_68 ⟨_, hg_33_19 _, fun _ => ⟨?_, ?_⟩, fun c => absurd ?_ c⟩
        · rw [hx]
          split
          · exact Or.inl rfl
          · exact Or.inr rfl
        · rw [hx]
          refine hQ _ ⟨⟨g, nI i, rfl⟩, ?_, ?_⟩
          · exact ⟨i, hn, by simp [sI, va_up], fun j => by simp only [sI, sA, va_up, if_pos]; exact hg j⟩
          · rw [bfl_eq hn (by simp [sI, va_up]), e1]
            refine bytesOf_cg (fun j hj => ?_)
            simp only [sI, sA, va_up, if_pos]
            exact hgj j hj
        · rw [s20]
          exact (nI_leI (by omega) (by omega)).mpr (Nat.le_refl _)
      | succ k ih =>
        intro i g hi hg hgj
        have s20 : (sI (sA S 30 g) 22 (nI n)).1 20 = nI n := by simp [sI, sA, va_up, h20]
        have s29 : (sI (sA S 30 g) 22 (nI n)).2.1 29 = S.2.1 29 := by simp [sI, sA, va_up]
        refine kM_isChanged_68 ⟨_, hg_33_19 _, fun c => ?_, fun _ => ⟨_, hg_33_23 _, _, hg_33_21 _, S.2.1 29 i, ?_, hp (sI (sA S 30 (upd g i (S.2.1 29 i).toInt8.toInt32)) 22 (nI n)), ?_, ?_⟩⟩
        · rw [s20, nI_leI (by omega) (by omega)] at c
          omega
        · rw [ha_47, nI_t (by omega), if_pos ⟨by omega, by omega⟩, nI_clamp (by omega), s29]
        · rw [hw_48, nI_t (by omega), if_pos ⟨by omega, by omega⟩, nI_clamp (by omega), nar_b]
          have : sA (sI (sA S 30 g) 22 (nI n)) 30 (upd ((sI (sA S 30 g) 22 (nI n)).2.1 30) i (S.2.1 29 i).toInt8.toInt32) = sI (sA S 30 (upd g i (S.2.1 29 i).toInt8.toInt32)) 22 (nI n) := by
            simp [sI, sA, up_up]
            simp [va_up]
          rw [this]
        · rw [nI_1]
          refine ih (i + 1) _ (by omega) (fun j => ?_) (fun j hj => ?_)
          · unfold upd
            split
            · exact pk_fb _
            · exact hg j
          · by_cases h : j = i
            · subst h
              rw [pk_us, ub_b]
            · rw [pk_un h]
              exact hgj j (by omega)
    have h0 := key n 0 (S.2.1 30) (by omega) hsf (fun j hj => absurd hj (by omega))
    have : sI (sA S 30 (S.2.1 30)) 22 (nI n) = sI S 22 (nI n) := by simp [sI, sA, up_id]
    rw [this] at h0
    exact h0
  have w19 : ∀ i : Nat, i ≤ n → ¬ ol S = bfl S → sm_W N (d + 1) mm_M_isChanged 19 [(0, .ref 33), (1, .int 1), (2, .int (nI i))] [] (hp S) Q := by
    intro i hi hne
    have := w58 1 (by rw [if_neg hne])
    exact kM_isChanged_19 ⟨_, hg_33_19 S, fun _ => this, fun _ => ⟨fun c => absurd c (by decide), fun _ => this⟩⟩
  refine cM_isChanged (hk_33 S) ⟨_, hg_33_19 S, _, hg_33_22 S, fun c => ?_, fun c => ?_⟩
  · rw [h20, h22, nI_eq (by omega) (by omega)] at c
    subst c
    refine kM_isChanged_16 ?_
    have key : ∀ (k i : Nat), i + k = n → (∀ j, j < i → ub (S.2.1 29 j) = ub (S.2.1 30 j)) → sm_W N (d + 1) mm_M_isChanged 19 [(0, .ref 33), (1, .int 0), (2, .int (nI i))] [] (hp S) Q := by
      intro k
      induction k with
      | zero =>
        intro i hi hj
        have : i = n := by omega
        subst this
        have heq : ol S = bfl S := by rw [e1, e2]; exact bytesOf_cg hj
        refine kM_isChanged_19 ⟨_, hg_33_19 S, fun _ => w58 0 (by rw [if_pos heq]), fun c => absurd ?_ c⟩
        rw [h20]
        exact (nI_leI (by omega) (by omega)).mpr (Nat.le_refl _)
      | succ k ih =>
        intro i hi hj
        refine kM_isChanged_19 ⟨_, hg_33_19 S, fun c => ?_, fun _ => ⟨fun _ => ⟨_, hg_33_21 S, S.2.1 29 i, ?_, _, hg_33_23 S, S.2.1 30 i, ?_, fun c => kM_isChanged_51 ?_, fun c => kM_isChanged_51 ?_⟩, fun c => absurd rfl c⟩⟩
        · rw [h20, nI_leI (by omega) (by omega)] at c
          omega
        · rw [ha_47, nI_t (by omega), if_pos ⟨by omega, by omega⟩, nI_clamp (by omega)]
        · rw [ha_48, nI_t (by omega), if_pos ⟨by omega, by omega⟩, nI_clamp (by omega)]
        · rw [fM_isChanged_51, nI_1]
          refine ih (i + 1) (by omega) (fun j hj2 => ?_)
          by_cases h : j = i
          · subst h; rw [c]
          · exact hj j (by omega)
        · rw [fM_isChanged_51, nI_1]
          refine w19 (i + 1) (by omega) (fun h => c ?_)
          rw [e1, e2] at h
          exact (ub_inj (hsb i) (hsf i)).mpr (bytesOf_at h (by omega))
    exact key n 0 (by omega) (fun j hj => absurd hj (by omega))
  · rw [h20, h22, nI_eq (by omega) (by omega)] at c
    refine kM_isChanged_16 (w19 0 (by omega) (fun h => c ?_))
    rw [e1, e2] at h
    have := congrArg List.length h
    rw [bytesOf_len, bytesOf_len] at this
    exact this
end Chg
