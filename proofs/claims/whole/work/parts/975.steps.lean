/-! the steps of a path are right texts -/
theorem isC_ge {c : Nat} (h : isC c = true) : 128 ≤ c := by
  have : 128 ≤ c ∧ c < 192 := by simpa [isC] using h
  exact this.1
theorem chS_cut {l : List Nat} {p m e : Nat} (hp1 : p < m) (hm : m < e) (h0 : l.getD m 0 < 128) (hc : chS l p e ≠ 0) : p + chS l p e ≤ m ∧ chS l p m = chS l p e := by
  have h1 : ∀ j, p + j = m → isC (l.getD (p + j) 0) = true → False := fun j hj h => by
    have := isC_ge h
    rw [hj] at this
    omega
  unfold chS at hc ⊢
  by_cases c1 : l.getD p 0 < 128
  · rw [if_pos c1, if_pos c1]
    exact ⟨by omega, rfl⟩
  · rw [if_neg c1] at hc
    rw [if_neg c1, if_neg c1]
    by_cases c2 : l.getD p 0 < 192
    · rw [if_pos c2] at hc
      exact absurd rfl hc
    · rw [if_neg c2] at hc
      rw [if_neg c2, if_neg c2]
      by_cases c3 : l.getD p 0 < 224
      · rw [if_pos c3] at hc
        rw [if_pos c3, if_pos c3]
        split at hc
        · rename_i y1
          split at hc
          · rename_i y2
            split at hc
            · rename_i y3
              have hm2 : p + 2 ≤ m := by
                by_cases y : p + 1 = m
                · exact absurd (h1 1 y y2) id
                · omega
              rw [if_pos hm2, if_pos y1, if_pos y2, if_pos y3]
              exact ⟨hm2, rfl⟩
            · exact absurd rfl hc
          · exact absurd rfl hc
        · exact absurd rfl hc
      · rw [if_neg c3] at hc
        rw [if_neg c3, if_neg c3]
        by_cases c4 : l.getD p 0 < 240
        · rw [if_pos c4] at hc
          rw [if_pos c4, if_pos c4]
          split at hc
          · rename_i y1
            split at hc
            · rename_i y2
              split at hc
              · rename_i y3
                split at hc
                · rename_i y4
                  have hm2 : p + 3 ≤ m := by
                    by_cases y : p + 1 = m
                    · exact absurd (h1 1 y y2) id
                    · by_cases y5 : p + 2 = m
                      · exact absurd (h1 2 y5 y3) id
                      · omega
                  rw [if_pos hm2, if_pos y1, if_pos y2, if_pos y3, if_pos y4]
                  exact ⟨hm2, rfl⟩
                · exact absurd rfl hc
              · exact absurd rfl hc
            · exact absurd rfl hc
          · exact absurd rfl hc
        · rw [if_neg c4] at hc
          rw [if_neg c4, if_neg c4]
          by_cases c5 : l.getD p 0 < 248
          · rw [if_pos c5] at hc
            rw [if_pos c5, if_pos c5]
            split at hc
            · rename_i y1
              split at hc
              · rename_i y2
                split at hc
                · rename_i y3
                  split at hc
                  · rename_i y4
                    split at hc
                    · rename_i y6
                      have hm2 : p + 4 ≤ m := by
                        by_cases y : p + 1 = m
                        · exact absurd (h1 1 y y2) id
                        · by_cases y5 : p + 2 = m
                          · exact absurd (h1 2 y5 y3) id
                          · by_cases y7 : p + 3 = m
                            · exact absurd (h1 3 y7 y4) id
                            · omega
                      rw [if_pos hm2, if_pos y1, if_pos y2, if_pos y3, if_pos y4, if_pos y6]
                      exact ⟨hm2, rfl⟩
                    · exact absurd rfl hc
                  · exact absurd rfl hc
                · exact absurd rfl hc
              · exact absurd rfl hc
            · exact absurd rfl hc
          · rw [if_neg c5] at hc
            exact absurd rfl hc
theorem utf_mono {l : List Nat} {e : Nat} : ∀ (f g p : Nat), f ≤ g → utf l f p e = true → utf l g p e = true := by
  intro f
  induction f with
  | zero =>
    intro g p _ h
    have h1 : e ≤ p := of_decide_eq_true h
    cases g with
    | zero => exact h
    | succ g => rw [utf, if_pos h1]
  | succ f ih =>
    intro g p hg h
    cases g with
    | zero => omega
    | succ g =>
      rw [utf] at h ⊢
      split
      · rfl
      · rename_i c
        rw [if_neg c] at h
        split
        · rename_i c2
          rw [if_pos c2] at h
          exact h
        · rename_i c2
          rw [if_neg c2] at h
          exact ih g _ (by omega) h
theorem utf_any {l : List Nat} {e f g p : Nat} (h : utf l f p e = true) (hg : e - p ≤ g) : utf l g p e = true := by
  rcases Nat.le_total f g with h1 | h1
  · exact utf_mono f g p h1 h
  · rw [utf_f2 g f p hg (by omega)]
    exact h
theorem utf_cut {l : List Nat} {m e : Nat} (hm : m < e) (h0 : l.getD m 0 < 128) : ∀ (f p : Nat), p ≤ m → utf l f p e = true → (∀ g, m - p ≤ g → utf l g p m = true) ∧ ∀ g, e - (m + 1) ≤ g → utf l g (m + 1) e = true := by
  intro f
  induction f with
  | zero =>
    intro p hp1 h
    have h1 : e ≤ p := of_decide_eq_true h
    omega
  | succ f ih =>
    intro p hp1 h
    rw [utf, if_neg (by omega)] at h
    split at h
    · cases h
    · rename_i c
      by_cases hpm : p = m
      · subst hpm
        have h1 : chS l p e = 1 := by rw [chS, if_pos h0]
        rw [h1] at h
        refine ⟨fun g _ => ?_, fun g hg => utf_any h hg⟩
        cases g with
        | zero => exact decide_eq_true (Nat.le_refl _)
        | succ g => rw [utf, if_pos (Nat.le_refl _)]
      · obtain ⟨h1, h2⟩ := chS_cut (by omega) hm h0 c
        obtain ⟨h3, h4⟩ := ih _ h1 h
        refine ⟨fun g hg => ?_, h4⟩
        cases g with
        | zero => omega
        | succ g =>
          rw [utf, if_neg (by omega), h2, if_neg c]
          exact h3 g (by omega)
theorem rt_cut {l : List Nat} {m : Nat} (hm : m < l.length) (h0 : l.getD m 0 < 128) (h : rt l = true) : rt (l.take m) = true ∧ rt (l.drop (m + 1)) = true := by
  obtain ⟨h1, h2⟩ := utf_cut hm h0 _ 0 (by omega) h
  have e1 : l.take m = slice l 0 m := by rw [slice]; simp
  have e2 : l.drop (m + 1) = slice l (m + 1) l.length := by rw [slice, List.take_of_length_le (by rw [List.length_drop]; omega)]
  rw [e1, e2, ← rt_sl (by omega) (by omega), ← rt_sl (by omega) (Nat.le_refl _)]
  exact ⟨h1 _ (by omega), h2 _ (by omega)⟩
theorem tw_at {l : List Nat} {x : Nat} (h : (l.takeWhile (fun b => b != x)).length < l.length) : l.getD (l.takeWhile (fun b => b != x)).length 0 = x := by
  induction l with
  | nil => simp at h
  | cons a l ih =>
    by_cases c : a = x
    · subst c
      rw [List.takeWhile_cons_of_neg (by simp)]
      rfl
    · rw [List.takeWhile_cons_of_pos (by simpa using c), List.length_cons, List.getD_cons_succ]
      rw [List.takeWhile_cons_of_pos (by simpa using c), List.length_cons, List.length_cons] at h
      exact ih (by omega)
def lsum : List (List Nat) → Nat
  | [] => 0
  | a :: r => a.length + lsum r
theorem stpF_ok : ∀ (f : Nat) (l : List Nat), l.length ≤ f → lsum (stpF f l) + (stpF f l).length = l.length + 1 ∧ (∀ w ∈ stpF f l, ∀ b ∈ w, b ∈ l) ∧ (rt l = true → ∀ w ∈ stpF f l, rt w = true) := by
  intro f
  induction f with
  | zero =>
    intro l hl
    rw [stpF]
    exact ⟨by simp [lsum], fun w hw => by rw [List.mem_singleton.mp hw]; exact fun b hb => hb, fun h w hw => by rw [List.mem_singleton.mp hw]; exact h⟩
  | succ f ih =>
    intro l hl
    rw [stpF]
    split
    · rename_i c
      obtain ⟨h1, h2, h3⟩ := ih (l.drop ((tw46 l).length + 1)) (by rw [List.length_drop]; omega)
      refine ⟨?_, ?_, ?_⟩
      · rw [lsum, List.length_cons]
        rw [List.length_drop] at h1
        omega
      · intro w hw b hb
        rcases List.mem_cons.mp hw with rfl | hw
        · rw [tw46_take] at hb
          exact List.mem_of_mem_take hb
        · exact List.mem_of_mem_drop (h2 w hw b hb)
      · intro hr w hw
        obtain ⟨g1, g2⟩ := rt_cut c (by rw [tw46, tw_at c]; omega) hr
        rcases List.mem_cons.mp hw with rfl | hw
        · rw [tw46_take]
          exact g1
        · exact h3 g2 w hw
    · exact ⟨by simp [lsum], fun w hw => by rw [List.mem_singleton.mp hw]; exact fun b hb => hb, fun h w hw => by rw [List.mem_singleton.mp hw]; exact h⟩
theorem stp_len (l : List Nat) : lsum (stp l) + (stp l).length = l.length + 1 := (stpF_ok _ l (Nat.le_refl _)).1
theorem stp_in {l w : List Nat} (h : w ∈ stp l) : ∀ b ∈ w, b ∈ l := (stpF_ok _ l (Nat.le_refl _)).2.1 w h
theorem stp_rt {l w : List Nat} (hr : rt l = true) (h : w ∈ stp l) : rt w = true := (stpF_ok _ l (Nat.le_refl _)).2.2 hr w h
theorem stp_ne (l : List Nat) : stp l ≠ [] := fun z => by
  have := stpF_ne l.length l
  rw [show stpF l.length l = stp l from rfl, z] at this
  simp at this
theorem lsum_ge : ∀ {ws : List (List Nat)}, (∀ w ∈ ws, w ≠ []) → ws.length ≤ lsum ws := by
  intro ws
  induction ws with
  | nil => intro _; simp [lsum]
  | cons w ws ih =>
    intro h
    have h1 := ih (fun x hx => h x (List.mem_cons_of_mem _ hx))
    have h2 : 1 ≤ w.length := List.length_pos_iff.mpr (h w List.mem_cons_self)
    rw [lsum, List.length_cons]
    omega
