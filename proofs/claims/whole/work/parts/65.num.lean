/-! digits, read back -/
theorem numF_ge : ∀ (cs : List Nat) (v c : Nat), numF v cs = some c → v ≤ c := by
  intro cs
  induction cs with
  | nil => intro v c h; simp [numF] at h; omega
  | cons a cs ih =>
    intro v c h
    rw [numF] at h
    split at h
    · cases h
    · have := ih _ _ h
      omega
theorem numF_c {v a c : Nat} {cs : List Nat} (h : numF v (a :: cs) = some c) : 48 ≤ a ∧ a ≤ 57 ∧ v ≤ 10000000 ∧ numF (10 * v + a - 48) cs = some c := by
  rw [numF] at h
  split at h
  · cases h
  · exact ⟨by omega, by omega, by omega, h⟩
theorem numF_s {v a : Nat} {cs : List Nat} (h1 : 48 ≤ a) (h2 : a ≤ 57) (h3 : v ≤ 10000000) : numF v (a :: cs) = numF (10 * v + a - 48) cs := by
  rw [numF, if_neg (by omega)]
theorem numA_dg {m : List Nat} {c : Nat} (hc : c < 100000) : numA m = some c ↔ m = dg c := by
  constructor
  · intro h
    unfold numA at h
    split at h
    · cases h
    · rename_i v hv
      split at h
      · cases h
      · rename_i hn
        cases h
        cases m with
        | nil => simp at hn
        | cons a m =>
          obtain ⟨a1, a2, -, hv⟩ := numF_c hv
          cases m with
          | nil =>
            simp only [numF] at hv
            cases hv
            have : nd (10 * 0 + a - 48) = 0 := by unfold nd; rw [if_pos (by omega)]
            rw [dg, this]
            simp only [dgf, List.cons.injEq, and_true]
            omega
          | cons b m =>
            have ha : a ≠ 48 := fun z => hn (Or.inr ⟨by simp, by simp [z]⟩)
            obtain ⟨b1, b2, -, hv⟩ := numF_c hv
            cases m with
            | nil =>
              simp only [numF] at hv
              cases hv
              have : nd (10 * (10 * 0 + a - 48) + b - 48) = 1 := by unfold nd; rw [if_neg (by omega), if_pos (by omega)]
              rw [dg, this]
              simp only [dgf, List.cons.injEq, and_true]
              omega
            | cons e m =>
              obtain ⟨e1, e2, -, hv⟩ := numF_c hv
              cases m with
              | nil =>
                simp only [numF] at hv
                cases hv
                have : nd (10 * (10 * (10 * 0 + a - 48) + b - 48) + e - 48) = 2 := by unfold nd; rw [if_neg (by omega), if_neg (by omega), if_pos (by omega)]
                rw [dg, this]
                simp only [dgf, List.cons.injEq, and_true]
                omega
              | cons f m =>
                obtain ⟨f1, f2, -, hv⟩ := numF_c hv
                cases m with
                | nil =>
                  simp only [numF] at hv
                  cases hv
                  have : nd (10 * (10 * (10 * (10 * 0 + a - 48) + b - 48) + e - 48) + f - 48) = 3 := by unfold nd; rw [if_neg (by omega), if_neg (by omega), if_neg (by omega), if_pos (by omega)]
                  rw [dg, this]
                  simp only [dgf, List.cons.injEq, and_true]
                  omega
                | cons g m =>
                  obtain ⟨g1, g2, -, hv⟩ := numF_c hv
                  cases m with
                  | nil =>
                    simp only [numF] at hv
                    cases hv
                    have : nd (10 * (10 * (10 * (10 * (10 * 0 + a - 48) + b - 48) + e - 48) + f - 48) + g - 48) = 4 := by unfold nd; rw [if_neg (by omega), if_neg (by omega), if_neg (by omega), if_neg (by omega)]
                    rw [dg, this]
                    simp only [dgf, List.cons.injEq, and_true]
                    omega
                  | cons i m =>
                    obtain ⟨i1, i2, -, hv⟩ := numF_c hv
                    have := numF_ge _ _ _ hv
                    omega
  · rintro rfl
    have hl := dg_len c
    have hh := nd_hi hc
    have key : ∀ k, nd c = k → k ≤ 4 → numF 0 (dgf k c) = some c ∧ (0 < k → 48 + c / 10 ^ k % 10 ≠ 48) := by
      intro k hk h4
      have lo : ∀ i, i < k → 10 ^ (i + 1) ≤ c := fun i hi => nd_lo (by omega)
      rw [hk] at hh
      rcases (show k = 0 ∨ k = 1 ∨ k = 2 ∨ k = 3 ∨ k = 4 by omega) with rfl | rfl | rfl | rfl | rfl
      · simp at hh
        refine ⟨?_, fun z => absurd z (by omega)⟩
        simp only [dgf]
        rw [numF_s (by omega) (by omega) (by omega), numF]
        congr 1; omega
      · have l0 := lo 0 (by omega)
        simp at hh l0
        refine ⟨?_, fun _ => by simp; omega⟩
        simp only [dgf]
        rw [numF_s (by omega) (by omega) (by omega), numF_s (by omega) (by omega) (by omega), numF]
        congr 1; omega
      · have l0 := lo 1 (by omega)
        simp at hh l0
        refine ⟨?_, fun _ => by simp; omega⟩
        simp only [dgf]
        rw [numF_s (by omega) (by omega) (by omega), numF_s (by omega) (by omega) (by omega), numF_s (by omega) (by omega) (by omega), numF]
        congr 1; omega
      · have l0 := lo 2 (by omega)
        simp at hh l0
        refine ⟨?_, fun _ => by simp; omega⟩
        simp only [dgf]
        rw [numF_s (by omega) (by omega) (by omega), numF_s (by omega) (by omega) (by omega), numF_s (by omega) (by omega) (by omega), numF_s (by omega) (by omega) (by omega), numF]
        congr 1; omega
      · have l0 := lo 3 (by omega)
        simp at hh l0
        refine ⟨?_, fun _ => by simp; omega⟩
        simp only [dgf]
        rw [numF_s (by omega) (by omega) (by omega), numF_s (by omega) (by omega) (by omega), numF_s (by omega) (by omega) (by omega), numF_s (by omega) (by omega) (by omega), numF_s (by omega) (by omega) (by omega), numF]
        congr 1; omega
    obtain ⟨k1, k2⟩ := key (nd c) rfl (nd_le c)
    rw [numA, hl, show dg c = dgf (nd c) c from rfl, k1]
    simp only
    rw [if_neg]
    rintro (z | ⟨z, z2⟩)
    · omega
    · have hz := k2 (by omega)
      cases hnd : nd c with
      | zero => omega
      | succ w =>
        rw [hnd] at z2 hz
        simp only [dgf, List.getD_cons_zero] at z2
        exact hz z2
