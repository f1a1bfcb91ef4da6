/-! decimal digits -/
def dgf : Nat → Nat → List Nat
  | 0, v => [48 + v % 10]
  | k + 1, v => (48 + v / 10 ^ (k + 1) % 10) :: dgf k v
def nd (v : Nat) : Nat := if v < 10 then 0 else if v < 100 then 1 else if v < 1000 then 2 else if v < 10000 then 3 else 4
def dg (v : Nat) : List Nat := dgf (nd v) v
theorem nd_hi {v : Nat} (h : v < 100000) : v < 10 ^ (nd v + 1) := by
  unfold nd
  repeat' split
  all_goals (simp; omega)
theorem nd_lo {v k : Nat} (h : k < nd v) : 10 ^ (k + 1) ≤ v := by
  unfold nd at h
  split at h
  · omega
  · split at h
    · have : k = 0 := by omega
      subst this; simp; omega
    · split at h
      · rcases (show k = 0 ∨ k = 1 by omega) with rfl | rfl <;> (simp; omega)
      · split at h
        · rcases (show k = 0 ∨ k = 1 ∨ k = 2 by omega) with rfl | rfl | rfl <;> (simp; omega)
        · rcases (show k = 0 ∨ k = 1 ∨ k = 2 ∨ k = 3 by omega) with rfl | rfl | rfl | rfl <;> (simp; omega)
theorem nd_le (v : Nat) : nd v ≤ 4 := by
  unfold nd
  repeat' split
  all_goals omega
theorem p10 {k : Nat} (h : k ≤ 5) : 0 < 10 ^ k ∧ 10 ^ k ≤ 100000 := ⟨Nat.pos_of_ne_zero (by simp), Nat.pow_le_pow_right (n := 10) (by omega) h⟩
theorem dgf_len (k v : Nat) : (dgf k v).length = k + 1 := by
  induction k with
  | zero => rfl
  | succ k ih => simp [dgf, ih]
theorem dg_len (v : Nat) : (dg v).length = nd v + 1 := dgf_len _ _
theorem ub_nI {n : Nat} (h : n < 256) : ub (nI n) = n := by
  rw [ub, pk_tn (by omega)]
  omega
section Digits
variable {S : sT} {j N d : Nat} {Q : Option Value → sm_H → Prop}
theorem sB_digits {v : Nat} (hj : j < 11) (hw : okB S j) (hv : v < 100000) (hc : nd v + 1 ≤ caps j) (hQ : ∀ S2, eqB j (dg v) S S2 → Q none (hp S2)) : sm_V N (d + 2) mm_B_becomeDigits 0 (11 + 2 * j) [.int (nI v)] (hp S) Q := by
  have h4 := nd_le v
  have w36 : ∀ (k i : Nat) (T : sT) (l : List Nat), i + k ≤ 8 → k ≤ 4 → eqB j l S T → l.length + k + 1 ≤ caps j → (∀ S2, eqB j (l ++ dgf k v) S S2 → Q none (hp S2)) → sm_W N (d + 1 + 1) mm_B_becomeDigits 36 [(0, .ref (11 + 2 * j)), (1, .int (nI v)), (2, .int (nI (10 ^ k))), (3, .int (nI i))] [] (hp T) Q := by
    intro k
    induction k with
    | zero =>
      intro i T l hi hk e hl hq
      refine kB_becomeDigits_36 ⟨fun c => absurd ((nI_gel (by omega) (by omega)).mp c) (by omega), fun _ => ⟨fun c => absurd c (by decide), fun _ => ⟨by decide, ?_⟩⟩⟩
      refine sB_add hj e.2.1 (by rw [e.2.2]; omega) (fun T2 e2 => ⟨rfl, ?_⟩)
      have e3 := eqB_tr e e2
      have hd1 : ub (48 + ((nI v / nI (10 ^ 0)) - (nI v / nI (10 ^ 0)) / 10 * 10)) = 48 + v % 10 := by
        rw [pk_div (by omega) (by decide) (by decide), show (10 : Int32) = nI 10 from rfl, pk_rem (by simp; omega) (by decide) (by decide), nI_la, ub_nI (by omega)]
        simp
      rw [e.2.2, hd1] at e3
      refine kB_becomeDigits_36 ⟨fun _ => hq T2 e3, fun _ => ⟨fun _ => hq T2 e3, fun c => absurd (by decide) c⟩⟩
    | succ k ih =>
      intro i T l hi hk e hl hq
      have hp1 := p10 (k := k + 1) (by omega)
      have hp0 := p10 (k := k) (by omega)
      refine kB_becomeDigits_36 ⟨fun c => absurd ((nI_gel (by omega) (by omega)).mp c) (by omega), fun _ => ⟨fun c => absurd c (nI_nle hp1.1 (by omega)), fun _ => ⟨nI_ne0 hp1.1 (by omega), ?_⟩⟩⟩
      refine sB_add hj e.2.1 (by rw [e.2.2]; omega) (fun T2 e2 => ⟨rfl, ?_⟩)
      have e3 := eqB_tr e e2
      have hd1 : ub (48 + ((nI v / nI (10 ^ (k + 1))) - (nI v / nI (10 ^ (k + 1))) / 10 * 10)) = 48 + v / 10 ^ (k + 1) % 10 := by
        have hle : v / 10 ^ (k + 1) ≤ v := Nat.div_le_self ..
        rw [pk_div (by omega) hp1.1 (by omega), show (10 : Int32) = nI 10 from rfl, pk_rem (by omega) (by decide) (by decide), nI_la, ub_nI (by omega)]
      rw [e.2.2, hd1] at e3
      have hu : nI (10 ^ (k + 1)) / 10 = nI (10 ^ k) := by
        rw [show (10 : Int32) = nI 10 from rfl, pk_div (by omega) (by decide) (by decide)]
        exact congrArg nI (by rw [Nat.pow_succ, Nat.mul_div_cancel _ (by decide)])
      rw [hu, nI_1]
      refine ih (i + 1) T2 (l ++ [48 + v / 10 ^ (k + 1) % 10]) (by omega) (by omega) e3 (by simp; omega) (fun S2 q => hq S2 ?_)
      rw [List.append_assoc] at q
      exact q
  have w29 : sm_W N (d + 1 + 1) mm_B_becomeDigits 29 [(0, .ref (11 + 2 * j)), (1, .int (nI v)), (2, .int (nI (10 ^ nd v)))] [] (hp S) Q := by
    obtain ⟨n, hn, hl1, hf⟩ := hw
    refine kB_becomeDigits_29 ⟨_, hb_p1 S hj _, ?_⟩
    have e0 : eqB j [] S (sI S (30 + j) 0) := by
      have h := eqB_len (S := S) (j := j) (n := 0) (g := S.2.1 j) (by omega) hf
      simp only [sA, up_id] at h
      exact h
    exact w36 (nd v) 0 _ [] (by omega) h4 e0 (by simp; omega) hQ
  have w4 : ∀ (m k : Nat), k + m = nd v → sm_W N (d + 1 + 1) mm_B_becomeDigits 4 [(0, .ref (11 + 2 * j)), (1, .int (nI v)), (2, .int (nI (10 ^ k))), (3, .int (nI (k + 1)))] [] (hp S) Q := by
    intro m
    induction m with
    | zero =>
      intro k hk
      have : k = nd v := by omega
      subst this
      have hp0 := p10 (k := nd v) (by omega)
      refine kB_becomeDigits_4 ⟨fun _ => w29, fun _ => ⟨fun _ => w29, fun c => ?_⟩⟩
      refine absurd ?_ c
      rw [show (10 : Int32) = nI 10 from rfl, pk_div (by omega) (by decide) (by decide), nI_ltI (by omega) (by omega)]
      have := nd_hi hv
      rw [Nat.pow_succ] at this
      omega
    | succ m ih =>
      intro k hk
      have hp0 := p10 (k := k) (by omega)
      have hp1 := p10 (k := k + 1) (by omega)
      refine kB_becomeDigits_4 ⟨fun c => absurd ((nI_gel (by omega) (by omega)).mp c) (by omega), fun _ => ⟨fun c => ?_, fun c => ?_⟩⟩
      · rw [show (10 : Int32) = nI 10 from rfl, pk_div (by omega) (by decide) (by decide), nI_ltI (by omega) (by omega)] at c
        have := nd_lo (v := v) (k := k) (by omega)
        rw [Nat.pow_succ] at this
        omega
      · rw [show (10 : Int32) = nI 10 from rfl, pk_mul, nI_1, ← Nat.pow_succ]
        exact ih (k + 1) (by omega)
  exact cB_becomeDigits (hb_k S hj) (w4 (nd v) 0 (by omega))
end Digits
