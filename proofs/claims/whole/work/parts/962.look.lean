/-! the reference: look -/
theorem frS_rf (S : sT) : frS S S := ⟨fun _ _ => rfl, fun _ _ _ => rfl, rfl⟩
theorem frS_tr {S T U : sT} (h1 : frS S T) (h2 : frS T U) : frS S U := ⟨fun k h => (h2.1 k h).trans (h1.1 k h), fun k a b => (h2.2.1 k a b).trans (h1.2.1 k a b), h2.2.2.trans h1.2.2⟩
theorem frS_ok {S T : sT} (h : frS S T) (hs : okSt S) : okSt T := fun i => by rw [h.2.1 17 (by omega) (by omega)]; exact hs i
theorem NmN_S {S T : sT} (h : frS S T) {n : Nat} {nm : List Nat} (hn : NmN S n nm) : NmN T n nm := by
  obtain ⟨a, a1, a2, a3, a4⟩ := hn
  exact ⟨a, by rw [h.2.1 19 (by omega) (by omega)]; exact a1, by rw [h.2.1 20 (by omega) (by omega)]; exact a2, a3, by rw [frS_st h]; exact a4⟩
theorem PsAt_S {S T : sT} (h : frS S T) : ∀ {l : List (Nat × List Nat)} {x : Int32}, PsAt S x l → PsAt T x l := by
  intro l
  induction l with
  | nil => intro x hx; exact hx
  | cons p l ih => intro x hx; exact ⟨hx.1, hx.2.1, NmN_S h hx.2.2.1, by rw [h.2.1 24 (by omega) (by omega)]; exact ih hx.2.2.2⟩
theorem PsTo_S {S T : sT} (h : frS S T) {path : Nat} : ∀ {l : List (Nat × List Nat)} {x : Int32}, PsTo S path x l → PsTo T path x l := by
  intro l
  induction l with
  | nil => intro x hx; exact hx
  | cons p l ih => intro x hx; exact ⟨hx.1, hx.2.1, hx.2.2.1, NmN_S h hx.2.2.2.1, by rw [h.2.1 24 (by omega) (by omega)]; exact ih hx.2.2.2.2⟩
theorem OpsTo_S {S T : sT} (h : frS S T) {path : Nat} {ps : List (Nat × List Nat)} : ∀ {l : List (Nat × List (Nat × List Nat))} {x : Int32}, OpsTo S path ps x l → OpsTo T path ps x l := by
  intro l
  induction l with
  | nil =>
    intro x hx
    obtain ⟨o, a, b, c⟩ := hx
    exact ⟨o, a, b, by rw [h.2.1 23 (by omega) (by omega)]; exact PsTo_S h c⟩
  | cons a l ih => intro x hx; exact ⟨hx.1, hx.2.1, by rw [h.2.1 23 (by omega) (by omega)]; exact PsAt_S h hx.2.2.1, hx.2.2.2.1, by rw [h.2.1 24 (by omega) (by omega)]; exact ih hx.2.2.2.2⟩
