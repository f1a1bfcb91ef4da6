/-! paths of a loaded change -/
theorem RL_Ps {t : Nat} {S : sT} : ∀ {ks : List Nat} {es : List El} {fp : List Nat} {i : Nat} {x : Int32}, RL (RV t S) S 3 i ks es fp → Ch S x ks → PsAt S x (ks.zip (es.map (fun e => e.2.1))) := by
  intro ks
  induction ks with
  | nil =>
    intro es fp i x h hc
    cases es with
    | nil => exact hc
    | cons e es => exact absurd h (by simp [RL])
  | cons n ks ih =>
    intro es fp i x h hc
    cases es with
    | nil => exact absurd h (by simp [RL])
    | cons e es =>
      obtain ⟨f1, f2, -, hnm, -, -, hr⟩ := h
      obtain ⟨hx, hn, hc2⟩ := hc
      rw [if_neg (by decide)] at hnm
      exact ⟨hx, hn, hnm, ih hr hc2⟩
theorem PsAt_To {S : sT} {path : Nat} {pn : List Nat} {l2 : List (Nat × List Nat)} : ∀ {l1 : List (Nat × List Nat)} {x : Int32}, PsAt S x (l1 ++ (path, pn) :: l2) → (∀ p ∈ l1, p.1 ≠ path) → PsTo S path x l1 := by
  intro l1
  induction l1 with
  | nil => intro x h _; exact h.1
  | cons p l1 ih =>
    intro x h hne
    obtain ⟨hx, hp, hn, hr⟩ := h
    exact ⟨hx, hp, hne p List.mem_cons_self, hn, ih hr (fun q hq => hne q (List.mem_cons_of_mem _ hq))⟩
theorem PsAt_nm {S : sT} {path : Nat} {pn : List Nat} {l2 : List (Nat × List Nat)} : ∀ {l1 : List (Nat × List Nat)} {x : Int32}, PsAt S x (l1 ++ (path, pn) :: l2) → path < 6000 ∧ NmN S path pn ∧ PsAt S (S.2.1 24 path) l2 := by
  intro l1
  induction l1 with
  | nil => intro x h; exact ⟨h.2.1, h.2.2.1, h.2.2.2⟩
  | cons p l1 ih => intro x h; exact ih h.2.2.2
/-- the operators done so far, with the pointer behind them -/
def OpsFr (S : sT) : Int32 → List (Nat × List (Nat × List Nat)) → Int32 → Prop
  | x, [], y => x = y
  | x, o :: r, y => x = nI o.1 ∧ o.1 < 6000 ∧ PsAt S (S.2.1 23 o.1) o.2 ∧ OpsFr S (S.2.1 24 o.1) r y
theorem OpsFr_snoc {S : sT} {o : Nat × List (Nat × List Nat)} (ho : o.1 < 6000) (hp1 : PsAt S (S.2.1 23 o.1) o.2) : ∀ {l : List (Nat × List (Nat × List Nat))} {x : Int32}, OpsFr S x l (nI o.1) → OpsFr S x (l ++ [o]) (S.2.1 24 o.1) := by
  intro l
  induction l with
  | nil => intro x h; exact ⟨h, ho, hp1, rfl⟩
  | cons a l ih => intro x h; exact ⟨h.1, h.2.1, h.2.2.1, ih h.2.2.2⟩
theorem OpsFr_To {S : sT} {path o : Nat} {ps : List (Nat × List Nat)} (ho : o < 6000) (hps : PsTo S path (S.2.1 23 o) ps) : ∀ {l : List (Nat × List (Nat × List Nat))} {x : Int32}, OpsFr S x l (nI o) → (∀ a ∈ l, ∀ p ∈ a.2, p.1 ≠ path) → OpsTo S path ps x l := by
  intro l
  induction l with
  | nil => intro x h _; exact ⟨o, h, ho, hps⟩
  | cons a l ih => intro x h hne; exact ⟨h.1, h.2.1, h.2.2.1, hne a List.mem_cons_self, ih h.2.2.2 (fun b hb => hne b (List.mem_cons_of_mem _ hb))⟩
