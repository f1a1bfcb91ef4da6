/-! the way of a path through a document -/
def fsp (w : List Nat) : List El → Option (List El × El × List El)
  | [] => none
  | e :: r => if e.2.1 = w then some ([], e, r) else match fsp w r with
    | none => none
    | some x => some (e :: x.1, x.2)
theorem fsp_some {w : List Nat} : ∀ {es l1 l2 : List El} {e : El}, fsp w es = some (l1, e, l2) → es = l1 ++ e :: l2 ∧ e.2.1 = w ∧ ∀ x ∈ l1, x.2.1 ≠ w := by
  intro es
  induction es with
  | nil => intro l1 l2 e h; cases h
  | cons a es ih =>
    intro l1 l2 e h
    rw [fsp] at h
    split at h
    · rename_i c
      obtain ⟨rfl, h2⟩ := Prod.mk.inj (Option.some.inj h)
      obtain ⟨rfl, rfl⟩ := Prod.mk.inj h2
      exact ⟨rfl, c, fun x hx => absurd hx (by simp)⟩
    · rename_i c
      split at h
      · cases h
      · rename_i x hx
        obtain ⟨h1, h2⟩ := Prod.mk.inj (Option.some.inj h)
        obtain ⟨x1, x2, x3⟩ := x
        obtain ⟨h3, h4⟩ := Prod.mk.inj h2
        subst h1 h3 h4
        obtain ⟨i1, i2, i3⟩ := ih hx
        refine ⟨by rw [i1]; rfl, i2, fun y hy => ?_⟩
        rcases List.mem_cons.mp hy with rfl | hy
        · exact c
        · exact i3 y hy
theorem fsp_none {w : List Nat} : ∀ {es : List El}, fsp w es = none → ∀ e ∈ es, e.2.1 ≠ w := by
  intro es
  induction es with
  | nil => intro _ e he; simp at he
  | cons a es ih =>
    intro h e he
    rw [fsp] at h
    split at h
    · cases h
    · rename_i c
      split at h
      · rename_i hx
        rcases List.mem_cons.mp he with rfl | he
        · exact c
        · exact ih hx e he
      · cases h
theorem rnm_at {e : El} {l2 : List El} : ∀ {l1 : List El} {i : Nat}, rnm i (l1 ++ e :: l2) = l1 ++ e :: l2 → e.2.1 = dg (i + l1.length) := by
  intro l1
  induction l1 with
  | nil =>
    intro i h
    rw [List.nil_append, rnm] at h
    have := (List.cons.inj h).1
    rw [← this]
    rfl
  | cons a l1 ih =>
    intro i h
    rw [List.cons_append, rnm] at h
    have h2 := ih (List.cons.inj h).2
    rw [h2, List.length_cons]
    congr 1
    omega
theorem dg_inj {a b : Nat} (ha : a < 100000) (hb : b < 100000) (h : dg a = dg b) : a = b := by
  have h1 := (numA_dg (m := dg a) ha).mpr rfl
  have h2 := (numA_dg (m := dg a) hb).mpr h
  rw [h1] at h2
  exact Option.some.inj h2
theorem cut_at {es : List El} {v : Nat} (h : v < es.length) : ∃ l1 e l2, es = l1 ++ e :: l2 ∧ l1.length = v := ⟨es.take v, es[v], es.drop (v + 1), by rw [List.getElem_cons_drop, List.take_append_drop], by rw [List.length_take]; omega⟩
/-- names are as they must be: different ones in a document, numbers in a row -/
def nmK (k : Nat) (es : List El) : Prop := (k = 3 → (es.map (fun e => e.2.1)).Nodup) ∧ (k = 4 → rnm 0 es = es)
theorem fsp_row {w : List Nat} {es l1 l2 : List El} {e : El} (h4 : rnm 0 es = es) (h : fsp w es = some (l1, e, l2)) : w = dg l1.length := by
  obtain ⟨h1, h2, -⟩ := fsp_some h
  rw [h1] at h4
  have := rnm_at h4
  rw [Nat.zero_add, h2] at this
  exact this
theorem fsp_row2 {v : Nat} {es : List El} (h4 : rnm 0 es = es) (hv : v < es.length) : fsp (dg v) es ≠ none := by
  intro h
  obtain ⟨l1, e, l2, h1, h2⟩ := cut_at hv
  have h5 := fsp_none h e (by rw [h1]; simp)
  rw [h1] at h4
  have := rnm_at h4
  rw [Nat.zero_add, h2] at this
  exact h5 this
/-- a step may go on here, or something can come here -/
def mayG (k : Nat) (es : List El) (w : List Nat) : Bool := decide (k = 3) || (decide (k = 4) && ((fsp w es).isSome || decide (w = dg es.length)))
theorem mayG_num {es : List El} {w : List Nat} (h4 : rnm 0 es = es) (hl : es.length < 100000) : (match numA w with | some v => if v ≤ es.length then (1 : Int32) else 0 | none => 0) = if mayG 4 es w then 1 else 0 := by
  have hm : mayG 4 es w = ((fsp w es).isSome || decide (w = dg es.length)) := by simp [mayG]
  rw [hm]
  have hs : ∀ v, w = dg v → v < es.length → (fsp w es).isSome = true := by
    intro v h1 h2
    cases h : fsp w es with
    | none => rw [h1] at h; exact absurd h (fsp_row2 h4 h2)
    | some x => rfl
  cases hv : numA w with
  | none =>
    have h1 : (fsp w es).isSome = false := by
      cases h : fsp w es with
      | none => rfl
      | some x =>
        obtain ⟨l1, e, l2⟩ := x
        have h2 := fsp_row h4 h
        have h3 := (fsp_some h).1
        have : l1.length < es.length := by rw [h3, List.length_append, List.length_cons]; omega
        rw [(numA_dg (by omega)).mpr h2] at hv
        cases hv
    have h2 : ¬ w = dg es.length := fun z => by
      rw [(numA_dg hl).mpr z] at hv
      cases hv
    rw [h1, decide_eq_false h2]
    rfl
  | some v =>
    show (if v ≤ es.length then (1 : Int32) else 0) = _
    by_cases c : v ≤ es.length
    · rw [if_pos c]
      have hw : w = dg v := (numA_dg (by omega)).mp hv
      by_cases c2 : v = es.length
      · subst c2
        rw [decide_eq_true hw, Bool.or_true, if_pos rfl]
      · rw [hs v hw (by omega), Bool.true_or, if_pos rfl]
    · rw [if_neg c]
      have h1 : (fsp w es).isSome = false := by
        cases h : fsp w es with
        | none => rfl
        | some x =>
          obtain ⟨l1, e, l2⟩ := x
          have h2 := fsp_row h4 h
          have h3 := (fsp_some h).1
          have h5 : l1.length < es.length := by rw [h3, List.length_append, List.length_cons]; omega
          rw [(numA_dg (by omega)).mpr h2] at hv
          have := Option.some.inj hv
          omega
      have h2 : ¬ w = dg es.length := fun z => by
        rw [(numA_dg hl).mpr z] at hv
        have := Option.some.inj hv
        omega
      rw [h1, decide_eq_false h2]
      rfl
/-- goes a path but for its last step: the holders gone into, the last holder's kind and elements; none where it can't go -/
def wlk (mk : Bool) : List (List Nat) → Nat → List Nat → Option (List Frm × Nat × List El)
  | [], _, _ => none
  | [w], k, raw => if (k = 3 ∨ k = 4) ∧ (mk = true → mayG k (els raw) w = true) then some ([], k, els raw) else none
  | w :: v :: r, k, raw => if (k = 3 ∨ k = 4) ∧ (mk = true → mayG k (els raw) w = true) then
      match fsp w (els raw) with
      | some x => match wlk mk (v :: r) x.2.1.1 x.2.1.2.2 with
        | none => none
        | some y => some ((x.1, x.2.1.1, w, x.2.2) :: y.1, y.2)
      | none => if mk = true then match wlk mk (v :: r) 3 (encD []) with
          | none => none
          | some y => some ((els raw, 3, w, []) :: y.1, y.2)
        else none
    else none
theorem ptI_at {q : Nat} {ks2 : List Nat} : ∀ (ks1 : List Nat), ptI (ks1 ++ q :: ks2) ks1.length = nI q := by
  intro ks1
  induction ks1 with
  | nil => rfl
  | cons a ks1 ih => exact ih
theorem ptI_out : ∀ (ks : List Nat) (n : Nat), ks.length ≤ n → ptI ks n = -1 := by
  intro ks
  induction ks with
  | nil => intro n _; rfl
  | cons a ks ih =>
    intro n h
    cases n with
    | zero => simp at h
    | succ n => exact ih n (by simpa using h)
theorem fnd_no {t : List Nat} : ∀ (ks : List Nat) (nms : List (List Nat)) (acc : Int32), (∀ m ∈ nms, m ≠ t) → fnd t ks nms acc = acc := by
  intro ks
  induction ks with
  | nil => intro nms acc _; rfl
  | cons k ks ih =>
    intro nms acc h
    cases nms with
    | nil => rfl
    | cons m nms =>
      rw [fnd, if_neg (h m List.mem_cons_self)]
      exact ih nms acc (fun x hx => h x (List.mem_cons_of_mem _ hx))
theorem fnd_at {t m : List Nat} {q : Nat} {ks2 : List Nat} {n2 : List (List Nat)} (hm : m = t) (h2 : ∀ x ∈ n2, x ≠ t) : ∀ (ks1 : List Nat) (n1 : List (List Nat)) (acc : Int32), ks1.length = n1.length → fnd t (ks1 ++ q :: ks2) (n1 ++ m :: n2) acc = nI q := by
  intro ks1
  induction ks1 with
  | nil =>
    intro n1 acc h
    cases n1 with
    | nil =>
      rw [List.nil_append, List.nil_append, fnd, if_pos hm]
      exact fnd_no ks2 n2 _ h2
    | cons a n1 => simp at h
  | cons k ks1 ih =>
    intro n1 acc h
    cases n1 with
    | nil => simp at h
    | cons a n1 =>
      rw [List.cons_append, List.cons_append, fnd]
      exact ih n1 _ (by simpa using h)
theorem RL_ANm {pv : Nat → Nat → List Nat → List Nat → Prop} {S : sT} : ∀ {ks : List Nat} {es : List El} {fp : List Nat} {i : Nat}, RL pv S 3 i ks es fp → ANm S ks (es.map (fun e => e.2.1)) := by
  intro ks
  induction ks with
  | nil =>
    intro es fp i h
    cases es with
    | nil => trivial
    | cons e es => exact absurd h (by simp [RL])
  | cons n ks ih =>
    intro es fp i h
    cases es with
    | nil => exact absurd h (by simp [RL])
    | cons e es =>
      obtain ⟨f1, f2, -, hn, -, -, h2⟩ := h
      rw [if_neg (by decide)] at hn
      exact ⟨hn, ih h2⟩
section Wk
variable {S : sT} {N d : Nat} {Q : Option Value → sm_H → Prop}
theorem go_meets {u p k s : Nat} {es : List El} {ks f w : List Nat} (hs : okSt S) (hR : RH u S p k es ks f) (hn : nmK k es) (hl : es.length < 100000) (hs8 : s < 8) (hw : StA S s w) (h0 : fsp w es = none → Q (some (.int (-1))) (hp S))
    (h1 : ∀ l1 e l2 ks1 q ks2, fsp w es = some (l1, e, l2) → ks = ks1 ++ q :: ks2 → ks1.length = l1.length → q < 6000 → Q (some (.int (nI q))) (hp S)) : sm_V N (d + 3) mm_M_meets 5 33 [.int (nI p), .int (nI s)] (hp S) Q := by
  obtain ⟨g1, g2, g3, g4, g5, g6, g7⟩ := hR
  have hlen := RL_len g7
  have hlt := Ch_lt g6.1
  refine sM_meets (nms := es.map (fun e => e.2.1)) hs g1 hs8 g2 (by omega) hw (fun _ => g6.1) (fun c => by subst c; exact RL_ANm g7) ?_
  cases hf : fsp w es with
  | none =>
    have hno := fsp_none hf
    have hQ := h0 hf
    rcases g3 with rfl | rfl
    · rw [if_pos rfl, fnd_no]
      · exact hQ
      · intro m hm
        obtain ⟨e, he, rfl⟩ := List.mem_map.mp hm
        exact hno e he
    · rw [if_neg (by decide), if_pos rfl]
      cases hv : numA w with
      | none => exact hQ
      | some v =>
        show Q (some (.int (ptI ks v))) (hp S)
        rw [ptI_out]
        · exact hQ
        · by_cases c : ks.length ≤ v
          · exact c
          · have hw2 : w = dg v := (numA_dg (by omega)).mp hv
            rw [hw2] at hf
            exact absurd hf (fsp_row2 (hn.2 rfl) (by omega))
  | some x =>
    obtain ⟨l1, e, l2⟩ := x
    obtain ⟨he, hew, -⟩ := fsp_some hf
    have hll : l1.length < es.length := by rw [he, List.length_append, List.length_cons]; omega
    obtain ⟨ks1, q, ks2, hks, hkl⟩ : ∃ ks1 q ks2, ks = ks1 ++ q :: ks2 ∧ ks1.length = l1.length := ⟨ks.take l1.length, ks[l1.length], ks.drop (l1.length + 1), by rw [List.getElem_cons_drop, List.take_append_drop], by rw [List.length_take]; omega⟩
    have hQ := h1 l1 e l2 ks1 q ks2 hf hks hkl (hlt q (by rw [hks]; simp))
    rcases g3 with rfl | rfl
    · have hnd := hn.1 rfl
      rw [if_pos rfl, hks, he, List.map_append, List.map_cons, fnd_at hew]
      · exact hQ
      · intro m hm z
        rw [he, List.map_append, List.map_cons] at hnd
        have := (List.nodup_cons.mp (List.nodup_append.mp hnd).2.1).1
        rw [hew, ← z] at this
        exact this hm
      · rw [List.length_map]; exact hkl
    · have hw2 := fsp_row (hn.2 rfl) hf
      rw [if_neg (by decide), if_pos rfl, (numA_dg (by omega)).mpr hw2]
      show Q (some (.int (ptI ks l1.length))) (hp S)
      rw [hks, ← hkl, ptI_at]
      exact hQ
theorem go_may {u p k s : Nat} {es : List El} {ks f w : List Nat} (hR : RH u S p k es ks f) (hn : nmK k es) (hl : es.length < 100000) (hs8 : s < 8) (hw : StA S s w) (hQ : Q (some (.int (if mayG k es w then 1 else 0))) (hp S)) : sm_V N (d + 3) mm_M_mayGo 5 33 [.int (nI p), .int (nI s)] (hp S) Q := by
  obtain ⟨g1, g2, g3, g4, g5, g6, g7⟩ := hR
  have hlen := RL_len g7
  refine sM_mayGo g1 hs8 g2 (by omega) hw (fun _ => g6.1) (by omega) ?_
  rcases g3 with rfl | rfl
  · rw [if_neg (by decide), if_pos rfl]
    exact hQ
  · rw [if_pos rfl, hlen]
    have hm := mayG_num (w := w) (hn.2 rfl) hl
    rw [← hm] at hQ
    exact hQ
theorem go_may0 {p k s : Nat} {w : List Nat} (hp1 : p < 6000) (hk : S.2.1 18 p = nI k) (hk2 : k < 256) (hk3 : ¬ (k = 3 ∨ k = 4)) (hs8 : s < 8) (hw : StA S s w) (hQ : Q (some (.int 0)) (hp S)) : sm_V N (d + 3) mm_M_mayGo 5 33 [.int (nI p), .int (nI s)] (hp S) Q := by
  refine sM_mayGo (ks := []) hp1 hs8 hk hk2 hw (fun c => absurd (Or.inr c) hk3) (by simp) ?_
  rw [if_neg (fun c => hk3 (Or.inr c)), if_neg (fun c => hk3 (Or.inl c))]
  exact hQ
end Wk
