/-! which bytes are a document: a function; t: how many levels are left -/
def rt (m : List Nat) : Bool := utf m m.length 0 m.length
def spl (l : List Nat) : Option (List Nat × List Nat) := if (l.takeWhile (fun b => b != 0)).length < l.length then some (l.takeWhile (fun b => b != 0), l.drop ((l.takeWhile (fun b => b != 0)).length + 1)) else none
def hchk (ph : Nat → List Nat → Bool) (k : Nat) (r : List Nat) : Option Nat := if 5 ≤ r.length ∧ 5 ≤ u4 r 0 ∧ u4 r 0 ≤ r.length ∧ ph k (r.take (u4 r 0)) = true then some (u4 r 0) else none
def tchk (r : List Nat) : Option Nat := if 4 ≤ r.length ∧ 1 ≤ u4 r 0 ∧ 4 + u4 r 0 ≤ r.length ∧ r.getD (3 + u4 r 0) 0 = 0 ∧ rt (slice r 4 (3 + u4 r 0)) = true then some (4 + u4 r 0) else none
def vchk (ph : Nat → List Nat → Bool) (k : Nat) (r : List Nat) : Option Nat :=
  if k = 16 then (if 4 ≤ r.length then some 4 else none)
  else if k = 18 then (if 8 ≤ r.length then some 8 else none)
  else if k = 8 then (if 1 ≤ r.length ∧ r.getD 0 0 ≤ 1 then some 1 else none)
  else if k = 10 then some 0
  else if k = 2 then tchk r
  else if k = 3 ∨ k = 4 then hchk ph k r
  else none
def nmOK (k : Nat) (seen : List (List Nat)) (nm : List Nat) : Bool := if k = 4 then decide (nm = dg seen.length) else decide (nm ∉ seen)
def okE (ph : Nat → List Nat → Bool) (k : Nat) : Nat → List (List Nat) → List Nat → Bool
  | 0, _, l => decide (l = [])
  | _ + 1, _, [] => true
  | f + 1, seen, b :: r => match spl r with
    | none => false
    | some (nm, r2) => rt nm && (nmOK k seen nm && (match vchk ph b r2 with
      | none => false
      | some n => okE ph k f (seen ++ [nm]) (r2.drop n)))
def okH : Nat → Nat → List Nat → Bool
  | 0, _, _ => false
  | t + 1, k, v => decide (v.getD (v.length - 1) 1 = 0) && okE (okH t) k v.length [] (slice v 4 (v.length - 1))
/-- just these bytes are a document -/
def okD (l : List Nat) : Bool := decide (5 ≤ l.length ∧ u4 l 0 = l.length) && okH 16 3 l
-- slices
theorem sl_getD {l : List Nat} {a b k : Nat} (h : a + k < b) : (slice l a b).getD k 0 = l.getD (a + k) 0 := slice_get (by omega)
theorem sl_u4 {l : List Nat} {a b k : Nat} (h : a + k + 4 ≤ b) : u4 (slice l a b) k = u4 l (a + k) := by
  rw [u4, u4, sl_getD (by omega), sl_getD (by omega), sl_getD (by omega), sl_getD (by omega)]
  simp only [Nat.add_assoc]
theorem sl_take {l : List Nat} {a b n : Nat} (h : a + n ≤ b) : (slice l a b).take n = slice l a (a + n) := by
  rw [slice, slice, List.take_take]
  congr 1
  omega
theorem sl_drop {l : List Nat} {a b n : Nat} : (slice l a b).drop n = slice l (a + n) b := by
  rw [slice, slice, List.drop_take, List.drop_drop]
  congr 1
  omega
theorem sl_sl {l : List Nat} {a b c e : Nat} (h : a + e ≤ b) : slice (slice l a b) c e = slice l (a + c) (a + e) := by
  conv => lhs; rw [slice]
  rw [sl_drop, slice, List.take_take, slice]
  congr 1
  omega
theorem sl_nil {l : List Nat} {a b : Nat} (h : b ≤ a) : slice l a b = [] := by
  rw [slice, show b - a = 0 by omega]; rfl
theorem sl_cons {l : List Nat} {a b : Nat} (h : a < b) (hb : b ≤ l.length) : slice l a b = l.getD a 0 :: slice l (a + 1) b := by
  refine ext_getD ?_ (fun k hk => ?_)
  · rw [slice_len hb, List.length_cons, slice_len hb]; omega
  · rw [slice_len hb] at hk
    rw [sl_getD (by omega)]
    cases k with
    | zero => rfl
    | succ k => rw [List.getD_cons_succ, sl_getD (by omega)]; congr 1; omega
theorem sl_all (l : List Nat) : slice l 0 l.length = l := by simp [slice]
theorem sl_app {l : List Nat} {a b c : Nat} (h1 : a ≤ b) (h2 : b ≤ c) : slice l a b ++ slice l b c = slice l a c := by
  have : slice l a c = (l.drop a).take ((b - a) + (c - b)) := by rw [slice]; congr 1; omega
  rw [this, List.take_add, slice, slice, List.drop_drop]
  congr 3
  omega
theorem zf_spec {l : List Nat} {p : Nat} (h : p ≤ l.length) : (∀ k, p ≤ k → k < zf l p → l.getD k 0 ≠ 0) ∧ (zf l p < l.length → l.getD (zf l p) 0 = 0) := by
  have key : ∀ m p, p + m = l.length → (∀ k, p ≤ k → k < zf l p → l.getD k 0 ≠ 0) ∧ (zf l p < l.length → l.getD (zf l p) 0 = 0) := by
    intro m
    induction m with
    | zero =>
      intro p hp
      have : p = l.length := by omega
      subst this
      rw [zf_end]
      exact ⟨fun k a b => absurd b (by omega), fun a => absurd a (by omega)⟩
    | succ m ih =>
      intro p hp
      by_cases h0 : l.getD p 0 = 0
      · rw [zf_hit (by omega) h0]
        exact ⟨fun k a b => absurd b (by omega), fun _ => h0⟩
      · rw [zf_skip (by omega) h0]
        obtain ⟨a1, a2⟩ := ih (p + 1) (by omega)
        refine ⟨fun k a b => ?_, a2⟩
        by_cases hk : k = p
        · subst hk; exact h0
        · exact a1 k (by omega) b
  exact key (l.length - p) p (by omega)
theorem tw_len {l : List Nat} {n : Nat} (h1 : ∀ k, k < n → l.getD k 0 ≠ 0) (hn : n ≤ l.length) (h2 : n < l.length → l.getD n 0 = 0) : l.takeWhile (fun b => b != 0) = l.take n := by
  induction l generalizing n with
  | nil => simp
  | cons b l ih =>
    cases n with
    | zero =>
      have := h2 (by simp)
      simp at this
      simp [this]
    | succ n =>
      have hb : b ≠ 0 := h1 0 (by omega)
      rw [List.takeWhile_cons_of_pos (by simpa using hb), List.take_succ_cons]
      congr 1
      refine ih (fun k hk => ?_) (by simp at hn; omega) (fun q => ?_)
      · have := h1 (k + 1) (by omega)
        rwa [List.getD_cons_succ] at this
      · have := h2 (by simp; omega)
        rwa [List.getD_cons_succ] at this
/-- the name that begins at p, of bytes that end at e -/
theorem spl_zf {l : List Nat} {p e : Nat} (hp : p ≤ e) (he : e ≤ l.length) : spl (slice l p e) = if zf l p < e then some (slice l p (zf l p), slice l (zf l p + 1) e) else none := by
  have hl := slice_len (l := l) (a := p) he
  have hz := zf_le (l := l) (p := p) (by omega)
  obtain ⟨a1, a2⟩ := zf_spec (l := l) (p := p) (by omega)
  by_cases c : zf l p < e
  · have t : (slice l p e).takeWhile (fun b => b != 0) = (slice l p e).take (zf l p - p) := by
      refine tw_len (fun k hk => ?_) (by omega) (fun _ => ?_)
      · rw [sl_getD (by omega)]
        exact a1 _ (by omega) (by omega)
      · rw [sl_getD (by omega), show p + (zf l p - p) = zf l p by omega]
        exact a2 (by omega)
    have tl : ((slice l p e).takeWhile (fun b => b != 0)).length = zf l p - p := by rw [t, List.length_take, hl]; omega
    rw [spl, if_pos (by rw [tl, hl]; omega), if_pos c, tl, t, sl_take (by omega), sl_drop]
    congr 2
    · congr 1; omega
    · congr 1; omega
  · have t : (slice l p e).takeWhile (fun b => b != 0) = (slice l p e).take (e - p) := by
      refine tw_len (fun k hk => ?_) (by omega) (fun q => absurd q (by omega))
      rw [sl_getD (by omega)]
      exact a1 _ (by omega) (by omega)
    rw [spl, if_neg (by rw [t, List.length_take, hl]; omega), if_neg c]
theorem chS_sl {l : List Nat} {a b p e : Nat} (h : e ≤ b - a) (hp : p < e) : chS (slice l a b) p e = chS l (a + p) (a + e) := by
  have g : ∀ k, p + k < e → (slice l a b).getD (p + k) 0 = l.getD (a + p + k) 0 := by
    intro k hk
    rw [sl_getD (by omega), Nat.add_assoc]
  have g0 := g 0 (by omega)
  simp only [Nat.add_zero] at g0
  unfold chS
  rw [g0]
  by_cases c1 : l.getD (a + p) 0 < 128
  · rw [if_pos c1, if_pos c1]
  · rw [if_neg c1, if_neg c1]
    by_cases c2 : l.getD (a + p) 0 < 192
    · rw [if_pos c2, if_pos c2]
    · rw [if_neg c2, if_neg c2]
      by_cases c3 : l.getD (a + p) 0 < 224
      · rw [if_pos c3, if_pos c3]
        by_cases c : p + 2 ≤ e
        · rw [if_pos c, if_pos (show a + p + 2 ≤ a + e by omega), g 1 (by omega)]
        · rw [if_neg c, if_neg (show ¬ a + p + 2 ≤ a + e by omega)]
      · rw [if_neg c3, if_neg c3]
        by_cases c4 : l.getD (a + p) 0 < 240
        · rw [if_pos c4, if_pos c4]
          by_cases c : p + 3 ≤ e
          · rw [if_pos c, if_pos (show a + p + 3 ≤ a + e by omega), g 1 (by omega), g 2 (by omega)]
          · rw [if_neg c, if_neg (show ¬ a + p + 3 ≤ a + e by omega)]
        · rw [if_neg c4, if_neg c4]
          by_cases c5 : l.getD (a + p) 0 < 248
          · rw [if_pos c5, if_pos c5]
            by_cases c : p + 4 ≤ e
            · rw [if_pos c, if_pos (show a + p + 4 ≤ a + e by omega), g 1 (by omega), g 2 (by omega), g 3 (by omega)]
            · rw [if_neg c, if_neg (show ¬ a + p + 4 ≤ a + e by omega)]
          · rw [if_neg c5, if_neg c5]
theorem utf_sl {l : List Nat} {a b e : Nat} (h : e ≤ b - a) : ∀ (f p : Nat), utf (slice l a b) f p e = utf l f (a + p) (a + e) := by
  intro f
  induction f with
  | zero =>
    intro p
    simp only [utf]
    congr 1
    exact propext ⟨fun q => by omega, fun q => by omega⟩
  | succ f ih =>
    intro p
    simp only [utf]
    by_cases c : e ≤ p
    · rw [if_pos c, if_pos (by omega)]
    · rw [if_neg c, if_neg (show ¬ a + e ≤ a + p by omega), chS_sl h (by omega), ih, Nat.add_assoc]
theorem rt_sl {l : List Nat} {p e : Nat} (hp : p ≤ e) (he : e ≤ l.length) : utf l (e - p) p e = rt (slice l p e) := by
  rw [rt, slice_len he, utf_sl (Nat.le_refl _)]
  congr 1
  omega
