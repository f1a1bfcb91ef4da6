/-! the reference: countOf, named, numberAt, opens, value -/
def NmN (S : sT) (k : Nat) (nm : List Nat) : Prop := ∃ a, S.2.1 19 k = nI a ∧ S.2.1 20 k = nI nm.length ∧ a + nm.length ≤ 14100 ∧ slice (stl S) a (a + nm.length) = nm
def ANm (S : sT) : List Nat → List (List Nat) → Prop
  | [], [] => True
  | k :: ks, nm :: nms => NmN S k nm ∧ ANm S ks nms
  | _, _ => False
def fnd (t : List Nat) : List Nat → List (List Nat) → Int32 → Int32
  | k :: ks, nm :: nms, acc => fnd t ks nms (if nm = t then nI k else acc)
  | _, _, acc => acc
def numF : Nat → List Nat → Option Nat
  | v, [] => some v
  | v, c :: cs => if c < 48 ∨ 57 < c ∨ 10000000 < v then none else numF (10 * v + c - 48) cs
def numA (m : List Nat) : Option Nat := match numF 0 m with
  | none => none
  | some v => if m.length = 0 ∨ (1 < m.length ∧ m.getD 0 0 = 48) then none else some v
def nres (o : Option Nat) : Int32 := match o with
  | some n => nI n
  | none => -1
def nvR (k : Nat) (r : List Nat) : Int64 := if k = 16 then Int32.toInt64 (nI (u4 r 0)) else if k = 18 then (Int32.toInt64 (nI (u4 r 4)) * 4294967296) + (Int32.toInt64 (nI (u4 r 0)) &&& 4294967295) else if k = 8 then Int32.toInt64 (nI (r.getD 0 0)) else 0
section MV
variable {S : sT} {N d : Nat} {Q : Option Value → sm_H → Prop}
theorem Ch_lt {S : sT} : ∀ {ks : List Nat} {x : Int32}, Ch S x ks → ∀ q ∈ ks, q < 6000 := by
  intro ks
  induction ks with
  | nil => intro x _ q hq; simp at hq
  | cons a ks ih =>
    intro x h q hq
    rcases List.mem_cons.mp hq with rfl | hq
    · exact h.2.1
    · exact ih h.2.2 q hq
theorem sM_countOf {p : Nat} {ks : List Nat} (hp1 : p < 6000) (hk : Ch S (S.2.1 23 p) ks) (hl : ks.length < 100000) (hQ : Q (some (.int (nI ks.length))) (hp S)) : sm_V N (d + 1) mm_M_countOf 5 33 [.int (nI p)] (hp S) Q := by
  have key : ∀ (fs : List Nat) (i : Nat) (x : Int32), Ch S x fs → i + fs.length = ks.length → sm_W N (d + 1) mm_M_countOf 9 [(0, .ref 33), (2, .int (nI i)), (3, .int x)] [] (hp S) Q := by
    intro fs
    induction fs with
    | nil =>
      intro i x h hi
      have hx : x = -1 := h
      subst hx
      rw [List.length_nil, Nat.add_zero] at hi
      subst hi
      exact kM_countOf_9 ⟨fun _ => hQ, fun c => absurd (by decide) c⟩
    | cons k fs ih =>
      intro i x h hi
      obtain ⟨rfl, h6, h⟩ := h
      rw [List.length_cons] at hi
      refine kM_countOf_9 ⟨fun c => absurd c (nI_pos (by omega)), fun _ => ⟨_, hg_33_14 S, _, (hq_r S h6).2.2.2.2.2.2.1, ?_⟩⟩
      rw [nI_1]
      exact ih (i + 1) _ h (by omega)
  exact cM_countOf (hk_33 S) ⟨_, hg_33_13 S, _, (hq_r S hp1).2.2.2.2.2.1, key ks 0 _ hk (by omega)⟩
theorem sM_named {p a n : Nat} {ks : List Nat} {nms : List (List Nat)} (hs : okSt S) (hp1 : p < 6000) (hk : Ch S (S.2.1 23 p) ks) (hn : ANm S ks nms) (ha : a + n ≤ 14100) (hQ : Q (some (.int (fnd (slice (stl S) a (a + n)) ks nms (-1)))) (hp S)) : sm_V N (d + 2) mm_M_named 5 33 [.int (nI p), .int (nI a), .int (nI n)] (hp S) Q := by
  have key : ∀ (fs : List Nat) (ns : List (List Nat)) (acc x : Int32), Ch S x fs → ANm S fs ns → Q (some (.int (fnd (slice (stl S) a (a + n)) fs ns acc))) (hp S) → sm_W N (d + 1 + 1) mm_M_named 11 [(0, .ref 33), (2, .int (nI a)), (3, .int (nI n)), (4, .int acc), (5, .int x)] [] (hp S) Q := by
    intro fs
    induction fs with
    | nil =>
      intro ns acc x h hn hq
      have hx : x = -1 := h
      subst hx
      refine kM_named_11 ⟨fun _ => ?_, fun c => absurd (by decide) c⟩
      cases ns <;> exact hq
    | cons k fs ih =>
      intro ns acc x h hn hq
      obtain ⟨rfl, h6, h⟩ := h
      cases ns with
      | nil => exact absurd hn (by simp [ANm])
      | cons nm ns =>
        obtain ⟨⟨b, b1, b2, b3, b4⟩, hn⟩ := hn
        refine kM_named_11 ⟨fun c => absurd c (nI_pos (by omega)), fun _ => ⟨_, hg_33_8 S, _, (hq_r S h6).2.1, _, hg_33_9 S, _, (hq_r S h6).2.2.1, ?_⟩⟩
        rw [b1, b2]
        have e : fnd (slice (stl S) a (a + n)) (k :: fs) (nm :: ns) acc = fnd (slice (stl S) a (a + n)) fs ns (if nm = slice (stl S) a (a + n) then nI k else acc) := rfl
        rw [e] at hq
        refine sM_isAlike hs b3 ha ⟨_, rfl, fun c => ?_, fun c => ?_⟩
        · have ne : ¬ nm = slice (stl S) a (a + n) := by
            intro z
            rw [b4, if_pos z] at c
            exact absurd c (by decide)
          rw [if_neg ne] at hq
          exact kM_named_46 ⟨_, hg_33_14 S, _, (hq_r S h6).2.2.2.2.2.2.1, ih ns _ _ h hn hq⟩
        · have eq : nm = slice (stl S) a (a + n) := by
            by_cases z : nm = slice (stl S) a (a + n)
            · exact z
            · rw [b4, if_neg z] at c
              exact absurd rfl c
          rw [if_pos eq] at hq
          exact kM_named_46 ⟨_, hg_33_14 S, _, (hq_r S h6).2.2.2.2.2.2.1, ih ns _ _ h hn hq⟩
  exact cM_named (hk_33 S) ⟨_, hg_33_13 S, _, (hq_r S hp1).2.2.2.2.2.1, key ks nms (-1) _ hk hn hQ⟩
theorem sM_numberAt {a n : Nat} (ha : a + n ≤ 14100) (hQ : Q (some (.int (nres (numA (slice (stl S) a (a + n)))))) (hp S)) : sm_V N (d + 2) mm_M_numberAt 5 33 [.int (nI a), .int (nI n)] (hp S) Q := by
  have hsl : (slice (stl S) a (a + n)).length = n := by rw [slice_len (by rw [stl_len]; omega)]; omega
  have key : ∀ (w i v : Nat), i + w = n → v ≤ 100000009 → numF 0 (slice (stl S) a (a + n)) = numF v (slice (stl S) (a + i) (a + n)) → sm_W N (d + 1 + 1) mm_M_numberAt 5 [(0, .ref 33), (1, .int (nI a)), (2, .int (nI n)), (3, .int (nI v)), (4, .int (nI (a + i)))] [] (hp S) Q := by
    intro w
    induction w with
    | zero =>
      intro i v hi hv h
      rw [sl_nil (a := a + i) (b := a + n) (by omega)] at h
      have e : numA (slice (stl S) a (a + n)) = if n = 0 ∨ (1 < n ∧ (slice (stl S) a (a + n)).getD 0 0 = 48) then none else some v := by
        rw [numA, h, hsl]; rfl
      rw [e] at hQ
      refine kM_numberAt_5 ⟨fun _ => ⟨fun c => ?_, fun c => ⟨fun c2 => ?_, fun c2 => ?_⟩⟩, fun c => absurd (by rw [nI_add, nI_leI (by omega) (by omega)]; omega) c⟩
      · rw [nI_eql (by omega) (by omega)] at c
        rw [if_pos (Or.inl c)] at hQ
        exact kM_numberAt_83 hQ
      · rw [nI_eql (by omega) (by omega)] at c
        rw [nI_lel (by omega) (by omega)] at c2
        rw [if_neg (by rintro (z | z) <;> omega)] at hQ
        exact hQ
      · rw [nI_eql (by omega) (by omega)] at c
        rw [nI_lel (by omega) (by omega)] at c2
        have hb := stl_lt S a
        rw [sl_getD (by omega), Nat.add_zero] at hQ
        refine sM_at (by omega) ⟨_, rfl, fun c3 => ?_, fun c3 => ?_⟩
        · rw [nI_eql (by omega) (by omega)] at c3
          rw [if_pos (Or.inr ⟨by omega, c3⟩)] at hQ
          exact kM_numberAt_83 hQ
        · rw [nI_eql (by omega) (by omega)] at c3
          rw [if_neg (by rintro (z | z) <;> omega)] at hQ
          exact hQ
    | succ w ih =>
      intro i v hi hv h
      have hb := stl_lt S (a + i)
      rw [sl_cons (a := a + i) (by omega) (by rw [stl_len]; omega)] at h
      have e : numF v ((stl S).getD (a + i) 0 :: slice (stl S) (a + i + 1) (a + n)) = if (stl S).getD (a + i) 0 < 48 ∨ 57 < (stl S).getD (a + i) 0 ∨ 10000000 < v then none else numF (10 * v + (stl S).getD (a + i) 0 - 48) (slice (stl S) (a + i + 1) (a + n)) := rfl
      rw [e] at h
      have bad : ((stl S).getD (a + i) 0 < 48 ∨ 57 < (stl S).getD (a + i) 0 ∨ 10000000 < v) → Q (some (.int (-1))) (hp S) := by
        intro z
        rw [if_pos z] at h
        rw [numA, h] at hQ
        exact hQ
      refine kM_numberAt_5 ⟨fun c => absurd c (by rw [nI_add, nI_leI (by omega) (by omega)]; omega), fun _ => ?_⟩
      refine sM_at (by omega) ⟨_, rfl, fun c => ?_, fun c => ?_⟩
      · rw [nI_ltl (by omega) (by omega)] at c
        exact bad (Or.inl c)
      · rw [nI_ltl (by omega) (by omega)] at c
        refine sM_at (by omega) ⟨_, rfl, fun c2 => ?_, fun c2 => ⟨fun c3 => ?_, fun c3 => ?_⟩⟩
        · rw [nI_gtl (by omega) (by omega)] at c2
          exact bad (Or.inr (Or.inl c2))
        · rw [nI_gtl (by omega) (by omega)] at c2
          rw [nI_lel (by omega) (by omega)] at c3
          refine sM_at (by omega) ⟨_, rfl, ?_⟩
          rw [nI_mul, nI_add, nI_sl (show 48 ≤ _ by omega), nI_1]
          rw [if_neg (by rintro (z | z | z) <;> omega)] at h
          exact ih (i + 1) (10 * v + (stl S).getD (a + i) 0 - 48) (by omega) (by omega) (by rw [h]; rfl)
        · rw [nI_lel (by omega) (by omega)] at c3
          exact bad (Or.inr (Or.inr (by omega)))
  exact cM_numberAt (hk_33 S) (key n 0 0 (by omega) (by omega) (by rw [Nat.add_zero]))
theorem hs_w (S : sT) {k : Nat} (hk : k < 60) (x : Int32) : sm_pi (hp S) 44 (nI k) x = some (hp (sA S 26 (upd (S.2.1 26) k x))) ∧ sm_pi (hp S) 45 (nI k) x = some (hp (sA S 27 (upd (S.2.1 27) k x))) ∧ sm_pi (hp S) 46 (nI k) x = some (hp (sA S 28 (upd (S.2.1 28) k x))) := by
  refine ⟨?_, ?_, ?_⟩
  · rw [hw_44, nI_t (by omega), if_pos ⟨by omega, by omega⟩, nI_clamp (by omega)]
  · rw [hw_45, nI_t (by omega), if_pos ⟨by omega, by omega⟩, nI_clamp (by omega)]
  · rw [hw_46, nI_t (by omega), if_pos ⟨by omega, by omega⟩, nI_clamp (by omega)]
theorem hs_r (S : sT) {k : Nat} (hk : k < 60) : sm_gi (hp S) 44 1 (nI k) = some (S.2.1 26 k) ∧ sm_gi (hp S) 45 1 (nI k) = some (S.2.1 27 k) ∧ sm_gi (hp S) 46 1 (nI k) = some (S.2.1 28 k) := by
  refine ⟨?_, ?_, ?_⟩
  · rw [ha_44, nI_t (by omega), if_pos ⟨by omega, by omega⟩, nI_clamp (by omega)]
  · rw [ha_45, nI_t (by omega), if_pos ⟨by omega, by omega⟩, nI_clamp (by omega)]
  · rw [ha_46, nI_t (by omega), if_pos ⟨by omega, by omega⟩, nI_clamp (by omega)]
theorem u4s_lt (S : sT) (k : Nat) : u4 (stl S) k < 4294967296 := by
  have h1 := stl_lt S k
  have h2 := stl_lt S (k + 1)
  have h3 := stl_lt S (k + 2)
  have h4 := stl_lt S (k + 3)
  unfold u4
  omega
theorem z0_ub {x : Int32} (h : sB x) : x = 0 ↔ ub x = 0 := by
  have : (0 : Int32) = nI 0 := rfl
  rw [ub_inj h (show sB 0 from (by decide : fits .byte (.int 0) = true))]
  exact Iff.rfl
theorem sM_opens {nd p e o : Nat} (hs : okSt S) (hpe : p ≤ e) (he : e ≤ 14000) (ho : o < 60) (hQ0 : ¬ (4 ≤ e - p ∧ o ≠ 16 ∧ 5 ≤ u4 (stl S) p ∧ u4 (stl S) p ≤ e - p ∧ (stl S).getD (p + u4 (stl S) p - 1) 0 = 0) → Q (some (.int 0)) (hp S))
    (hQ1 : (4 ≤ e - p ∧ o ≠ 16 ∧ 5 ≤ u4 (stl S) p ∧ u4 (stl S) p ≤ e - p ∧ (stl S).getD (p + u4 (stl S) p - 1) 0 = 0) → Q (some (.int 1)) (hp (sA (sA S 26 (upd (S.2.1 26) o (nI nd))) 27 (upd (S.2.1 27) o (nI (p + u4 (stl S) p - 1)))))) :
    sm_V N (d + 3) mm_M_opens 5 33 [.int (nI nd), .int (nI p), .int (nI e), .int (nI o)] (hp S) Q := by
  have hu := u4s_lt S p
  have hsub : nI e - nI p = nI (e - p) := pk_sub hpe
  refine cM_opens (hk_33 S) ⟨fun c => ?_, fun c => ⟨fun c2 => ?_, fun c2 => ?_⟩⟩
  · rw [hsub, nI_ltl (by omega) (by omega)] at c
    exact hQ0 (fun z => by omega)
  · rw [nI_eql (by omega) (by omega)] at c2
    exact hQ0 (fun z => z.2.1 c2)
  · rw [hsub, nI_ltl (by omega) (by omega)] at c
    rw [nI_eql (by omega) (by omega)] at c2
    refine sM_whole (by omega) ⟨_, rfl, fun c3 => ?_, fun c3 => ⟨fun c4 => ?_, fun c4 => ?_⟩⟩
    · rw [ti_lt, nI_tc hu] at c3
      simp at c3
      refine hQ0 (fun z => ?_)
      rw [if_pos (by omega)] at c3
      omega
    · rw [hsub, ti_lt, nI_t (by omega), nI_tc hu] at c4
      refine hQ0 (fun z => ?_)
      rw [if_pos (by omega)] at c4
      omega
    · rw [ti_lt, nI_tc hu] at c3
      rw [hsub, ti_lt, nI_t (by omega), nI_tc hu] at c4
      simp at c3
      have u1 : u4 (stl S) p < 2147483648 := by
        split at c3
        · assumption
        · omega
      rw [if_pos u1] at c3 c4
      rw [nI_add, nI_sl (show 1 ≤ _ by omega)]
      refine ⟨_, hg_33_1 S, _, hm_r S (show p + u4 (stl S) p - 1 < 14100 by omega), fun c5 => ?_, fun c5 => ?_⟩
      · rw [z0_ub (hs _), ← stl_get (by omega)] at c5
        have hh := hQ1 ⟨by omega, c2, by omega, by omega, c5⟩
        exact ⟨_, hg_33_16 S, _, (hs_w S ho (nI nd)).1, _, hg_33_17 _, _, (hs_w _ ho _).2.1, hh⟩
      · rw [z0_ub (hs _), ← stl_get (by omega)] at c5
        exact hQ0 (fun z => c5 z.2.2.2.2)
end MV
