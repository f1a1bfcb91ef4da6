/-! the reference: take, read, put, feed, place, byteAt -/
def frR (S T : sT) : Prop := (∀ k, k ≠ 15 → k ≠ 19 → T.1 k = S.1 k) ∧ ∀ k, (k < 17 ∨ 28 < k) → T.2.1 k = S.2.1 k
theorem es_le : ∀ l : List El, l.length ≤ (encs l).length := by
  intro l
  induction l with
  | nil => simp
  | cons a l ih => rw [encs_cons, List.length_append, enc1_len, List.length_cons]; omega
theorem nat_of {s : Int32} {m : Nat} (h0 : 0 ≤ s.toInt) (h1 : s.toInt < m) (hm : m ≤ 2147483648) : ∃ k, k < m ∧ s = nI k := by
  refine ⟨s.toInt.toNat, by omega, ?_⟩
  rw [ti_eq, nI_t (by omega)]
  omega
section Tk
variable {N d : Nat} {Q : Option Value → sm_H → Prop}
theorem sM_take {S : sT} {q n : Nat} (hs : okSt S) (hq : q + n ≤ 10000) (hn : n ≤ 2000)
    (h0 : ¬ okD (slice (stl S) 10000 (10000 + n)) = true → ∀ T, frR S T → T.1 15 = 0 → okSt T → stl T = stl S → Q (some (.int (-1))) (hp T))
    (h1 : okD (slice (stl S) 10000 (10000 + n)) = true → ∀ T es ks, frR S T → T.1 15 = 0 → okSt T → stl T = cpL (stl S) q 10000 n → slice (stl S) 10000 (10000 + n) = encD es → Ch T (T.2.1 23 0) ks → ks.length = es.length → (∀ e ∈ es, wfE e) → Q (some (.int (nI 0))) (hp T)) :
    sm_V N (d + 5 + 1) mm_M_take 5 33 [.int (nI q), .int (nI n)] (hp S) Q := by
  have hlen := stl_len S
  refine cM_take (hk_33 S) ⟨_, hu_33_2 S _, _, hu_33_6 _ _, ?_⟩
  have f1 : ∀ k, k ≠ 15 → k ≠ 19 → (sI (sI S 15 0) 19 0).1 k = S.1 k := fun k a b => by simp [sI, va_up, a, b]
  have a1 : (sI (sI S 15 0) 19 0).2.1 = S.2.1 := rfl
  have t1 : (sI (sI S 15 0) 19 0).1 15 = 0 := by simp [sI, va_up]
  have n1 : (sI (sI S 15 0) 19 0).1 19 = nI 0 := by simp [sI, va_up]; rfl
  generalize sI (sI S 15 0) 19 0 = S1 at *
  have st1 : stl S1 = stl S := by rw [stl, stl, a1]
  have ok1 : okSt S1 := fun i => by rw [a1]; exact hs i
  have fr : ∀ T, frL S1 T → frR S T ∧ T.1 15 = 0 ∧ okSt T ∧ stl T = stl S := fun T h => ⟨⟨fun k a b => (h.1 k b).trans (f1 k a b), fun k a => by rw [h.2 k (by omega), a1]⟩, by rw [h.1 15 (by omega)]; exact t1, frL_ok h ok1, (frL_st h).trans st1⟩
  refine sM_load (d := d) (p := 10000) (n := n) ok1 (by omega) n1 (by omega) (fun c T hT => ⟨_, rfl, ?_⟩) (fun c T c2 fp hT hT19 hc2 hown hnx hRV hfp hfn => ⟨_, rfl, ?_⟩)
  · rw [st1] at c
    obtain ⟨b1, b2, b3, b4⟩ := fr T hT
    have hq := h0 c T b1 b2 b3 b4
    exact kM_take_22 ⟨fun _ => hq, fun _ => ⟨fun _ => hq, fun z => absurd (by decide) z⟩⟩
  · rw [st1] at c hRV
    obtain ⟨b1, b2, b3, b4⟩ := fr T hT
    obtain ⟨es, ks, he, hch, hel, hwf⟩ : ∃ es ks, slice (stl S) 10000 (10000 + n) = encD es ∧ Ch T (T.2.1 23 0) ks ∧ ks.length = es.length ∧ ∀ e ∈ es, wfE e := by
      rcases hRV.2.2.2 with ⟨-, q⟩ | ⟨-, -, es, ks, f2, he, -, hK, hR⟩
      · exact absurd (Or.inl rfl) (leaf_k q)
      · refine ⟨es, ks, he, hK.1, RL_len hR, RL_wf ?_ hR⟩
        have := encD_len es
        rw [← he, slice_len (by omega)] at this
        omega
    have key : ∀ (m i : Nat) (T2 : sT), i + m = n → eqS (cpL (stl S) q 10000 i) T T2 → sm_W N (d + 5 + 1) mm_M_take 22 [(0, .ref 33), (1, .int (nI q)), (2, .int (nI n)), (3, .int (nI 0)), (4, .int (nI i))] [] (hp T2) Q := by
      intro m
      induction m with
      | zero =>
        intro i T2 hi e
        have : i = n := by omega
        subst this
        refine kM_take_22 ⟨fun _ => ?_, fun c => absurd ((nI_leI (by omega) (by omega)).mpr (Nat.le_refl _)) c⟩
        refine h1 c T2 es ks ⟨fun k a b => by rw [eqS_i e]; exact b1.1 k a b, fun k a => by rw [eqS_a e (by omega)]; exact b1.2 k a⟩ (by rw [eqS_i e]; exact b2) e.2.1 e.2.2 he ?_ hel hwf
        rw [eqS_a e (by omega)]
        exact Ch_frame (fun k _ => by rw [eqS_a e (by omega)]) hch
      | succ m ih =>
        intro i T2 hi e
        obtain ⟨p1, p2⟩ := eqS_set (S := T2) (k := q + i) (T2.2.1 17 (10000 + i)) e.2.1 (by omega)
        rw [← nI_add] at p1
        refine kM_take_22 ⟨fun c => absurd ((nI_leI (by omega) (by omega)).mp c) (by omega), fun _ => ⟨fun c => absurd c (by decide), fun _ => ⟨_, hg_33_1 T2, _, hg_33_1 T2, T2.2.1 17 (10000 + i), ?_, _, p1, ?_⟩⟩⟩
        · rw [nI_la]
          exact hm_r T2 (by omega)
        · rw [nI_1]
          refine ih (i + 1) _ (by omega) ?_
          have e3 := eqS_tr e p2
          rw [← stl_get (by omega), e.2.2] at e3
          exact e3
    have e0 := eqS_id b3
    rw [b4] at e0
    exact key n 0 T (by omega) e0
theorem sM_read {S : sT} {s x : Int32} {tp : Nat} (hs : okSt S) (h15 : S.1 15 = nI tp) (htp : tp ≤ 2000)
    (hb : ¬ (0 ≤ s.toInt ∧ s.toInt < 4 ∧ 0 ≤ x.toInt ∧ x.toInt ≤ tp) → Q (some (.int (-2))) (hp S))
    (h0 : ∀ k n, s = nI k → k < 4 → x = nI n → n ≤ tp → ¬ okD (slice (stl S) 10000 (10000 + n)) = true → ∀ T, frR S T → T.1 15 = 0 → okSt T → stl T = stl S → Q (some (.int (-1))) (hp T))
    (h1 : ∀ k n, s = nI k → k < 4 → x = nI n → n ≤ tp → okD (slice (stl S) 10000 (10000 + n)) = true → ∀ T es, frR S T → T.1 15 = 0 → okSt T → stl T = cpL (stl S) (2000 * k) 10000 n → slice (stl S) 10000 (10000 + n) = encD es → (∀ e ∈ es, wfE e) → Q (some (.int (nI es.length))) (hp T)) :
    sm_V N (d + 6 + 1) mm_M_read 5 33 [.int s, .int x] (hp S) Q := by
  have hlen := stl_len S
  refine cM_read (hk_33 S) (sM_isSlot ⟨_, rfl, fun c => ?_, fun c => ⟨fun c2 => ?_, fun c2 => ⟨_, hg_33_2 S, fun c3 => ?_, fun c3 => ?_⟩⟩⟩)
  · refine hb (fun y => ?_)
    rw [if_pos ⟨y.1, y.2.1⟩] at c
    exact absurd c (by decide)
  · refine hb (fun y => ?_)
    rw [ti_lt] at c2
    have : (0 : Int32).toInt = 0 := rfl
    omega
  · have y1 : 0 ≤ s.toInt ∧ s.toInt < 4 := by
      by_cases y : 0 ≤ s.toInt ∧ s.toInt < 4
      · exact y
      · rw [if_neg y] at c; exact absurd rfl c
    have z0 : (0 : Int32).toInt = 0 := rfl
    rw [ti_lt] at c2
    rw [h15, ti_le, nI_t (by omega)] at c3
    obtain ⟨k, hk, rfl⟩ := nat_of (m := 4) y1.1 (by omega) (by omega)
    obtain ⟨n, hn, rfl⟩ := nat_of (s := x) (m := tp + 1) (by omega) (by omega) (by omega)
    rw [nI_mul]
    refine sM_take (d := d) hs (by omega) (by omega) (fun c T b1 b2 b3 b4 => ⟨_, rfl, fun z => absurd z (by decide), fun _ => h0 k n rfl hk rfl (by omega) c T b1 b2 b3 b4⟩) (fun c T es ks b1 b2 b3 b4 b5 b6 b7 b8 => ⟨_, rfl, fun _ => ?_, fun z => absurd (by decide) z⟩)
    have e5 := encD_len es
    rw [← b5, slice_len (by omega)] at e5
    have e6 := es_le es
    refine sM_countOf (by omega) b6 (by omega) ⟨_, rfl, ?_⟩
    rw [b7]
    exact h1 k n rfl hk rfl (by omega) c T es b1 b2 b3 b4 b5 b8
  · refine hb (fun y => c3 ?_)
    rw [h15, ti_le, nI_t (by omega)]
    exact y.2.2.2
theorem sM_place {S : sT} {x : Int32} (hQ : Q (some (.int (if x = 0 then S.1 17 else if x = 1 then S.1 18 else -1))) (hp S)) : sm_V N (d + 1) mm_M_place 5 33 [.int x] (hp S) Q := by
  refine cM_place (hk_33 S) ⟨fun c => ⟨_, hg_33_4 S, ?_⟩, fun c => ⟨fun c2 => ⟨_, hg_33_5 S, ?_⟩, fun c2 => ?_⟩⟩
  · rw [if_pos c] at hQ; exact hQ
  · rw [if_neg c, if_pos c2] at hQ; exact hQ
  · rw [if_neg c, if_neg c2] at hQ; exact hQ
end Tk
