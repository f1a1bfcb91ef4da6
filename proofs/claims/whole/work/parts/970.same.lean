/-! the reference: same -/
def smL (p : Nat → List Nat → Nat → List Nat → Bool) (nm : Bool) : List El → List El → Bool
  | [], [] => true
  | a :: r, b :: s => oneV a.1 a.2.2 b.1 b.2.2 && ((!nm || decide (a.2.1 = b.2.1)) && (p a.1 a.2.2 b.1 b.2.2 && smL p nm r s))
  | _, _ => false
/-- the insides of two values of one kind -/
def smV : Nat → Nat → List Nat → Nat → List Nat → Bool
  | 0, _, _, _, _ => true
  | t + 1, k1, r1, _, r2 => if k1 = 3 ∨ k1 = 4 then smL (smV t) (decide (k1 = 3)) (els r1) (els r2) else true
def sameV (t k1 : Nat) (r1 : List Nat) (k2 : Nat) (r2 : List Nat) : Bool := oneV k1 r1 k2 r2 && smV t k1 r1 k2 r2
def frQ (S T : sT) : Prop := T.1 = S.1 ∧ (∀ k, k ≠ 26 → k ≠ 27 → k ≠ 28 → T.2.1 k = S.2.1 k) ∧ T.2.2 = S.2.2
theorem frQ_rf (S : sT) : frQ S S := ⟨rfl, fun _ _ _ _ => rfl, rfl⟩
theorem frQ_tr {S T U : sT} (h1 : frQ S T) (h2 : frQ T U) : frQ S U := ⟨h2.1.trans h1.1, fun k a b c => (h2.2.1 k a b c).trans (h1.2.1 k a b c), h2.2.2.trans h1.2.2⟩
theorem frQ_st {S T : sT} (h : frQ S T) : stl T = stl S := by rw [stl, stl, h.2.1 17 (by omega) (by omega) (by omega)]
theorem frQ_ok {S T : sT} (h : frQ S T) (hs : okSt S) : okSt T := fun i => by rw [h.2.1 17 (by omega) (by omega) (by omega)]; exact hs i
theorem frQ_own {S T : sT} (h : frQ S T) (i : Nat) : sOwn S T i := ⟨by rw [h.2.1 18 (by omega) (by omega) (by omega)], by rw [h.2.2], by rw [h.2.1 21 (by omega) (by omega) (by omega)], by rw [h.2.1 22 (by omega) (by omega) (by omega)], by rw [h.2.1 23 (by omega) (by omega) (by omega)], by rw [h.2.1 25 (by omega) (by omega) (by omega)], by rw [h.2.1 19 (by omega) (by omega) (by omega)], by rw [h.2.1 20 (by omega) (by omega) (by omega)]⟩
theorem frQ_RV {S T : sT} (h : frQ S T) {t n k : Nat} {raw f : List Nat} (hn : f.Nodup) (hv : RV t S n k raw f) : RV t T n k raw f := RV_frame (frQ_st h) hn (fun i _ => frQ_own h i) (fun i _ _ => by rw [h.2.1 24 (by omega) (by omega) (by omega)]) hv
theorem frQ_N {S T : sT} (h : frQ S T) (P : Nat → Prop) : frN S T P := ⟨fun k _ => by rw [h.1], fun k hk => h.2.1 k (by omega) (by omega) (by omega), fun q _ => ⟨frQ_own h q, by rw [h.2.1 24 (by omega) (by omega) (by omega)]⟩⟩
theorem one_cls {k1 k2 : Nat} {r1 r2 : List Nat} (h : oneV k1 r1 k2 r2 = true) : clsK k1 = clsK k2 := by
  rw [oneV, Bool.and_eq_true] at h
  exact of_decide_eq_true h.1
theorem cls_h {k1 k2 : Nat} (h : clsK k1 = clsK k2) : (k1 = 3 ∨ k1 = 4) → k2 = k1 := by
  intro c
  unfold clsK at h
  rw [if_neg (by omega)] at h
  split at h <;> omega
theorem cls_n {k1 k2 : Nat} (h : clsK k1 = clsK k2) : ¬ (k1 = 3 ∨ k1 = 4) → ¬ (k2 = 3 ∨ k2 = 4) := fun c z => c (by rw [cls_h h.symm z]; exact z)
theorem RV_lf {t : Nat} {S : sT} {n k : Nat} {raw f : List Nat} (h : RV t S n k raw f) (hk : ¬ (k = 3 ∨ k = 4)) : S.2.1 23 n = -1 := by
  cases t with
  | zero => exact h.2.2.2.2.1
  | succ t =>
    rcases h.2.2.2 with h | ⟨h, -⟩
    · exact h.2.1
    · exact absurd h hk
section Sm
variable {N d : Nat} {S : sT} {Q : Option Value → sm_H → Prop}
theorem sq_e {T : sT} {o : Nat} (ho : o < 59) (h26 : T.2.1 26 o = -1) (h28 : T.2.1 28 o = -1) (hW : sm_W N (d + 2 + 1) mm_M_same 49 [(0, .ref 33), (3, .int (nI o))] [] (hp T) Q) : sm_W N (d + 2 + 1) mm_M_same 49 [(0, .ref 33), (3, .int (nI (o + 1)))] [] (hp T) Q := by
  have e1 : nI (o + 1) - 1 = nI o := by rw [nI_sl (show 1 ≤ o + 1 by omega)]; rfl
  have e2 : nI (o + 1) + (-1) = nI o := by rw [← e1, Int32.sub_eq_add_neg]
  refine kM_same_49 ⟨fun c => ?_, fun _ => ?_⟩
  · rw [nI_lel (by omega) (by omega)] at c
    omega
  · rw [e1]
    refine ⟨_, hg_33_16 T, _, (hs_r T (by omega)).1, _, hg_33_18 T, _, (hs_r T (by omega)).2.2, ?_⟩
    rw [h26, h28]
    refine ⟨fun _ => kM_same_86 ⟨fun _ => ?_, fun c => absurd rfl c⟩, fun c => absurd (by decide) c⟩
    rw [e2]
    exact hW
def smC (N d : Nat) (S : sT) (Q : Option Value → sm_H → Prop) (t : Nat) : Prop := ∀ (m1 k1 : Nat) (r1 f1 : List Nat) (m2 k2 : Nat) (r2 f2 : List Nat) (o : Nat) (T : sT), o + t ≤ 50 → frQ S T → RV t S m1 k1 r1 f1 → RV t S m2 k2 r2 f2 → f1.Nodup → f2.Nodup → r1.length < 100000 → r2.length < 100000 → oneV k1 r1 k2 r2 = true → T.2.1 26 o = S.2.1 23 m1 → T.2.1 28 o = S.2.1 23 m2 → T.2.1 27 o = nI k1 →
  (smV t k1 r1 k2 r2 = false → ∀ U, frQ S U → Q (some (.int 0)) (hp U)) → (smV t k1 r1 k2 r2 = true → ∀ U, frQ S U → (∀ i, i < o → U.2.1 26 i = T.2.1 26 i ∧ U.2.1 27 i = T.2.1 27 i ∧ U.2.1 28 i = T.2.1 28 i) → sm_W N (d + 2 + 1) mm_M_same 49 [(0, .ref 33), (3, .int (nI o))] [] (hp U) Q) → sm_W N (d + 2 + 1) mm_M_same 49 [(0, .ref 33), (3, .int (nI (o + 1)))] [] (hp T) Q
theorem sq_list {t : Nat} (hs : okSt S) (hC : smC N d S Q t) : ∀ (ks1 : List Nat) (es1 : List El) (f1 : List Nat) (i1 : Nat) (ks2 : List Nat) (es2 : List El) (f2 : List Nat) (i2 k o : Nat) (x y : Int32) (T : sT), k < 256 → o + t + 1 ≤ 50 → frQ S T → RL (RV t S) S k i1 ks1 es1 f1 → RL (RV t S) S k i2 ks2 es2 f2 → f1.Nodup → f2.Nodup → (encs es1).length < 100000 → (encs es2).length < 100000 → Ch S x ks1 → Ch S y ks2 → T.2.1 26 o = x → T.2.1 28 o = y → T.2.1 27 o = nI k →
    (smL (smV t) (decide (k = 3)) es1 es2 = false → ∀ U, frQ S U → Q (some (.int 0)) (hp U)) → (smL (smV t) (decide (k = 3)) es1 es2 = true → ∀ U, frQ S U → (∀ i, i < o → U.2.1 26 i = T.2.1 26 i ∧ U.2.1 27 i = T.2.1 27 i ∧ U.2.1 28 i = T.2.1 28 i) → sm_W N (d + 2 + 1) mm_M_same 49 [(0, .ref 33), (3, .int (nI o))] [] (hp U) Q) → sm_W N (d + 2 + 1) mm_M_same 49 [(0, .ref 33), (3, .int (nI (o + 1)))] [] (hp T) Q := by
  have pos : ∀ k : Nat, k < 6000 → ¬ nI k < 0 := by
    intro k hk c
    rw [ti_lt, nI_t (by omega)] at c
    have : (0 : Int32).toInt = 0 := rfl
    omega
  intro ks1
  induction ks1 with
  | nil =>
    intro es1 f1 i1 ks2 es2 f2 i2 k o x y T hk ho hT h1 h2 n1 n2 l1 l2 c1 c2 h26 h28 h27 q0 q1
    cases es1 with
    | cons e es => exact absurd h1 (by simp [RL])
    | nil =>
      have hx : x = -1 := c1
      subst hx
      cases ks2 with
      | nil =>
        cases es2 with
        | cons e es => exact absurd h2 (by simp [RL])
        | nil =>
          have hy : y = -1 := c2
          subst hy
          exact sq_e (by omega) h26 h28 (q1 rfl T hT (fun i _ => ⟨rfl, rfl, rfl⟩))
      | cons m2 ks2 =>
        cases es2 with
        | nil => exact absurd h2 (by simp [RL])
        | cons e2 es2 =>
          obtain ⟨rfl, hm2, -⟩ := c2
          have e1 : nI (o + 1) - 1 = nI o := by rw [nI_sl (show 1 ≤ o + 1 by omega)]; rfl
          refine kM_same_49 ⟨fun c => ?_, fun _ => ?_⟩
          · rw [nI_lel (by omega) (by omega)] at c
            omega
          · rw [e1]
            refine ⟨_, hg_33_16 T, _, (hs_r T (by omega)).1, _, hg_33_18 T, _, (hs_r T (by omega)).2.2, ?_⟩
            rw [h26, h28]
            exact ⟨fun _ => kM_same_86 ⟨fun c => absurd c.symm (nI_m1 (by omega)), fun _ => q0 rfl T hT⟩, fun c => absurd (by decide) c⟩
  | cons m1 ks1 ih =>
    intro es1 f1 i1 ks2 es2 f2 i2 k o x y T hk ho hT h1 h2 n1 n2 l1 l2 c1 c2 h26 h28 h27 q0 q1
    have e1 : nI (o + 1) - 1 = nI o := by rw [nI_sl (show 1 ≤ o + 1 by omega)]; rfl
    cases es1 with
    | nil => exact absurd h1 (by simp [RL])
    | cons a es1 =>
      obtain ⟨rfl, hm1, c3⟩ := c1
      cases ks2 with
      | nil =>
        cases es2 with
        | cons e es => exact absurd h2 (by simp [RL])
        | nil =>
          have hy : y = -1 := c2
          subst hy
          refine kM_same_49 ⟨fun c => ?_, fun _ => ?_⟩
          · rw [nI_lel (by omega) (by omega)] at c
            omega
          · rw [e1]
            refine ⟨_, hg_33_16 T, _, (hs_r T (by omega)).1, _, hg_33_18 T, _, (hs_r T (by omega)).2.2, ?_⟩
            rw [h26, h28]
            exact ⟨fun c => absurd c (pos m1 hm1), fun _ => ⟨fun c => absurd c (by decide), fun _ => kM_same_86 ⟨fun c => absurd c (nI_m1 (by omega)), fun _ => q0 rfl T hT⟩⟩⟩
      | cons m2 ks2 =>
        cases es2 with
        | nil => exact absurd h2 (by simp [RL])
        | cons b es2 =>
          obtain ⟨rfl, hm2, c4⟩ := c2
          obtain ⟨g1, g2, rfl, a2, a3, a4, a5⟩ := h1
          obtain ⟨g3, g4, rfl, b2, b3, b4, b5⟩ := h2
          obtain ⟨n3, n4, -⟩ := List.nodup_append.mp n1
          obtain ⟨n5, n6, -⟩ := List.nodup_append.mp n2
          rw [encs_cons, List.length_append, enc1_len] at l1 l2
          have hsl : smL (smV t) (decide (k = 3)) (a :: es1) (b :: es2) = (oneV a.1 a.2.2 b.1 b.2.2 && ((!(decide (k = 3)) || decide (a.2.1 = b.2.1)) && (smV t a.1 a.2.2 b.1 b.2.2 && smL (smV t) (decide (k = 3)) es1 es2))) := rfl
          rw [hsl] at q0 q1
          have w160 : oneV a.1 a.2.2 b.1 b.2.2 = true → (!(decide (k = 3)) || decide (a.2.1 = b.2.1)) = true → sm_W N (d + 2 + 1) mm_M_same 160 [(0, .ref 33), (3, .int (nI (o + 1))), (4, .int (nI o)), (5, .int (nI m1)), (6, .int (nI m2))] [] (hp T) Q := by
            intro h1v hnm
            rw [h1v, hnm, Bool.true_and, Bool.true_and] at q0 q1
            refine kM_same_160 ⟨_, hg_33_16 T, _, hg_33_14 T, _, (hq_r T hm1).2.2.2.2.2.2.1, _, (hs_w T (show o < 60 by omega) _).1, ?_⟩
            have t1 : ∀ k, (sA T 26 (upd (T.2.1 26) o (T.2.1 24 m1))).2.1 k = if k = 26 then upd (T.2.1 26) o (T.2.1 24 m1) else T.2.1 k := fun k => by simp [sA, va_up]
            have u1 : (sA T 26 (upd (T.2.1 26) o (T.2.1 24 m1))).1 = T.1 ∧ (sA T 26 (upd (T.2.1 26) o (T.2.1 24 m1))).2.2 = T.2.2 := ⟨rfl, rfl⟩
            generalize sA T 26 (upd (T.2.1 26) o (T.2.1 24 m1)) = T1 at *
            refine ⟨_, hg_33_18 T1, _, hg_33_14 T1, _, (hq_r T1 hm2).2.2.2.2.2.2.1, _, (hs_w T1 (show o < 60 by omega) _).2.2, ?_⟩
            have t2 : ∀ k, (sA T1 28 (upd (T1.2.1 28) o (T1.2.1 24 m2))).2.1 k = if k = 28 then upd (T1.2.1 28) o (T1.2.1 24 m2) else T1.2.1 k := fun k => by simp [sA, va_up]
            have u2 : (sA T1 28 (upd (T1.2.1 28) o (T1.2.1 24 m2))).1 = T1.1 ∧ (sA T1 28 (upd (T1.2.1 28) o (T1.2.1 24 m2))).2.2 = T1.2.2 := ⟨rfl, rfl⟩
            generalize sA T1 28 (upd (T1.2.1 28) o (T1.2.1 24 m2)) = T2 at *
            refine ⟨_, hg_33_16 T2, _, hg_33_13 T2, _, (hq_r T2 hm1).2.2.2.2.2.1, _, (hs_w T2 (show o + 1 < 60 by omega) _).1, ?_⟩
            have t3 : ∀ k, (sA T2 26 (upd (T2.2.1 26) (o + 1) (T2.2.1 23 m1))).2.1 k = if k = 26 then upd (T2.2.1 26) (o + 1) (T2.2.1 23 m1) else T2.2.1 k := fun k => by simp [sA, va_up]
            have u3 : (sA T2 26 (upd (T2.2.1 26) (o + 1) (T2.2.1 23 m1))).1 = T2.1 ∧ (sA T2 26 (upd (T2.2.1 26) (o + 1) (T2.2.1 23 m1))).2.2 = T2.2.2 := ⟨rfl, rfl⟩
            generalize sA T2 26 (upd (T2.2.1 26) (o + 1) (T2.2.1 23 m1)) = T3 at *
            refine ⟨_, hg_33_18 T3, _, hg_33_13 T3, _, (hq_r T3 hm2).2.2.2.2.2.1, _, (hs_w T3 (show o + 1 < 60 by omega) _).2.2, ?_⟩
            have t4 : ∀ k, (sA T3 28 (upd (T3.2.1 28) (o + 1) (T3.2.1 23 m2))).2.1 k = if k = 28 then upd (T3.2.1 28) (o + 1) (T3.2.1 23 m2) else T3.2.1 k := fun k => by simp [sA, va_up]
            have u4 : (sA T3 28 (upd (T3.2.1 28) (o + 1) (T3.2.1 23 m2))).1 = T3.1 ∧ (sA T3 28 (upd (T3.2.1 28) (o + 1) (T3.2.1 23 m2))).2.2 = T3.2.2 := ⟨rfl, rfl⟩
            generalize sA T3 28 (upd (T3.2.1 28) (o + 1) (T3.2.1 23 m2)) = T4 at *
            refine ⟨_, hg_33_17 T4, _, hg_33_7 T4, _, (hq_r T4 hm1).1, _, (hs_w T4 (show o + 1 < 60 by omega) _).2.1, ?_⟩
            have t5 : ∀ k, (sA T4 27 (upd (T4.2.1 27) (o + 1) (T4.2.1 18 m1))).2.1 k = if k = 27 then upd (T4.2.1 27) (o + 1) (T4.2.1 18 m1) else T4.2.1 k := fun k => by simp [sA, va_up]
            have u5 : (sA T4 27 (upd (T4.2.1 27) (o + 1) (T4.2.1 18 m1))).1 = T4.1 ∧ (sA T4 27 (upd (T4.2.1 27) (o + 1) (T4.2.1 18 m1))).2.2 = T4.2.2 := ⟨rfl, rfl⟩
            generalize sA T4 27 (upd (T4.2.1 27) (o + 1) (T4.2.1 18 m1)) = T5 at *
            rw [nI_1]
            have keep : ∀ k, k ≠ 26 → k ≠ 27 → k ≠ 28 → T5.2.1 k = T.2.1 k := fun k x1 x2 x3 => by rw [t5, if_neg x2, t4, if_neg x3, t3, if_neg x1, t2, if_neg x3, t1, if_neg x1]
            have fT : frQ T T5 := ⟨by rw [u5.1, u4.1, u3.1, u2.1, u1.1], keep, by rw [u5.2, u4.2, u3.2, u2.2, u1.2]⟩
            have fS := frQ_tr hT fT
            have v26 : T5.2.1 26 = upd (upd (T.2.1 26) o (S.2.1 24 m1)) (o + 1) (S.2.1 23 m1) := by
              rw [t5, if_neg (by omega), t4, if_neg (by omega), t3, if_pos rfl, t2 26, if_neg (by omega), t1 26, if_pos rfl, t2 23, if_neg (by omega), t1 23, if_neg (by omega), hT.2.1 23 (by omega) (by omega) (by omega), hT.2.1 24 (by omega) (by omega) (by omega)]
            have v28 : T5.2.1 28 = upd (upd (T.2.1 28) o (S.2.1 24 m2)) (o + 1) (S.2.1 23 m2) := by
              rw [t5, if_neg (by omega), t4, if_pos rfl, t3 28, if_neg (by omega), t2 28, if_pos rfl, t1 28, if_neg (by omega), t1 24, if_neg (by omega), t3 23, if_neg (by omega), t2 23, if_neg (by omega), t1 23, if_neg (by omega), hT.2.1 23 (by omega) (by omega) (by omega), hT.2.1 24 (by omega) (by omega) (by omega)]
            have v27 : T5.2.1 27 = upd (T.2.1 27) (o + 1) (nI a.1) := by
              rw [t5, if_pos rfl, t4 27, if_neg (by omega), t3 27, if_neg (by omega), t2 27, if_neg (by omega), t1 27, if_neg (by omega), t4 18, if_neg (by omega), t3 18, if_neg (by omega), t2 18, if_neg (by omega), t1 18, if_neg (by omega), hT.2.1 18 (by omega) (by omega) (by omega), (RV_k a4).2.1]
            refine hC m1 a.1 a.2.2 g1 m2 b.1 b.2.2 g3 (o + 1) T5 (by omega) fS a4 b4 n3 n5 (by omega) (by omega) h1v (by rw [v26, pk_us]) (by rw [v28, pk_us]) (by rw [v27, pk_us]) (fun z U hU => q0 (by rw [z]; rfl) U hU) (fun z U hU hkeep => ?_)
            rw [z, Bool.true_and] at q0 q1
            obtain ⟨w1, w2, w3⟩ := hkeep o (by omega)
            refine ih es1 g2 (i1 + 1) ks2 es2 g4 (i2 + 1) k o _ _ U hk ho hU a5 b5 n4 n6 (by omega) (by omega) c3 c4 (by rw [w1, v26, pk_un (by omega), pk_us]) (by rw [w3, v28, pk_un (by omega), pk_us]) (by rw [w2, v27, pk_un (by omega)]; exact h27) q0 (fun z2 V hV hk2 => q1 z2 V hV (fun i hi => ?_))
            obtain ⟨x1, x2, x3⟩ := hk2 i hi
            obtain ⟨x4, x5, x6⟩ := hkeep i (by omega)
            exact ⟨by rw [x1, x4, v26, pk_un (by omega), pk_un (by omega)], by rw [x2, x5, v27, pk_un (by omega)], by rw [x3, x6, v28, pk_un (by omega), pk_un (by omega)]⟩
          refine kM_same_49 ⟨fun c => ?_, fun _ => ?_⟩
          · rw [nI_lel (by omega) (by omega)] at c
            omega
          · rw [e1]
            refine ⟨_, hg_33_16 T, _, (hs_r T (by omega)).1, _, hg_33_18 T, _, (hs_r T (by omega)).2.2, ?_⟩
            rw [h26, h28]
            refine ⟨fun c => absurd c (pos m1 hm1), fun _ => ⟨fun _ => ?_, fun c => absurd (nI_pos' (by omega)) c⟩⟩
            refine sM_isOne (d := d) (frQ_ok hT hs) (frQ_RV hT n3 a4) (frQ_RV hT n5 b4) ⟨_, rfl, fun c => ?_, fun c => ⟨_, hg_33_17 T, _, (hs_r T (by omega)).2.1, ?_⟩⟩
            · have hv : oneV a.1 a.2.2 b.1 b.2.2 = false := by
                cases h : oneV a.1 a.2.2 b.1 b.2.2 with
                | false => rfl
                | true => rw [h] at c; exact absurd c (by decide)
              exact q0 (by rw [hv]; rfl) T hT
            · have hv : oneV a.1 a.2.2 b.1 b.2.2 = true := by
                cases h : oneV a.1 a.2.2 b.1 b.2.2 with
                | true => rfl
                | false => rw [h] at c; exact absurd rfl c
              rw [h27]
              refine ⟨fun c3 => ?_, fun c3 => w160 hv ?_⟩
              · rw [nI_eql (by omega) (by omega)] at c3
                have k3 : k = 3 := c3
                rw [if_neg (by omega)] at a2 b2
                obtain ⟨p, p1, p2, p3, p4⟩ := NmN_frame (frQ_own hT m1) (frQ_st hT) a2
                obtain ⟨q, r1, r2, r3, r4⟩ := NmN_frame (frQ_own hT m2) (frQ_st hT) b2
                refine ⟨_, hg_33_8 T, _, (hq_r T hm1).2.1, _, hg_33_9 T, _, (hq_r T hm1).2.2.1, _, hg_33_8 T, _, (hq_r T hm2).2.1, _, hg_33_9 T, _, (hq_r T hm2).2.2.1, ?_⟩
                rw [p1, p2, r1, r2]
                refine sM_isAlike (d := d + 1) (frQ_ok hT hs) p3 r3 ⟨_, rfl, fun c5 => ?_, fun c5 => w160 hv ?_⟩
                · have hne : ¬ a.2.1 = b.2.1 := fun z => by
                    rw [p4, r4, if_pos z] at c5
                    exact absurd c5 (by decide)
                  exact q0 (by rw [decide_eq_true k3, decide_eq_false hne, hv]; rfl) T hT
                · have heq : a.2.1 = b.2.1 := by
                    by_cases z : a.2.1 = b.2.1
                    · exact z
                    · rw [p4, r4, if_neg z] at c5
                      exact absurd rfl c5
                  rw [decide_eq_true heq, Bool.or_true]
              · rw [nI_eql (by omega) (by omega)] at c3
                rw [decide_eq_false (show ¬ k = 3 from c3)]
                rfl
theorem sq_child (hs : okSt S) : ∀ t : Nat, smC N d S Q t := by
  intro t
  induction t with
  | zero =>
    intro m1 k1 r1 f1 m2 k2 r2 f2 o T ho hT h1 h2 n1 n2 l1 l2 hv h26 h28 h27 q0 q1
    have hk1 := leaf_k h1.2.2.2.2
    have hk2 := leaf_k h2.2.2.2.2
    exact sq_e (by omega) (by rw [h26]; exact RV_lf h1 hk1) (by rw [h28]; exact RV_lf h2 hk2) (q1 rfl T hT (fun i _ => ⟨rfl, rfl, rfl⟩))
  | succ t ih =>
    intro m1 k1 r1 f1 m2 k2 r2 f2 o T ho hT h1 h2 n1 n2 l1 l2 hv h26 h28 h27 q0 q1
    have hc := one_cls hv
    by_cases hk : k1 = 3 ∨ k1 = 4
    · have hk2 := cls_h hc hk
      subst hk2
      obtain ⟨ks1, g1, -, rfl, x1⟩ := RV_RH hk l1 h1
      obtain ⟨ks2, g2, -, rfl, x2⟩ := RV_RH hk l2 h2
      have e1 : smV (t + 1) k2 r1 k2 r2 = smL (smV t) (decide (k2 = 3)) (els r1) (els r2) := by rw [smV, if_pos hk]
      rw [e1] at q0 q1
      have y1 : 5 + (encs (els r1)).length = r1.length := by
        obtain ⟨-, -, z, -, -⟩ := RV_RH hk l1 h1
        have := encD_len (els r1)
        rw [← z] at this
        omega
      have y2 : 5 + (encs (els r2)).length = r2.length := by
        obtain ⟨-, -, z, -, -⟩ := RV_RH hk l2 h2
        have := encD_len (els r2)
        rw [← z] at this
        omega
      exact sq_list hs ih ks1 (els r1) g1 0 ks2 (els r2) g2 0 k2 o _ _ T (by omega) (by omega) hT x1.2.2.2.2.2.2 x2.2.2.2.2.2.2 (List.nodup_cons.mp n1).2 (List.nodup_cons.mp n2).2 (by omega) (by omega) x1.2.2.2.2.2.1.1 x2.2.2.2.2.2.1.1 h26 h28 h27 q0 q1
    · have e1 : smV (t + 1) k1 r1 k2 r2 = true := by rw [smV, if_neg hk]
      exact sq_e (by omega) (by rw [h26]; exact RV_lf h1 hk) (by rw [h28]; exact RV_lf h2 (cls_n hc hk)) (q1 e1 T hT (fun i _ => ⟨rfl, rfl, rfl⟩))
theorem sM_same {t m n k1 k2 : Nat} {r1 r2 f1 f2 : List Nat} (hs : okSt S) (ht : t ≤ 48) (h1 : RV t S m k1 r1 f1) (h2 : RV t S n k2 r2 f2) (n1 : f1.Nodup) (n2 : f2.Nodup) (l1 : r1.length < 100000) (l2 : r2.length < 100000) (hQ : ∀ T, frQ S T → Q (some (.int (if sameV t k1 r1 k2 r2 then 1 else 0))) (hp T)) : sm_V N (d + 2 + 1) mm_M_same 5 33 [.int (nI m), .int (nI n)] (hp S) Q := by
  obtain ⟨hm, hkm, hk1⟩ := RV_k h1
  obtain ⟨hn, -, -⟩ := RV_k h2
  refine cM_same (hk_33 S) (sM_isOne (d := d) hs h1 h2 ⟨_, rfl, fun c => ?_, fun c => ?_⟩)
  · have hv : oneV k1 r1 k2 r2 = false := by
      cases h : oneV k1 r1 k2 r2 with
      | false => rfl
      | true => rw [h] at c; exact absurd c (by decide)
    have := hQ S (frQ_rf S)
    rw [sameV, hv, Bool.false_and] at this
    exact this
  · have hv : oneV k1 r1 k2 r2 = true := by
      cases h : oneV k1 r1 k2 r2 with
      | true => rfl
      | false => rw [h] at c; exact absurd rfl c
    rw [sameV, hv, Bool.true_and] at hQ
    refine ⟨_, hg_33_16 S, _, hg_33_13 S, _, (hq_r S hm).2.2.2.2.2.1, _, (hs_w S (k := 0) (by omega) _).1, ?_⟩
    have t1 : ∀ k, (sA S 26 (upd (S.2.1 26) 0 (S.2.1 23 m))).2.1 k = if k = 26 then upd (S.2.1 26) 0 (S.2.1 23 m) else S.2.1 k := fun k => by simp [sA, va_up]
    have u1 : (sA S 26 (upd (S.2.1 26) 0 (S.2.1 23 m))).1 = S.1 ∧ (sA S 26 (upd (S.2.1 26) 0 (S.2.1 23 m))).2.2 = S.2.2 := ⟨rfl, rfl⟩
    generalize sA S 26 (upd (S.2.1 26) 0 (S.2.1 23 m)) = T1 at *
    refine ⟨_, hg_33_18 T1, _, hg_33_13 T1, _, (hq_r T1 hn).2.2.2.2.2.1, _, (hs_w T1 (k := 0) (by omega) _).2.2, ?_⟩
    have t2 : ∀ k, (sA T1 28 (upd (T1.2.1 28) 0 (T1.2.1 23 n))).2.1 k = if k = 28 then upd (T1.2.1 28) 0 (T1.2.1 23 n) else T1.2.1 k := fun k => by simp [sA, va_up]
    have u2 : (sA T1 28 (upd (T1.2.1 28) 0 (T1.2.1 23 n))).1 = T1.1 ∧ (sA T1 28 (upd (T1.2.1 28) 0 (T1.2.1 23 n))).2.2 = T1.2.2 := ⟨rfl, rfl⟩
    generalize sA T1 28 (upd (T1.2.1 28) 0 (T1.2.1 23 n)) = T2 at *
    refine ⟨_, hg_33_17 T2, _, hg_33_7 T2, _, (hq_r T2 hm).1, _, (hs_w T2 (k := 0) (by omega) _).2.1, ?_⟩
    have t3 : ∀ k, (sA T2 27 (upd (T2.2.1 27) 0 (T2.2.1 18 m))).2.1 k = if k = 27 then upd (T2.2.1 27) 0 (T2.2.1 18 m) else T2.2.1 k := fun k => by simp [sA, va_up]
    have u3 : (sA T2 27 (upd (T2.2.1 27) 0 (T2.2.1 18 m))).1 = T2.1 ∧ (sA T2 27 (upd (T2.2.1 27) 0 (T2.2.1 18 m))).2.2 = T2.2.2 := ⟨rfl, rfl⟩
    generalize sA T2 27 (upd (T2.2.1 27) 0 (T2.2.1 18 m)) = T3 at *
    have fS : frQ S T3 := ⟨by rw [u3.1, u2.1, u1.1], fun k x1 x2 x3 => by rw [t3, if_neg x2, t2, if_neg x3, t1, if_neg x1], by rw [u3.2, u2.2, u1.2]⟩
    refine sq_child hs t m k1 r1 f1 n k2 r2 f2 0 T3 (by omega) fS h1 h2 n1 n2 l1 l2 hv (by rw [t3, if_neg (by omega), t2, if_neg (by omega), t1, if_pos rfl, pk_us]) (by rw [t3, if_neg (by omega), t2, if_pos rfl, pk_us, t1, if_neg (by omega)]) (by rw [t3, if_pos rfl, pk_us, t2, if_neg (by omega), t1, if_neg (by omega), hkm]) (fun z U hU => ?_) (fun z U hU _ => kM_same_49 ⟨fun _ => ?_, fun c => absurd (by decide) c⟩)
    · have := hQ U hU
      rw [z] at this
      exact this
    · have := hQ U hU
      rw [z] at this
      exact this
end Sm
