/-! the class's plan: isPath, clash -/
theorem tw46_ne : ∀ (l : List Nat) (k : Nat), k < (tw46 l).length → l.getD k 0 ≠ 46 := by
  intro l
  induction l with
  | nil => intro k h; simp [tw46] at h
  | cons a l ih =>
    intro k h
    by_cases c : a = 46
    · subst c
      rw [tw46, List.takeWhile_cons_of_neg (by simp)] at h
      simp at h
    · rw [tw46, List.takeWhile_cons_of_pos (by simpa using c), List.length_cons] at h
      cases k with
      | zero => exact c
      | succ k =>
        rw [List.getD_cons_succ]
        exact ih k (by show k < (l.takeWhile _).length; omega)
def clB : List Nat → List Nat → Bool
  | [], [] => true
  | [], b :: _ => decide (b = 46)
  | a :: _, [] => decide (a = 46)
  | a :: r, b :: s => if a = b then clB r s else false
theorem bgn_cc (a b : Nat) (r s : List Nat) : bgn (a :: r) (b :: s) = (decide (a = b) && bgn r s) := by
  rw [bgn, bgn]
  by_cases c : a = b
  · subst c
    rw [decide_eq_true rfl, Bool.true_and]
    congr 1
    refine propext ⟨fun h => ?_, fun h => ?_⟩
    · obtain ⟨h1, h2, h3⟩ := h
      rw [List.length_cons, List.take_succ_cons] at h2
      refine ⟨by simpa using h1, (List.cons.inj h2).2, ?_⟩
      rcases h3 with h3 | h3
      · exact Or.inl (by simpa using h3)
      · exact Or.inr (by simpa using h3)
    · obtain ⟨h1, h2, h3⟩ := h
      refine ⟨by simpa using h1, by rw [List.length_cons, List.take_succ_cons, h2], ?_⟩
      rcases h3 with h3 | h3
      · exact Or.inl (by simpa using h3)
      · exact Or.inr (by simpa using h3)
  · rw [decide_eq_false c, Bool.false_and]
    refine decide_eq_false (fun h => ?_)
    obtain ⟨h1, h2, h3⟩ := h
    rw [List.length_cons, List.take_succ_cons] at h2
    exact c (List.cons.inj h2).1.symm
theorem clB_bgn : ∀ (a b : List Nat), clB a b = (bgn a b || bgn b a) := by
  intro a
  induction a with
  | nil =>
    intro b
    cases b with
    | nil => rfl
    | cons b s =>
      have h1 : bgn [] (b :: s) = decide (b = 46) := by
        rw [bgn]
        congr 1
        refine propext ⟨fun h => ?_, fun h => ⟨by simp, by simp, Or.inr h⟩⟩
        rcases h.2.2 with h3 | h3
        · simp at h3
        · exact h3
      have h2 : bgn (b :: s) [] = false := by
        rw [bgn]
        exact decide_eq_false (fun h => by have := h.1; simp at this)
      rw [clB, h1, h2, Bool.or_false]
  | cons a r ih =>
    intro b
    cases b with
    | nil =>
      have h1 : bgn [] (a :: r) = decide (a = 46) := by
        rw [bgn]
        congr 1
        refine propext ⟨fun h => ?_, fun h => ⟨by simp, by simp, Or.inr h⟩⟩
        rcases h.2.2 with h3 | h3
        · simp at h3
        · exact h3
      have h2 : bgn (a :: r) [] = false := by
        rw [bgn]
        exact decide_eq_false (fun h => by have := h.1; simp at this)
      rw [clB, h1, h2, Bool.false_or]
    | cons b s =>
      rw [clB, bgn_cc, bgn_cc]
      by_cases c : a = b
      · subst c
        rw [if_pos rfl, decide_eq_true rfl, Bool.true_and, Bool.true_and, ih]
      · rw [if_neg c, decide_eq_false c, decide_eq_false (fun z => c z.symm)]
        rfl
section Pl
variable {S : sT} {N d : Nat} {Q : Option Value → sm_H → Prop}
theorem ip_8 {e : Nat} (hw : okB S 6) (he : e ≤ (bl S 6).length) : ∀ (f x st : Nat), x ≤ e → e - x ≤ f → 1 ≤ st → st ≤ x + 1 → Q (some (.int (if (stpF f (slice (bl S 6) x e)).all (fun w => decide (w ≠ [])) && decide (st - 1 + (stpF f (slice (bl S 6) x e)).length ≤ 8) then 1 else 0))) (hp S) → sm_W N (d + 1 + 1) mm_P_isPath 8 [(0, .ref 4), (2, .int (nI e)), (3, .int (nI st)), (4, .int (nI x)), (5, .int (nI x))] [] (hp S) Q := by
  have hlen := bl_lenB hw
  have hc := caps_le 6
  intro f
  induction f with
  | zero =>
    intro x st hx hf h1 h2 hQ
    have : x = e := by omega
    subst this
    rw [sl_nil (Nat.le_refl _)] at hQ
    exact kP_isPath_8 ⟨fun _ => ⟨fun _ => hQ, fun c => absurd ((nI_leI (by omega) (by omega)).mpr (Nat.le_refl _)) c⟩, fun c => absurd ((nI_leI (by omega) (by omega)).mpr (Nat.le_refl _)) c⟩
  | succ f ih =>
    intro x st hx hf h1 h2 hQ
    generalize hL : slice (bl S 6) x e = l at *
    have hll : l.length = e - x := by rw [← hL, slice_len (by omega)]
    have htw := tw46_le l
    have hget : ∀ k, x + k < e → (bl S 6).getD (x + k) 0 = l.getD k 0 := fun k hk => by rw [← hL, sl_getD (by omega)]
    have atz : ∀ (m y : Nat), y + m = x + (tw46 l).length → x ≤ y → sm_W N (d + 1 + 1) mm_P_isPath 8 [(0, .ref 4), (2, .int (nI e)), (3, .int (nI st)), (4, .int (nI x)), (5, .int (nI (x + (tw46 l).length)))] [] (hp S) Q → sm_W N (d + 1 + 1) mm_P_isPath 8 [(0, .ref 4), (2, .int (nI e)), (3, .int (nI st)), (4, .int (nI x)), (5, .int (nI y))] [] (hp S) Q := by
      intro m
      induction m with
      | zero =>
        intro y hy _ hW
        rw [Nat.add_zero] at hy
        rw [hy]
        exact hW
      | succ m ihm =>
        intro y hy hxy hW
        have hne := tw46_ne l (y - x) (by omega)
        rw [← hget _ (by omega), show x + (y - x) = y by omega] at hne
        have hb := bl_lt S 6 y
        refine kP_isPath_8 ⟨fun c => ?_, fun _ => ⟨_, hg_4_0 S, sB_atn (j := 6) (by omega) hw (by omega) ⟨_, rfl, fun c => ?_, fun _ => kP_isPath_46 ?_⟩⟩⟩
        · rw [nI_leI (by omega) (by omega)] at c
          omega
        · rw [nI_eql (by omega) (by omega)] at c
          exact absurd c hne
        · rw [fP_isPath_46, nI_1]
          exact ihm (y + 1) (by omega) (by omega) hW
    refine atz (tw46 l).length x rfl (Nat.le_refl _) ?_
    rw [stpF] at hQ
    by_cases hz : (tw46 l).length < l.length
    · rw [if_pos hz] at hQ
      have h46 : (bl S 6).getD (x + (tw46 l).length) 0 = 46 := by
        rw [hget _ (by omega)]
        exact tw_at hz
      refine kP_isPath_8 ⟨fun c => ?_, fun _ => ⟨_, hg_4_0 S, sB_atn (j := 6) (by omega) hw (by omega) ⟨_, rfl, fun c => ⟨fun c2 => ?_, fun c2 => kP_isPath_46 ?_⟩, fun c => ?_⟩⟩⟩
      · rw [nI_leI (by omega) (by omega)] at c
        omega
      · rw [nI_eq (by omega) (by omega)] at c2
        have h0 : tw46 l = [] := List.length_eq_zero_iff.mp (by omega)
        rw [List.all_cons, h0] at hQ
        exact hQ
      · rw [nI_eq (by omega) (by omega)] at c2
        rw [fP_isPath_46, nI_1, nI_1]
        have hsl : l.drop ((tw46 l).length + 1) = slice (bl S 6) (x + (tw46 l).length + 1) e := by
          rw [← hL, sl_drop, hL, Nat.add_assoc]
        refine ih (x + (tw46 l).length + 1) (st + 1) (by omega) (by omega) (by omega) (by omega) ?_
        have hne : decide (tw46 l ≠ []) = true := decide_eq_true (fun z => by rw [z] at c2; exact c2 (by simp))
        rw [List.all_cons, hne, Bool.true_and, List.length_cons, hsl] at hQ
        rw [show st + 1 - 1 + (stpF f (slice (bl S 6) (x + (tw46 l).length + 1) e)).length = st - 1 + ((stpF f (slice (bl S 6) (x + (tw46 l).length + 1) e)).length + 1) by omega]
        exact hQ
      · rw [nI_eql (by have := bl_lt S 6 (x + (tw46 l).length); omega) (by omega)] at c
        exact absurd h46 c
    · rw [if_neg hz] at hQ
      have hze : x + (tw46 l).length = e := by omega
      rw [hze]
      rw [List.all_cons, List.all_nil, Bool.and_true, List.length_singleton] at hQ
      refine kP_isPath_8 ⟨fun _ => ⟨fun c => ?_, fun c => ⟨fun c2 => ?_, fun c2 => ?_⟩⟩, fun c => absurd ((nI_leI (by omega) (by omega)).mpr (Nat.le_refl _)) c⟩
      · rw [nI_leI (by omega) (by omega)] at c
        have : l = [] := List.length_eq_zero_iff.mp (by omega)
        subst this
        exact hQ
      · rw [nI_gtl (by omega) (by omega)] at c2
        have c3 : 8 < st := c2
        rw [decide_eq_false (show ¬ st - 1 + 1 ≤ 8 by omega), Bool.and_false] at hQ
        exact hQ
      · rw [nI_leI (by omega) (by omega)] at c
        rw [nI_gtl (by omega) (by omega)] at c2
        have c3 : ¬ 8 < st := c2
        rw [decide_eq_true (show l ≠ [] from fun z => by rw [z] at hll; simp at hll; omega), decide_eq_true (show st - 1 + 1 ≤ 8 by omega)] at hQ
        exact hQ
theorem sP_isPath {p e : Nat} (hw : okB S 6) (hpe : p ≤ e) (he : e ≤ (bl S 6).length) (hQ : Q (some (.int (if spB (slice (bl S 6) p e) then 1 else 0))) (hp S)) : sm_V N (d + 2) mm_P_isPath 3 4 [.int (nI p), .int (nI e)] (hp S) Q := by
  refine cP_isPath (hk_4 S) ?_
  refine ip_8 hw he (e - p) p 1 hpe (Nat.le_refl _) (by omega) (by omega) ?_
  rw [spB, stp, slice_len he] at hQ
  rw [show 1 - 1 + (stpF (e - p) (slice (bl S 6) p e)).length = (stpF (e - p) (slice (bl S 6) p e)).length by omega]
  exact hQ
theorem sP_clash {A1 B1 A2 B2 n1 n2 : List Nat} (hw : okB S 6) (h1 : bl S 6 = A1 ++ (n1 ++ 0 :: B1)) (h2 : bl S 6 = A2 ++ (n2 ++ 0 :: B2)) (z1 : ∀ b ∈ n1, b ≠ 0) (z2 : ∀ b ∈ n2, b ≠ 0) (hQ : Q (some (.int (if bgn n1 n2 || bgn n2 n1 then 1 else 0))) (hp S)) : sm_V N (d + 2) mm_P_clash 3 4 [.int (nI A1.length), .int (nI A2.length)] (hp S) Q := by
  have hlen := bl_lenB hw
  have hc := caps_le 6
  have q1 := congrArg List.length h1
  have q2 := congrArg List.length h2
  simp only [List.length_append, List.length_cons] at q1 q2
  have hlb : S.1 36 = nI (bl S 6).length := by
    obtain ⟨nn, a1, a2, a3⟩ := hw
    have a2' : S.1 36 = nI nn := a2
    rw [a2', bl_len a1 a2]
  have key : ∀ (r1 r2 p : List Nat), n1 = p ++ r1 → n2 = p ++ r2 → Q (some (.int (if clB r1 r2 then 1 else 0))) (hp S) → sm_W N (d + 1 + 1) mm_P_clash 2 [(0, .ref 4), (1, .int (nI A1.length)), (2, .int (nI A2.length)), (3, .int (nI p.length))] [] (hp S) Q := by
    intro r1
    induction r1 with
    | nil =>
      intro r2 p e1 e2 hq
      have l1 := congrArg List.length e1
      have l2 := congrArg List.length e2
      simp only [List.length_append, List.length_nil] at l1 l2
      have g1 : (bl S 6).getD (A1.length + p.length) 0 = 0 := by
        rw [h1, getD_app_r, e1, List.append_nil, getD_app_r' (k := 0) (by omega)]
        rfl
      refine kP_clash_2 ⟨_, hg_4_0 S, _, hb_g1 (j := 6) S (by omega), fun c => ?_, fun _ => ⟨_, hg_4_0 S, ?_⟩⟩
      · rw [show S.1 (30 + 6) = S.1 36 from rfl, hlb, nI_leI (by omega) (by omega)] at c
        omega
      · rw [nI_add, nI_add]
        refine sB_atn (j := 6) (by omega) hw (by omega) ⟨_, rfl, _, hg_4_0 S, sB_atn (j := 6) (by omega) hw (by omega) ⟨_, rfl, ?_⟩⟩
        rw [g1]
        cases r2 with
        | nil =>
          have g2 : (bl S 6).getD (A2.length + p.length) 0 = 0 := by
            rw [h2, getD_app_r, e2, List.append_nil, getD_app_r' (k := 0) (by omega)]
            rfl
          rw [g2]
          exact ⟨fun _ => ⟨fun _ => hq, fun c => absurd rfl c⟩, fun c => absurd rfl c⟩
        | cons b s =>
          have hb0 : b ≠ 0 := z2 b (by rw [e2]; simp)
          have g2 : (bl S 6).getD (A2.length + p.length) 0 = b := by
            rw [h2, getD_app_r, e2, List.append_assoc, getD_app_r' (k := 0) (by omega)]
            rfl
          have hb9 : b < 256 := by
            have := bl_lt S 6 (A2.length + p.length)
            omega
          rw [g2]
          have hq2 : Q (some (.int (if decide (b = 46) then 1 else 0))) (hp S) := hq
          refine ⟨fun c => ?_, fun _ => ⟨fun _ => ⟨fun c => kP_clash_68 ?_, fun c => kP_clash_56 ⟨fun c3 => absurd c3 (by decide), fun _ => ?_⟩⟩, fun c => absurd rfl c⟩⟩
          · rw [nI_eq (by omega) (by omega)] at c
            exact absurd c.symm hb0
          · rw [nI_eql (by omega) (by omega)] at c
            rw [decide_eq_true c] at hq2
            exact hq2
          · rw [nI_eql (by omega) (by omega)] at c
            rw [decide_eq_false c] at hq2
            exact hq2
    | cons a r1 ih =>
      intro r2 p e1 e2 hq
      have l1 := congrArg List.length e1
      have l2 := congrArg List.length e2
      simp only [List.length_append, List.length_cons] at l1 l2
      have ha0 : a ≠ 0 := z1 a (by rw [e1]; simp)
      have g1 : (bl S 6).getD (A1.length + p.length) 0 = a := by
        rw [h1, getD_app_r, e1, List.append_assoc, getD_app_r' (k := 0) (by omega)]
        rfl
      have ha9 : a < 256 := by
        have := bl_lt S 6 (A1.length + p.length)
        omega
      refine kP_clash_2 ⟨_, hg_4_0 S, _, hb_g1 (j := 6) S (by omega), fun c => ?_, fun _ => ⟨_, hg_4_0 S, ?_⟩⟩
      · rw [show S.1 (30 + 6) = S.1 36 from rfl, hlb, nI_leI (by omega) (by omega)] at c
        omega
      · rw [nI_add, nI_add]
        refine sB_atn (j := 6) (by omega) hw (by omega) ⟨_, rfl, _, hg_4_0 S, sB_atn (j := 6) (by omega) hw (by omega) ⟨_, rfl, ?_⟩⟩
        rw [g1]
        cases r2 with
        | nil =>
          have g2 : (bl S 6).getD (A2.length + p.length) 0 = 0 := by
            rw [h2, getD_app_r, e2, List.append_nil, getD_app_r' (k := 0) (by simp only [List.length_nil] at l2; omega)]
            rfl
          rw [g2]
          have hq2 : Q (some (.int (if decide (a = 46) then 1 else 0))) (hp S) := hq
          have w56 : sm_W N (d + 1 + 1) mm_P_clash 56 [(4, .int (nI a)), (5, .int (nI 0))] [] (hp S) Q := by
            refine kP_clash_56 ⟨fun c => ⟨fun _ => kP_clash_68 ?_, fun c2 => absurd rfl c2⟩, fun c => ?_⟩
            · rw [nI_eql (by omega) (by omega)] at c
              rw [decide_eq_true c] at hq2
              exact hq2
            · rw [nI_eql (by omega) (by omega)] at c
              rw [decide_eq_false c] at hq2
              exact hq2
          refine ⟨fun c => ?_, fun _ => ⟨fun c => ?_, fun _ => w56⟩⟩
          · rw [nI_eq (by omega) (by omega)] at c
            exact absurd c ha0
          · rw [nI_eql (by omega) (by omega)] at c
            exact absurd c ha0
        | cons b s =>
          have hb0 : b ≠ 0 := z2 b (by rw [e2]; simp)
          have g2 : (bl S 6).getD (A2.length + p.length) 0 = b := by
            rw [h2, getD_app_r, e2, List.append_assoc, getD_app_r' (k := 0) (by omega)]
            rfl
          have hb9 : b < 256 := by
            have := bl_lt S 6 (A2.length + p.length)
            omega
          rw [g2]
          rw [clB] at hq
          refine ⟨fun c => ⟨fun c2 => ?_, fun _ => ?_⟩, fun c => ⟨fun c2 => ?_, fun _ => kP_clash_56 ⟨fun c3 => ⟨fun c4 => ?_, fun _ => ?_⟩, fun _ => ?_⟩⟩⟩
          · rw [nI_eql (by omega) (by omega)] at c2
            exact absurd c2 ha0
          · rw [nI_eq (by omega) (by omega)] at c
            rw [if_pos c] at hq
            rw [nI_1]
            have := ih s (p ++ [a]) (by rw [e1]; simp) (by rw [e2, ← c]; simp) hq
            rw [List.length_append, List.length_singleton] at this
            exact this
          · rw [nI_eql (by omega) (by omega)] at c2
            exact absurd c2 ha0
          · rw [nI_eql (by omega) (by omega)] at c4
            exact absurd c4 hb0
          · rw [nI_eq (by omega) (by omega)] at c
            rw [if_neg c] at hq
            exact hq
          · rw [nI_eq (by omega) (by omega)] at c
            rw [if_neg c] at hq
            exact hq
  refine cP_clash (hk_4 S) (key n1 n2 [] rfl rfl ?_)
  rw [clB_bgn]
  exact hQ
end Pl
