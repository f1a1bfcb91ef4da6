/-! the reference: change -/
/-- how many paths -/
def cntP : List El → Nat
  | [] => 0
  | e :: r => (els e.2.2).length + cntP r
theorem lkO_3 : ∀ (es : List El) (ea : List (List Nat)) (o : Nat), (lkO es ea o).1 = 0 → ∀ e ∈ es, e.1 = 3 := by
  intro es
  induction es with
  | nil => intro ea o _ e he; simp at he
  | cons a es ih =>
    intro ea o h e he
    rw [lkO] at h
    by_cases c1 : opOf a.2.1 = 0
    · rw [if_pos c1] at h; exact absurd h (show ¬ (1 : Nat) = 0 by decide)
    · rw [if_neg c1] at h
      by_cases c2 : a.1 ≠ 3
      · rw [if_pos c2] at h; exact absurd h (show ¬ (2 : Nat) = 0 by decide)
      · rw [if_neg c2] at h
        by_cases c3 : (lkP (opOf a.2.1) (els a.2.2) ea 0).1 = 0
        · rw [if_pos c3] at h
          rcases List.mem_cons.mp he with rfl | he
          · exact Decidable.not_not.mp c2
          · exact ih _ _ h e he
        · rw [if_neg c3] at h; exact absurd h c3
theorem pthF_le (op : Nat) (e : El) (ea : List (List Nat)) : pthF op e ea ≤ 5 := by
  rw [pthF]
  repeat' split
  all_goals omega
theorem lkP_le : ∀ (op : Nat) (es : List El) (ea : List (List Nat)) (p : Nat), (lkP op es ea p).1 ≤ 5 := by
  intro op es
  induction es with
  | nil => intro ea p; exact Nat.zero_le _
  | cons e es ih =>
    intro ea p
    rw [lkP]
    split
    · exact ih _ _
    · exact pthF_le ..
theorem lkO_le : ∀ (es : List El) (ea : List (List Nat)) (o : Nat), (lkO es ea o).1 ≤ 5 := by
  intro es
  induction es with
  | nil => intro ea o; exact Nat.zero_le _
  | cons e es ih =>
    intro ea o
    rw [lkO]
    split
    · show 1 ≤ 5; omega
    · split
      · show 2 ≤ 5; omega
      · split
        · exact ih _ _
        · exact lkP_le ..
def frC (S T : sT) : Prop := (∀ k, k ≠ 15 → k ≠ 16 → k ≠ 17 → k ≠ 18 → k ≠ 19 → k ≠ 23 → T.1 k = S.1 k) ∧ ∀ k, (k < 17 ∨ 28 < k) → k ≠ 31 → k ≠ 32 → T.2.1 k = S.2.1 k
section Cg
variable {N d : Nat} {Q : Option Value → sm_H → Prop}
theorem ch_113 {S T : sT} {t : Nat} (h23 : T.2.1 23 = S.2.1 23) (h24 : T.2.1 24 = S.2.1 24) : ∀ (ks : List Nat) (es : List El) (f : List Nat) (i a : Nat) (x : Int32), RL (RV (t + 1) S) S 3 i ks es f → (∀ e ∈ es, e.1 = 3) → (encs es).length < 100000 → Ch S x ks → Q (some (.int (nI (a + cntP es)))) (hp T) → sm_W N (d + 5 + 1) mm_M_change 113 [(0, .ref 33), (4, .int (nI a)), (5, .int x)] [] (hp T) Q := by
  intro ks
  induction ks with
  | nil =>
    intro es f i a x hR _ _ hx hQ
    cases es with
    | cons e es => exact absurd hR (by simp [RL])
    | nil =>
      have hx1 : x = -1 := hx
      subst hx1
      exact kM_change_113 ⟨fun _ => hQ, fun c => absurd (by decide) c⟩
  | cons n ks ih =>
    intro es f i a x hR h3 hl hx hQ
    cases es with
    | nil => exact absurd hR (by simp [RL])
    | cons e es =>
      obtain ⟨f1, f2, rfl, -, -, hv, hR3⟩ := hR
      obtain ⟨rfl, hn, hch⟩ := hx
      rw [encs_cons, List.length_append, enc1_len] at hl
      have pos : ¬ nI n < 0 := by
        intro c
        rw [ti_lt, nI_t (by omega)] at c
        have : (0 : Int32).toInt = 0 := rfl
        omega
      obtain ⟨-, -, -, hv2⟩ := hv
      rcases hv2 with ⟨-, q⟩ | ⟨-, -, es2, ks2, f3, hraw, hf1, hK, hRL⟩
      · exact absurd (Or.inl (h3 e List.mem_cons_self)) (leaf_k q)
      · rw [hraw, encD_len] at hl
        have hel : els e.2.2 = es2 := by rw [hraw]; exact els_encD (RL_wf (by omega) hRL)
        have e6 := es_le es2
        have hlen := RL_len hRL
        refine kM_change_113 ⟨fun c => absurd c pos, fun _ => ?_⟩
        refine sM_countOf (d := d + 4) (ks := ks2) hn (by rw [h23]; exact Ch_frame (fun k _ => by rw [h24]) hK.1) (by omega) ⟨_, rfl, _, hg_33_14 T, _, (hq_r T hn).2.2.2.2.2.2.1, ?_⟩
        rw [h24, nI_add]
        refine ih es f2 (i + 1) (a + ks2.length) _ hR3 (fun x hx => h3 x (List.mem_cons_of_mem _ hx)) (by omega) hch ?_
        rw [cntP, hel, ← hlen, ← Nat.add_assoc] at hQ
        exact hQ
theorem sM_change {S : sT} {x : Int32} {tp : Nat} (hs : okSt S) (h15 : S.1 15 = nI tp) (htp : tp ≤ 2000)
    (hb : ¬ (0 ≤ x.toInt ∧ x.toInt ≤ tp) → Q (some (.int (-2))) (hp S))
    (h0 : ∀ n, x = nI n → n ≤ tp → ¬ okD (slice (stl S) 10000 (10000 + n)) = true → ∀ T, frC S T → T.1 15 = 0 → T.1 16 = 0 → T.1 17 = S.1 17 → T.1 18 = S.1 18 → okSt T → stl T = stl S → Q (some (.int (-1))) (hp T))
    (h1 : ∀ n, x = nI n → n ≤ tp → okD (slice (stl S) 10000 (10000 + n)) = true → ∀ r, lkO (els (slice (stl S) 10000 (10000 + n))) [] 0 = r → r.1 ≠ 0 → ∀ T, frC S T → T.1 15 = 0 → T.1 16 = 0 → T.1 17 = r.2.1 → T.1 18 = r.2.2 → okSt T → stl T = stl S → Q (some (.int (nI r.1 - 10))) (hp T))
    (h2 : ∀ n, x = nI n → n ≤ tp → okD (slice (stl S) 10000 (10000 + n)) = true → (lkO (els (slice (stl S) 10000 (10000 + n))) [] 0).1 = 0 → ∀ T, frC S T → T.1 15 = 0 → T.1 16 = 1 → T.1 17 = S.1 17 → T.1 18 = S.1 18 → okSt T → stl T = cpL (stl S) 8000 10000 n → Q (some (.int (nI (cntP (els (slice (stl S) 10000 (10000 + n))))))) (hp T)) :
    sm_V N (d + 5 + 1) mm_M_change 5 33 [.int x] (hp S) Q := by
  have hlen := stl_len S
  have z0 : (0 : Int32).toInt = 0 := rfl
  refine cM_change (hk_33 S) ⟨fun c => hb (fun y => ?_), fun c => ⟨_, hg_33_2 S, fun c2 => ?_, fun c2 => hb (fun y => c2 ?_)⟩⟩
  · rw [ti_lt] at c; omega
  · rw [ti_lt] at c
    rw [h15, ti_le, nI_t (by omega)] at c2
    obtain ⟨n, hn, rfl⟩ := nat_of (s := x) (m := tp + 1) (by omega) (by omega) (by omega)
    refine ⟨_, hu_33_2 S _, _, hu_33_6 _ _, ?_⟩
    have f1 : ∀ k, k ≠ 15 → k ≠ 19 → (sI (sI S 15 0) 19 0).1 k = S.1 k := fun k a b => by simp [sI, va_up, a, b]
    have a1 : (sI (sI S 15 0) 19 0).2.1 = S.2.1 := rfl
    have t1 : (sI (sI S 15 0) 19 0).1 15 = 0 := by simp [sI, va_up]
    have n1 : (sI (sI S 15 0) 19 0).1 19 = nI 0 := by simp [sI, va_up]; rfl
    generalize sI (sI S 15 0) 19 0 = S1 at *
    have st1 : stl S1 = stl S := by rw [stl, stl, a1]
    have ok1 : okSt S1 := fun i => by rw [a1]; exact hs i
    generalize hdoc : slice (stl S) 10000 (10000 + n) = doc at *
    refine sM_load (d := d) (p := 10000) (n := n) ok1 (by omega) n1 (by omega) (fun c T hT => ⟨_, rfl, _, hu_33_3 T _, fun z => absurd z (by decide), fun _ => ?_⟩) (fun cD T c2 fp hT hT19 hc2 hown hnx hRV hfp hfn => ⟨_, rfl, _, hu_33_3 T _, fun _ => ?_, fun z => absurd (by decide) z⟩)
    · rw [st1, hdoc] at c
      have i1 : ∀ k, k ≠ 16 → (sI T 16 0).1 k = T.1 k := fun k a => by simp [sI, va_up, a]
      have i16 : (sI T 16 0).1 16 = 0 := by simp [sI, va_up]
      have ia : (sI T 16 0).2.1 = T.2.1 := rfl
      generalize sI T 16 0 = U at *
      refine h0 n rfl (by omega) (by rw [hdoc]; exact c) U ⟨fun k q1 q2 q3 q4 q5 q6 => by rw [i1 k q2, hT.1 k q5, f1 k q1 q5], fun k q1 q2 q3 => by rw [ia, hT.2 k (by omega), a1]⟩ (by rw [i1 15 (by omega), hT.1 15 (by omega), t1]) i16 (by rw [i1 17 (by omega), hT.1 17 (by omega), f1 17 (by omega) (by omega)]) (by rw [i1 18 (by omega), hT.1 18 (by omega), f1 18 (by omega) (by omega)]) (fun i => by rw [ia]; exact frL_ok hT ok1 i) (by rw [← st1, ← frL_st hT, stl, stl, ia])
    · rw [st1, hdoc] at cD hRV
      have hdl : doc.length ≤ 2000 := by rw [← hdoc, slice_len (by omega)]; omega
      have i1 : ∀ k, k ≠ 16 → (sI T 16 0).1 k = T.1 k := fun k a => by simp [sI, va_up, a]
      have i16 : (sI T 16 0).1 16 = 0 := by simp [sI, va_up]
      have ia : (sI T 16 0).2 = T.2 := rfl
      generalize sI T 16 0 = U at *
      have hRU : RV 16 U 0 3 doc fp := RV_frame (by rw [stl, stl, ia]) hfn (fun i _ => by rw [sOwn, ia]; exact ⟨rfl, rfl, rfl, rfl, rfl, rfl, rfl, rfl⟩) (fun i _ _ => by rw [ia]) hRV
      have okU : okSt U := fun i => by rw [ia]; exact frL_ok hT ok1 i
      have stU : stl U = stl S := by rw [← st1, ← frL_st hT, stl, stl, ia]
      have fU : frC S U := ⟨fun k q1 q2 q3 q4 q5 q6 => by rw [i1 k q2, hT.1 k q5, f1 k q1 q5], fun k q1 q2 q3 => by rw [ia, hT.2 k (by omega), a1]⟩
      have u15 : U.1 15 = 0 := by rw [i1 15 (by omega), hT.1 15 (by omega), t1]
      have u17 : U.1 17 = S.1 17 := by rw [i1 17 (by omega), hT.1 17 (by omega), f1 17 (by omega) (by omega)]
      have u18 : U.1 18 = S.1 18 := by rw [i1 18 (by omega), hT.1 18 (by omega), f1 18 (by omega) (by omega)]
      have frX : ∀ V, frS U V → frC S V ∧ V.1 15 = 0 ∧ V.1 16 = 0 ∧ V.1 17 = S.1 17 ∧ V.1 18 = S.1 18 ∧ okSt V ∧ stl V = stl S := fun V hV => ⟨⟨fun k q1 q2 q3 q4 q5 q6 => by rw [hV.1 k q6]; exact fU.1 k q1 q2 q3 q4 q5 q6, fun k q1 q2 q3 => by rw [hV.2.1 k q2 q3]; exact fU.2 k q1 q2 q3⟩, by rw [hV.1 15 (by omega)]; exact u15, by rw [hV.1 16 (by omega)]; exact i16, by rw [hV.1 17 (by omega)]; exact u17, by rw [hV.1 18 (by omega)]; exact u18, frS_ok hV okU, (frS_st hV).trans stU⟩
      have hle := lkO_le (els doc) [] 0
      refine sM_look (d := d + 1) (raw := doc) okU hRU hfn hdl (fun z V hV => ⟨_, rfl, fun _ => ?_, fun q => absurd (by decide) q⟩) (fun z V hV => ⟨_, rfl, fun q => ?_, fun _ => ?_⟩)
      · obtain ⟨g1, g2, g3, g4, g5, g6, g7⟩ := frX V hV
        have key : ∀ (m i : Nat) (T2 : sT), i + m = n → eqS (cpL (stl S) 8000 10000 i) V T2 → sm_W N (d + 5 + 1) mm_M_change 63 [(0, .ref 33), (1, .int (nI n)), (2, .int (nI 0)), (4, .int (nI i))] [] (hp T2) Q := by
          intro m
          induction m with
          | zero =>
            intro i T2 hi e
            have : i = n := by omega
            subst this
            refine kM_change_63 ⟨fun _ => ⟨_, hu_33_3 T2 _, ?_⟩, fun c => absurd ((nI_leI (by omega) (by omega)).mpr (Nat.le_refl _)) c⟩
            have j1 : ∀ k, k ≠ 16 → (sI T2 16 1).1 k = T2.1 k := fun k a => by simp [sI, va_up, a]
            have j16 : (sI T2 16 1).1 16 = 1 := by simp [sI, va_up]
            have ja : (sI T2 16 1).2 = T2.2 := rfl
            generalize sI T2 16 1 = W at *
            have hWV : ∀ k, k ≠ 17 → W.2.1 k = V.2.1 k := fun k a => by rw [ja, eqS_a e a]
            have hWU : ∀ k, k ≠ 17 → k ≠ 31 → k ≠ 32 → W.2.1 k = U.2.1 k := fun k a b c => by rw [hWV k a, hV.2.1 k b c]
            refine ⟨_, hg_33_13 W, _, (hq_r W (by omega)).2.2.2.2.2.1, ?_⟩
            have hfin : Q (some (.int (nI (0 + cntP (els doc))))) (hp W) := by
              rw [Nat.zero_add]
              have h22 := h2 i rfl (by omega) (by rw [hdoc]; exact cD) (by rw [hdoc]; exact z) W ⟨fun k q1 q2 q3 q4 q5 q6 => by rw [j1 k q2, eqS_i e]; exact g1.1 k q1 q2 q3 q4 q5 q6, fun k q1 q2 q3 => by rw [hWV k (by omega)]; exact g1.2 k q1 q2 q3⟩ (by rw [j1 15 (by omega), eqS_i e]; exact g2) j16 (by rw [j1 17 (by omega), eqS_i e]; exact g4) (by rw [j1 18 (by omega), eqS_i e]; exact g5) (fun q => by rw [ja]; exact e.2.1 q) (by rw [← e.2.2, stl, stl, ja])
              rw [hdoc] at h22
              exact h22
            obtain ⟨-, -, -, hv2⟩ := hRU
            rcases hv2 with ⟨-, q⟩ | ⟨-, -, es, ks, f2, hraw, -, hK, hRL⟩
            · exact absurd (Or.inl rfl) (leaf_k q)
            · have hdl2 := hdl
              rw [hraw, encD_len] at hdl2
              have hel : els doc = es := by rw [hraw]; exact els_encD (RL_wf (by omega) hRL)
              rw [hel] at hfin z
              rw [hWU 23 (by omega) (by omega) (by omega)]
              exact ch_113 (S := U) (t := 14) (hWU 23 (by omega) (by omega) (by omega)) (hWU 24 (by omega) (by omega) (by omega)) ks es f2 0 0 _ hRL (lkO_3 es [] 0 z) (by omega) hK.1 hfin
          | succ m ih =>
            intro i T2 hi e
            obtain ⟨p1, p2⟩ := eqS_set (S := T2) (k := 8000 + i) (T2.2.1 17 (10000 + i)) e.2.1 (by omega)
            have p1' : sm_pb (hp T2) 34 (8000 + nI i) (T2.2.1 17 (10000 + i)) = some (hp (sA T2 17 (upd (T2.2.1 17) (8000 + i) (T2.2.1 17 (10000 + i)).toInt8.toInt32))) := by
              rw [nI_la]
              exact p1
            refine kM_change_63 ⟨fun c => absurd ((nI_leI (by omega) (by omega)).mp c) (by omega), fun _ => ⟨_, hg_33_1 T2, _, hg_33_1 T2, T2.2.1 17 (10000 + i), ?_, _, p1', ?_⟩⟩
            · rw [nI_la]
              exact hm_r T2 (by omega)
            · rw [nI_1]
              refine ih (i + 1) _ (by omega) ?_
              have e3 := eqS_tr e p2
              rw [← stl_get (by omega), e.2.2] at e3
              exact e3
        have e0 := eqS_id g6
        rw [g7] at e0
        exact key n 0 V (by omega) e0
      · rw [nI_lel (by omega) (by omega)] at q
        exact absurd (show (lkO (els doc) [] 0).1 = 0 by omega) z
      · obtain ⟨g1, g2, g3, g4, g5, g6, g7⟩ := frX V hV
        refine h1 n rfl (by omega) (by rw [hdoc]; exact cD) (lkO (els doc) [] 0) (by rw [hdoc]) z _ ⟨fun k q1 q2 q3 q4 q5 q6 => ?_, fun k q1 q2 q3 => g1.2 k q1 q2 q3⟩ ?_ ?_ ?_ ?_ g6 g7
        · rw [show (sI (sI V 17 (lkO (els doc) [] 0).2.1) 18 (lkO (els doc) [] 0).2.2).1 k = V.1 k by simp [sI, va_up, q3, q4]]
          exact g1.1 k q1 q2 q3 q4 q5 q6
        · simp [sI, va_up]; exact g2
        · simp [sI, va_up]; exact g3
        · simp [sI, va_up]
        · simp [sI, va_up]
  · rw [h15, ti_le, nI_t (by omega)]
    exact y.2
end Cg
