/-! the reference's print: the loop -/
def rowI (k : Nat) : Int32 := if k = 4 then 1 else 0
def othI (k i : Nat) : Int32 := if k = 4 then -1 - nI i else 0
theorem oth_t {i : Nat} (hi : i < 1000000) : (-1 - nI i).toInt = -1 - (i : Int) := by
  have h1 : (-1 : Int32).toInt = -1 := rfl
  rw [ti_sub (by rw [h1, nI_t (by omega)]; omega) (by rw [h1, nI_t (by omega)]; omega), h1, nI_t (by omega)]
theorem oth_n {i : Nat} (hi : i < 1000000) : (-1) - (-1 - nI i) = nI i := by
  have h1 : (-1 : Int32).toInt = -1 := rfl
  have h2 := oth_t hi
  rw [ti_eq, ti_sub (by rw [h1, h2]; omega) (by rw [h1, h2]; omega), h1, h2, nI_t (by omega)]
  omega
theorem oth_s {i : Nat} (hi : i + 1 < 1000000) : (-1 - nI i) - 1 = -1 - nI (i + 1) := by
  have h1 : (1 : Int32).toInt = 1 := rfl
  have h2 := oth_t (i := i) (by omega)
  have h3 := oth_t hi
  rw [ti_eq, ti_sub (by rw [h1, h2]; omega) (by rw [h1, h2]; omega), h1, h2, h3]
  omega
theorem oth_neg {k i : Nat} (hi : i < 1000000) : (if othI k i < 0 then (1 : Int32) else 0) = rowI k := by
  unfold othI rowI
  by_cases h : k = 4
  · rw [if_pos h, if_pos h, if_pos]
    rw [ti_lt, oth_t hi]
    have : (0 : Int32).toInt = 0 := rfl
    omega
  · rw [if_neg h, if_neg h, if_neg (by decide)]
theorem mxl_le {l : List Nat} {m : Nat} (h : ∀ a ∈ l, a ≤ m) : mxl l ≤ m := by
  induction l with
  | nil => exact Nat.zero_le _
  | cons a l ih =>
    have h1 := h a List.mem_cons_self
    have h2 := ih (fun b hb => h b (List.mem_cons_of_mem _ hb))
    show max a (mxl l) ≤ m
    omega
theorem dep_le : ∀ (t k : Nat) (raw : List Nat), dep t k raw ≤ t := by
  intro t
  induction t with
  | zero => intro k raw; exact Nat.le_refl _
  | succ t ih =>
    intro k raw
    rw [dep]
    split
    · have : mxl ((dcs raw.length (slice raw 4 (raw.length - 1))).map (fun e => dep t e.1 e.2.2)) ≤ t := mxl_le (fun a ha => by
        obtain ⟨e, -, rfl⟩ := List.mem_map.mp ha
        exact ih _ _)
      omega
    · omega
theorem scr {T : sT} {c o : Nat} {x : Int32} (hc : c = 26 ∨ c = 27 ∨ c = 28) (hw : okO T) : frP T (sA T c (upd (T.2.1 c) o x)) o ∧ okO (sA T c (upd (T.2.1 c) o x)) ∧ ol (sA T c (upd (T.2.1 c) o x)) = ol T := by
  have h29 : (sA T c (upd (T.2.1 c) o x)).2.1 29 = T.2.1 29 := by
    have : (29 : Nat) ≠ c := by omega
    simp [sA, va_up, this]
  have h20 : (sA T c (upd (T.2.1 c) o x)).1 = T.1 := rfl
  refine ⟨⟨fun _ _ _ => rfl, fun k hk => ?_, rfl, fun j hj => ?_⟩, ?_, ?_⟩
  · have : k ≠ c := by omega
    simp [sA, va_up, this]
  · have hj2 : j ≠ o := by omega
    refine ⟨?_, ?_, ?_⟩ <;> (simp only [sA, va_up]; split <;> simp_all [upd])
  · obtain ⟨n, h1, h2, h3⟩ := hw
    exact ⟨n, h1, h2, by rw [h29]; exact h3⟩
  · rw [ol, ol, h29, h20]
theorem scr_s {T : sT} {c o : Nat} {x : Int32} : (sA T c (upd (T.2.1 c) o x)).2.1 c o = x := by simp [sA, va_up, upd]
theorem scr_n {T : sT} {c b o j : Nat} {x : Int32} (h : b ≠ c) : (sA T c (upd (T.2.1 c) o x)).2.1 b j = T.2.1 b j := by simp [sA, va_up, h]
theorem scr_o {T : sT} {c b o j : Nat} {x : Int32} (h : j ≠ o) : (sA T c (upd (T.2.1 c) o x)).2.1 b j = T.2.1 b j := by
  simp only [sA, va_up]
  split
  · rename_i e
    subst e
    exact pk_un h
  · rfl
/-- the loop with a holder of kind kH open at place o: its children from here on -/
def prL (N t o : Nat) : Prop := ∀ (ks : List Nat) (d : Nat) (S T : sT) (es : List El) (fp : List Nat) (kH i p D : Nat) (Q : Option Value → sm_H → Prop), (kH = 3 ∨ kH = 4) → RL (RV t S) S kH i ks es fp → frP S T 0 → okO T → (ol T).length + (encs es).length ≤ 15000 → i + ks.length < 100000 → T.1 21 = nI D → o + 1 ≤ D → D ≤ 60 → Ch S (T.2.1 26 o) ks → T.2.1 27 o = nI p → T.2.1 28 o = othI kH i →
  (∀ T2, frP T T2 o → okO T2 → ol T2 = ol T ++ encs es → T2.1 21 = nI (max D (o + 1 + mxl (es.map (fun e => dep t e.1 e.2.2)))) → T2.2.1 26 o = -1 → T2.2.1 27 o = nI p → sm_W N (d + 3 + 1) mm_M_print 46 [(0, .ref 33), (2, .int (nI (o + 1))), (3, .int (rowI kH))] [] (hp T2) Q) →
  sm_W N (d + 3 + 1) mm_M_print 46 [(0, .ref 33), (2, .int (nI (o + 1))), (3, .int (rowI kH))] [] (hp T) Q
set_option maxHeartbeats 8000000 in
theorem pr_step {N t o : Nat} (hot : o + t ≤ 50) (hin : ∀ t', t = t' + 1 → prL N t' (o + 1)) : prL N t o := by
  intro ks
  induction ks with
  | nil =>
    intro d S T es fp kH i p D Q hkH hR hfr hw hl hi hD hoD hD6 hC h27 h28 hW
    cases es with
    | nil =>
      refine hW T (frP_rf T o) hw (by simp [encs]) ?_ hC h27
      rw [hD]
      exact congrArg nI (by simp [mxl]; omega)
    | cons e es => exact absurd hR (by simp [RL])
  | cons n ks ih =>
    intro d S T es fp kH i p D Q hkH hR hfr hw hl hi hD hoD hD6 hC h27 h28 hW
    cases es with
    | nil => exact absurd hR (by simp [RL])
    | cons e es =>
      obtain ⟨k, nm, raw⟩ := e
      obtain ⟨f1, f2, rfl, hnm, hz, hv, hr⟩ := hR
      obtain ⟨h26, hn, hC2⟩ := hC
      have e1 : nI (o + 1) - 1 = nI o := by rw [nI_sl (show 1 ≤ o + 1 by omega)]; rfl
      simp only at hnm hz hv
      rw [encs_cons, List.length_append, enc1_len] at hl
      simp only at hl
      rw [List.length_cons] at hi
      have hkb : k < 256 ∧ S.2.1 18 n = nI k := by
        cases t with
        | zero =>
          refine ⟨?_, hv.2.1⟩
          rcases hv.2.2.2.2.2 with ⟨rfl, -⟩ | ⟨rfl, -⟩ | ⟨rfl, -⟩ | ⟨rfl, -⟩ | ⟨rfl, -⟩ <;> omega
        | succ t =>
          refine ⟨?_, hv.2.1⟩
          rcases hv.2.2.2 with ⟨-, -, q⟩ | ⟨q, -⟩
          · rcases q with ⟨rfl, -⟩ | ⟨rfl, -⟩ | ⟨rfl, -⟩ | ⟨rfl, -⟩ | ⟨rfl, -⟩ <;> omega
          · omega
      have fin : ∀ T5, frP T T5 o → okO T5 → ol T5 = ol T ++ enc1 (k, nm, raw) → T5.1 21 = nI (max D (o + 1 + dep t k raw)) → T5.2.1 26 o = S.2.1 24 n → T5.2.1 27 o = nI p → T5.2.1 28 o = othI kH (i + 1) → sm_W N (d + 3 + 1) mm_M_print 46 [(0, .ref 33), (2, .int (nI (o + 1))), (3, .int (rowI kH))] [] (hp T5) Q := by
        intro T5 g1 g2 g3 g4 g5 g6 g7
        have hdl := dep_le t k raw
        have hlen5 : (ol T5).length = (ol T).length + (2 + nm.length + raw.length) := by rw [g3, List.length_append, enc1_len]
        refine ih d S T5 es f2 kH (i + 1) p (max D (o + 1 + dep t k raw)) Q hkH hr (frP_tr hfr (frP_le g1 (by omega))) g2 (by rw [hlen5]; omega) (by omega) g4 (by omega) (by omega) (by rw [g5]; exact hC2) g6 g7 (fun T6 k1 k2 k3 k4 k5 k6 => hW T6 (frP_tr g1 k1) k2 ?_ ?_ k5 k6)
        · rw [k3, g3, List.append_assoc, encs_cons]
        · rw [k4]
          refine congrArg nI ?_
          show _ = max D (o + 1 + max (dep t k raw) (mxl (es.map (fun e => dep t e.1 e.2.2))))
          omega
      have w244 : ∀ T4, frP T T4 o → okO T4 → ol T4 = ol T ++ (k :: (nm ++ [0])) → T4.1 21 = nI D → T4.2.1 26 o = S.2.1 24 n → T4.2.1 27 o = nI p → sm_W N (d + 3 + 1) mm_M_print 244 [(0, .ref 33), (2, .int (nI (o + 1))), (3, .int (rowI kH)), (5, .int (nI n))] [.int (othI kH (i + 1)), .int (nI o), .ref 46] (hp T4) Q := by
        intro T4 g1 g2 g3 g4 g5 g6
        obtain ⟨s1, s2, s3⟩ := scr (T := T4) (c := 28) (o := o) (x := othI kH (i + 1)) (Or.inr (Or.inr rfl)) g2
        have u26 : (sA T4 28 (upd (T4.2.1 28) o (othI kH (i + 1)))).2.1 26 o = S.2.1 24 n := by rw [scr_n (by omega)]; exact g5
        have u27 : (sA T4 28 (upd (T4.2.1 28) o (othI kH (i + 1)))).2.1 27 o = nI p := by rw [scr_n (by omega)]; exact g6
        have u28 : (sA T4 28 (upd (T4.2.1 28) o (othI kH (i + 1)))).2.1 28 o = othI kH (i + 1) := scr_s
        have uD : (sA T4 28 (upd (T4.2.1 28) o (othI kH (i + 1)))).1 21 = nI D := g4
        refine kM_print_244 ⟨_, (hs_w T4 (by omega) _).2.2, ?_⟩
        generalize sA T4 28 (upd (T4.2.1 28) o (othI kH (i + 1))) = T5 at *
        rw [g3] at s3
        have F5 : frP T T5 o := frP_tr g1 s1
        have G5 : frP S T5 0 := frP_tr hfr (frP_le F5 (by omega))
        have k5 : T5.2.1 18 n = nI k := by rw [G5.2.1 18 (by omega)]; exact hkb.2
        have hl5 : (ol T5).length = (ol T).length + 2 + nm.length := by rw [s3]; simp; omega
        have w267 : (k = 3 ∨ k = 4) → sm_W N (d + 3 + 1) mm_M_print 267 [(0, .ref 33), (2, .int (nI (o + 1))), (5, .int (nI n))] [] (hp T5) Q := by
          intro hk34
          obtain ⟨t', rfl⟩ : ∃ t', t = t' + 1 := by
            cases t with
            | zero => exact absurd hk34 (leaf_k hv.2.2.2.2)
            | succ t => exact ⟨t, rfl⟩
          rcases hv.2.2.2 with ⟨-, q⟩ | ⟨-, q0, es2, ks2, fq, rfl, -, hKd, hR2⟩
          · exact absurd hk34 (leaf_k q)
          · rw [encD_len] at hl
            have w321 : ∀ T7, frP T5 T7 (o + 1) → okO T7 → ol T7 = ol T5 → T7.1 21 = nI D → T7.2.1 26 (o + 1) = S.2.1 23 n → T7.2.1 27 (o + 1) = nI (ol T5).length → sm_W N (d + 3 + 1) mm_M_print 321 [(0, .ref 33), (2, .int (nI (o + 1))), (3, .int (rowI k))] [.int (othI k 0), .int (nI (o + 1)), .ref 46] (hp T7) Q := by
              intro T7 r1 r2 r3 r4 r5 r6
              obtain ⟨v1, v2, v3⟩ := scr (T := T7) (c := 28) (o := o + 1) (x := othI k 0) (Or.inr (Or.inr rfl)) r2
              have v26 : (sA T7 28 (upd (T7.2.1 28) (o + 1) (othI k 0))).2.1 26 (o + 1) = S.2.1 23 n := by rw [scr_n (by omega)]; exact r5
              have v27 : (sA T7 28 (upd (T7.2.1 28) (o + 1) (othI k 0))).2.1 27 (o + 1) = nI (ol T5).length := by rw [scr_n (by omega)]; exact r6
              have v28 : (sA T7 28 (upd (T7.2.1 28) (o + 1) (othI k 0))).2.1 28 (o + 1) = othI k 0 := scr_s
              have vD : (sA T7 28 (upd (T7.2.1 28) (o + 1) (othI k 0))).1 21 = nI D := r4
              refine kM_print_321 ⟨_, (hs_w T7 (by omega) _).2.2, ?_⟩
              generalize sA T7 28 (upd (T7.2.1 28) (o + 1) (othI k 0)) = T8 at *
              rw [r3] at v3
              have F8 : frP T5 T8 (o + 1) := frP_tr r1 v1
              refine sM_writeLow (n := 4) v2 (by omega) (by rw [v3]; omega) (fun T9 t9 => ⟨rfl, _, hg_33_20 T9, ?_⟩)
              rw [v3, show lw 0 4 = [0, 0, 0, 0] from by decide] at t9
              have F9 : frP T5 T9 (o + 1) := frP_tr F8 (frP_O t9 (o + 1))
              have x26 : T9.2.1 26 (o + 1) = S.2.1 23 n := by rw [eqO_a t9 (by omega)]; exact v26
              have x27 : T9.2.1 27 (o + 1) = nI (ol T5).length := by rw [eqO_a t9 (by omega)]; exact v27
              have x28 : T9.2.1 28 (o + 1) = othI k 0 := by rw [eqO_a t9 (by omega)]; exact v28
              have xD : T9.1 21 = nI D := by rw [eqO_i t9 (by omega)]; exact vD
              have w348 : sm_W N (d + 3 + 1) mm_M_print 348 [(0, .ref 33), (2, .int (nI (o + 2))), (3, .int (rowI k))] [.int (nI (max D (o + 2))), .ref 33] (hp T9) Q := by
                refine kM_print_348 ⟨_, hu_33_20 T9 _, kM_print_360 ?_⟩
                have FF : frP T9 (sI T9 21 (nI (max D (o + 2)))) (o + 1) := ⟨fun j _ h2 => by simp [sI, va_up, h2], fun _ _ => rfl, rfl, fun _ _ => ⟨rfl, rfl, rfl⟩⟩
                have ow : okO (sI T9 21 (nI (max D (o + 2)))) := by
                  obtain ⟨m, m1, m2, m3⟩ := t9.2.1
                  exact ⟨m, m1, by simp [sI, va_up, m2], m3⟩
                have oo : ol (sI T9 21 (nI (max D (o + 2)))) = ol T5 ++ [0, 0, 0, 0] := by
                  rw [← t9.2.2]
                  simp [ol, sI, va_up]
                have y21 : (sI T9 21 (nI (max D (o + 2)))).1 21 = nI (max D (o + 2)) := by simp [sI, va_up]
                have y26 : (sI T9 21 (nI (max D (o + 2)))).2.1 26 (o + 1) = S.2.1 23 n := x26
                have y27 : (sI T9 21 (nI (max D (o + 2)))).2.1 27 (o + 1) = nI (ol T5).length := x27
                have y28 : (sI T9 21 (nI (max D (o + 2)))).2.1 28 (o + 1) = othI k 0 := x28
                generalize sI T9 21 (nI (max D (o + 2))) = T10 at *
                have F10 : frP T5 T10 (o + 1) := frP_tr F9 FF
                have hes := RL_len hR2
                have hel : ∀ l : List El, l.length ≤ (encs l).length := by
                  intro l
                  induction l with
                  | nil => simp
                  | cons a l ih2 => rw [encs_cons, List.length_append, enc1_len, List.length_cons]; omega
                have hel2 := hel es2
                have hwf := RL_wf (by omega) hR2
                refine hin t' rfl ks2 d S T10 es2 fq k 0 (ol T5).length (max D (o + 2)) Q hk34 hR2 (frP_tr G5 (frP_le F10 (by omega))) ow (by rw [oo, List.length_append]; simp; omega) (by omega) y21 (by omega) (by omega) (by rw [y26]; exact hKd.1) y27 y28 (fun T11 z1 z2 z3 z4 z5 z6 => ?_)
                rw [oo, List.append_assoc] at z3
                have z28 : T11.2.1 28 o = othI kH (i + 1) := by rw [(z1.2.2.2 o (by omega)).2.2, (F10.2.2.2 o (by omega)).2.2]; exact u28
                refine pr_close (o := o + 1) (by omega) z2 z3 rfl (by omega) z5 z6 (fun T12 t12 => ?_)
                rw [if_neg (by omega), show o + 1 - 1 = o by omega, z28, oth_neg (by omega)]
                have F12 : frP T5 T12 (o + 1) := frP_tr F10 (frP_tr z1 (frP_O t12 (o + 1)))
                refine fin T12 (frP_tr F5 (frP_le F12 (by omega))) t12.2.1 ?_ ?_ ?_ ?_ ?_
                · rw [t12.2.2, s3, List.append_assoc]
                  simp [enc1, encD]
                · rw [eqO_i t12 (by omega), z4, dep_h hk34 hwf]
                  exact congrArg nI (by omega)
                · rw [(F12.2.2.2 o (by omega)).1]; exact u26
                · rw [(F12.2.2.2 o (by omega)).2.1]; exact u27
                · rw [(F12.2.2.2 o (by omega)).2.2]; exact u28
              rw [xD, nI_1]
              refine ⟨fun c => ⟨_, hg_33_20 T9, ?_⟩, fun c => ?_⟩
              · rw [nI_leI (by omega) (by omega)] at c
                rw [show max D (o + 2) = D by omega] at w348
                rw [xD]
                exact w348
              · rw [nI_leI (by omega) (by omega)] at c
                rw [show max D (o + 2) = o + 2 by omega] at w348
                exact w348
            have w283 : sm_W N (d + 3 + 1) mm_M_print 283 [(0, .ref 33), (2, .int (nI (o + 1))), (5, .int (nI n))] [.int (rowI k)] (hp T5) Q := by
              refine kM_print_283 ⟨_, hg_33_16 T5, _, hg_33_13 T5, _, (hq_r T5 hn).2.2.2.2.2.1, _, (hs_w T5 (by omega) _).1, ?_⟩
              obtain ⟨a1, a2, a3⟩ := scr (T := T5) (c := 26) (o := o + 1) (x := T5.2.1 23 n) (Or.inl rfl) s2
              have b26 : (sA T5 26 (upd (T5.2.1 26) (o + 1) (T5.2.1 23 n))).2.1 26 (o + 1) = S.2.1 23 n := by rw [scr_s, G5.2.1 23 (by omega)]
              have bD : (sA T5 26 (upd (T5.2.1 26) (o + 1) (T5.2.1 23 n))).1 21 = nI D := uD
              generalize sA T5 26 (upd (T5.2.1 26) (o + 1) (T5.2.1 23 n)) = T6 at *
              refine ⟨_, hg_33_17 T6, _, hg_33_19 T6, _, (hs_w T6 (by omega) _).2.1, ?_⟩
              obtain ⟨c1, c2, c3⟩ := scr (T := T6) (c := 27) (o := o + 1) (x := T6.1 20) (Or.inr (Or.inl rfl)) a2
              have d26 : (sA T6 27 (upd (T6.2.1 27) (o + 1) (T6.1 20))).2.1 26 (o + 1) = S.2.1 23 n := by rw [scr_n (by omega)]; exact b26
              have d27 : (sA T6 27 (upd (T6.2.1 27) (o + 1) (T6.1 20))).2.1 27 (o + 1) = nI (ol T5).length := by rw [scr_s, (ok_sz a2).1, a3]
              have dD : (sA T6 27 (upd (T6.2.1 27) (o + 1) (T6.1 20))).1 21 = nI D := bD
              generalize sA T6 27 (upd (T6.2.1 27) (o + 1) (T6.1 20)) = T7 at *
              have hw7 := w321 T7 (frP_tr a1 c1) c2 (c3.trans a3) dD d26 d27
              refine ⟨_, hg_33_18 T7, fun c => ?_, fun c => ?_⟩
              · have k4 : k ≠ 4 := by intro z; rw [rowI, if_pos z] at c; exact absurd c (by decide)
                rw [othI, if_neg k4] at hw7
                exact hw7
              · have k4 : k = 4 := by
                  by_cases z : k = 4
                  · exact z
                  · rw [rowI, if_neg z] at c; exact absurd rfl c
                rw [othI, if_pos k4, show (-1 : Int32) - nI 0 = -1 from by decide] at hw7
                exact hw7
            refine kM_print_267 ⟨_, hg_33_7 T5, _, (hq_r T5 hn).1, ?_⟩
            rw [k5]
            refine ⟨fun c => ?_, fun c => ?_⟩
            · rw [nI_eql (by omega) (by omega)] at c
              rw [rowI, if_pos c] at w283
              exact w283
            · rw [nI_eql (by omega) (by omega)] at c
              rw [rowI, if_neg c] at w283
              exact w283
        refine ⟨_, hg_33_7 T5, _, (hq_r T5 hn).1, ?_⟩
        rw [k5]
        refine ⟨fun c => ?_, fun c => ⟨_, hg_33_7 T5, _, (hq_r T5 hn).1, ?_⟩⟩
        · rw [nI_eql (by omega) (by omega)] at c
          exact w267 (Or.inl c)
        · rw [k5]
          refine ⟨fun c2 => ?_, fun c2 => ?_⟩
          · rw [nI_eql (by omega) (by omega)] at c2
            exact w267 (Or.inr c2)
          · rw [nI_eql (by omega) (by omega)] at c c2
            have hk34 : ¬ (k = 3 ∨ k = 4) := fun z => z.elim c c2
            have hlf : leafV S n k raw ∧ ∀ b ∈ raw, b < 256 := by
              cases t with
              | zero => exact ⟨hv.2.2.2.2, hv.2.2.1⟩
              | succ t =>
                refine ⟨?_, hv.2.2.1⟩
                rcases hv.2.2.2 with ⟨-, q⟩ | ⟨q, -⟩
                · exact q
                · exact absurd q hk34
            refine sM_writeValue (d := d) s2 hn k5 (leafV_frame (frP_own G5 n) (frP_st G5) hlf.1) hlf.2 (by omega) (fun T6 t6 => ⟨rfl, kM_print_360 (fin T6 (frP_tr F5 (frP_O t6 o)) t6.2.1 ?_ ?_ ?_ ?_ ?_)⟩)
            · rw [t6.2.2, s3, List.append_assoc]
              simp [enc1]
            · rw [eqO_i t6 (by omega), uD, dep_l hk34]
              exact congrArg nI (by omega)
            · rw [eqO_a t6 (by omega)]; exact u26
            · rw [eqO_a t6 (by omega)]; exact u27
            · rw [eqO_a t6 (by omega)]; exact u28
      refine kM_print_46 ⟨fun c => ?_, fun _ => ?_⟩
      · rw [nI_lel (by omega) (by omega)] at c
        omega
      · rw [e1]
        refine ⟨_, hg_33_16 T, _, (hs_r T (by omega)).1, ?_⟩
        rw [h26]
        refine ⟨fun _ => ?_, fun c => absurd (nI_pos' (by omega)) c⟩
        refine ⟨_, hg_33_16 T, _, hg_33_14 T, _, (hq_r T hn).2.2.2.2.2.2.1, _, (hs_w T (by omega) _).1, ?_⟩
        obtain ⟨s1, s2, s3⟩ := scr (T := T) (c := 26) (o := o) (x := T.2.1 24 n) (Or.inl rfl) hw
        have u26 : (sA T 26 (upd (T.2.1 26) o (T.2.1 24 n))).2.1 26 o = S.2.1 24 n := by rw [scr_s, hfr.2.1 24 (by omega)]
        have u27 : (sA T 26 (upd (T.2.1 26) o (T.2.1 24 n))).2.1 27 o = nI p := by rw [scr_n (by omega)]; exact h27
        have u28 : (sA T 26 (upd (T.2.1 26) o (T.2.1 24 n))).2.1 28 o = othI kH i := by rw [scr_n (by omega)]; exact h28
        have uD : (sA T 26 (upd (T.2.1 26) o (T.2.1 24 n))).1 21 = nI D := hD
        generalize sA T 26 (upd (T.2.1 26) o (T.2.1 24 n)) = T1 at *
        have hfr1 : frP S T1 0 := frP_tr hfr (frP_le s1 (by omega))
        refine ⟨_, hg_33_7 T1, _, (hq_r T1 hn).1, ?_⟩
        rw [hfr1.2.1 18 (by omega), hkb.2]
        refine sM_write s2 (by rw [s3]; omega) (fun T2 t2 => ⟨rfl, ?_⟩)
        rw [ub_nI hkb.1, s3] at t2
        have hl2 : (ol T2).length = (ol T).length + 1 := by rw [t2.2.2]; simp
        have w216 : ∀ T3, eqO (ol T ++ (k :: nm)) T1 T3 → sm_W N (d + 3 + 1) mm_M_print 216 [(0, .ref 33), (2, .int (nI (o + 1))), (3, .int (rowI kH)), (4, .int (nI o)), (5, .int (nI n))] [] (hp T3) Q := by
          intro T3 t3
          have hl3 : (ol T3).length = (ol T).length + 1 + nm.length := by rw [t3.2.2]; simp; omega
          refine kM_print_216 (sM_write t3.2.1 (by omega) (fun T4 t4 => ⟨rfl, _, hg_33_18 T4, ?_⟩))
          have t14 := eqO_tr t3 t4
          rw [t3.2.2, show ub 0 = 0 from rfl, List.append_assoc] at t14
          have hw4 := w244 T4 (frP_tr s1 (frP_O t14 o)) t14.2.1 t14.2.2 (by rw [eqO_i t14 (by omega)]; exact uD) (by rw [eqO_a t14 (by omega)]; exact u26) (by rw [eqO_a t14 (by omega)]; exact u27)
          have h284 : T4.2.1 28 o = othI kH i := by rw [eqO_a t14 (by omega)]; exact u28
          refine ⟨fun c => ?_, fun c => ⟨_, hg_33_18 T4, _, (hs_r T4 (by omega)).2.2, ?_⟩⟩
          · have k4 : kH ≠ 4 := by intro z; rw [rowI, if_pos z] at c; exact absurd c (by decide)
            rw [othI, if_neg k4] at hw4
            exact hw4
          · have k4 : kH = 4 := by
              by_cases z : kH = 4
              · exact z
              · rw [rowI, if_neg z] at c; exact absurd rfl c
            rw [h284]
            rw [othI, if_pos k4] at hw4 ⊢
            rw [oth_s (by omega)]
            exact hw4
        refine ⟨fun c => ?_, fun c => ?_⟩
        · have k4 : kH ≠ 4 := by intro z; rw [rowI, if_pos z] at c; exact absurd c (by decide)
          rw [if_neg k4] at hnm
          obtain ⟨a, n1, n2, n3, n4⟩ := hnm
          refine ⟨_, hg_33_8 T2, _, (hq_r T2 hn).2.1, _, hg_33_9 T2, _, (hq_r T2 hn).2.2.1, ?_⟩
          have hfr2 : frP S T2 0 := frP_tr hfr1 (frP_O t2 0)
          rw [hfr2.2.1 19 (by omega), hfr2.2.1 20 (by omega), n1, n2]
          refine sM_writeBytes t2.2.1 n3 (by omega) (fun T3 t3 => ⟨rfl, w216 T3 ?_⟩)
          have t13 := eqO_tr t2 t3
          rw [t2.2.2, frP_st hfr2, n4, List.append_assoc] at t13
          exact t13
        · have k4 : kH = 4 := by
            by_cases z : kH = 4
            · exact z
            · rw [rowI, if_neg z] at c; exact absurd rfl c
          rw [if_pos k4] at hnm
          refine ⟨_, hg_33_18 T2, _, (hs_r T2 (by omega)).2.2, ?_⟩
          rw [eqO_a t2 (by omega), u28, othI, if_pos k4, oth_n (by omega)]
          have hnl : nm.length = nd i + 1 := by rw [hnm, dg_len]
          refine sM_writeDigits t2.2.1 (by omega) (by omega) (fun T3 t3 => ⟨rfl, w216 T3 ?_⟩)
          have t13 := eqO_tr t2 t3
          rw [t2.2.2, ← hnm, List.append_assoc] at t13
          exact t13
theorem pr_loop {N : Nat} : ∀ (t o : Nat), o + t ≤ 50 → prL N t o := by
  intro t
  induction t with
  | zero => intro o h; exact pr_step h (fun t' ht => by omega)
  | succ t ih =>
    intro o h
    refine pr_step h (fun t' ht => ?_)
    have : t' = t := by omega
    subst this
    exact ih (o + 1) (by omega)
