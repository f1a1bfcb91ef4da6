/-! the reference's print, take and read -/
section Pr3
variable {N d : Nat} {Q : Option Value → sm_H → Prop}
theorem sM_print {S : sT} {n t : Nat} {raw fp : List Nat} (hO : ∀ i, sB (S.2.1 29 i)) (ht : t ≤ 50) (hv : RV (t + 1) S n 3 raw fp) (hl : raw.length ≤ 15000) (hQ : ∀ T, frP S T 0 → okO T → ol T = raw → T.1 21 = nI (dep (t + 1) 3 raw) → Q none (hp T)) : sm_V N (d + 3 + 1) mm_M_print 5 33 [.int (nI n)] (hp S) Q := by
  obtain ⟨hn, hk, hb, hv⟩ := hv
  rcases hv with ⟨-, q⟩ | ⟨-, -, es, ks, f2, rfl, -, hK, hR⟩
  · exact absurd (Or.inl rfl) (leaf_k q)
  · rw [encD_len] at hl
    refine cM_print (hk_33 S) ⟨_, hu_33_19 S _, _, hu_33_20 _ _, ?_⟩
    have hw2 : okO (sI (sI S 20 0) 21 1) := ⟨0, by omega, by simp [sI, va_up]; rfl, hO⟩
    have ol2 : ol (sI (sI S 20 0) 21 1) = [] := by
      rw [ol_eq (n := 0) (by omega) (by simp [sI, va_up]; rfl)]
      rfl
    have f02 : frP S (sI (sI S 20 0) 21 1) 0 := ⟨fun k h1 h2 => by simp [sI, va_up, h1, h2], fun _ _ => rfl, rfl, fun j hj => absurd hj (by omega)⟩
    have d2 : (sI (sI S 20 0) 21 1).1 21 = nI 1 := by simp [sI, va_up]; rfl
    generalize sI (sI S 20 0) 21 1 = T2 at *
    refine sM_writeLow (n := 4) hw2 (by omega) (by rw [ol2]; simp) (fun T3 t3 => ⟨rfl, ?_⟩)
    rw [ol2, show lw 0 4 = [0, 0, 0, 0] from by decide, List.nil_append] at t3
    have f03 : frP S T3 0 := frP_tr f02 (frP_O t3 0)
    have d3 : T3.1 21 = nI 1 := by rw [eqO_i t3 (by omega)]; exact d2
    refine ⟨_, hg_33_16 T3, _, hg_33_13 T3, _, (hq_r T3 hn).2.2.2.2.2.1, _, (hs_w T3 (k := 0) (by omega) _).1, ?_⟩
    obtain ⟨a1, a2, a3⟩ := scr (T := T3) (c := 26) (o := 0) (x := T3.2.1 23 n) (Or.inl rfl) t3.2.1
    have a26 : (sA T3 26 (upd (T3.2.1 26) 0 (T3.2.1 23 n))).2.1 26 0 = S.2.1 23 n := by rw [scr_s, f03.2.1 23 (by omega)]
    have ad : (sA T3 26 (upd (T3.2.1 26) 0 (T3.2.1 23 n))).1 21 = nI 1 := d3
    generalize sA T3 26 (upd (T3.2.1 26) 0 (T3.2.1 23 n)) = T4 at *
    refine ⟨_, hg_33_17 T4, _, (hs_w T4 (k := 0) (by omega) _).2.1, ?_⟩
    obtain ⟨b1, b2, b3⟩ := scr (T := T4) (c := 27) (o := 0) (x := 0) (Or.inr (Or.inl rfl)) a2
    have b26 : (sA T4 27 (upd (T4.2.1 27) 0 0)).2.1 26 0 = S.2.1 23 n := by rw [scr_n (by omega)]; exact a26
    have b27 : (sA T4 27 (upd (T4.2.1 27) 0 0)).2.1 27 0 = nI 0 := by rw [scr_s]; rfl
    have bd : (sA T4 27 (upd (T4.2.1 27) 0 0)).1 21 = nI 1 := ad
    generalize sA T4 27 (upd (T4.2.1 27) 0 0) = T5 at *
    refine ⟨_, hg_33_18 T5, _, (hs_w T5 (k := 0) (by omega) _).2.2, ?_⟩
    obtain ⟨c1, c2, c3⟩ := scr (T := T5) (c := 28) (o := 0) (x := 0) (Or.inr (Or.inr rfl)) b2
    have c26 : (sA T5 28 (upd (T5.2.1 28) 0 0)).2.1 26 0 = S.2.1 23 n := by rw [scr_n (by omega)]; exact b26
    have c27 : (sA T5 28 (upd (T5.2.1 28) 0 0)).2.1 27 0 = nI 0 := by rw [scr_n (by omega)]; exact b27
    have c28 : (sA T5 28 (upd (T5.2.1 28) 0 0)).2.1 28 0 = othI 3 0 := by rw [scr_s]; rfl
    have cd : (sA T5 28 (upd (T5.2.1 28) 0 0)).1 21 = nI 1 := bd
    generalize sA T5 28 (upd (T5.2.1 28) 0 0) = T6 at *
    have f06 : frP S T6 0 := frP_tr f03 (frP_tr a1 (frP_tr b1 c1))
    have o6 : ol T6 = [0, 0, 0, 0] := by rw [c3, b3, a3, t3.2.2]
    have hes := RL_len hR
    have hel : ∀ l : List El, l.length ≤ (encs l).length := by
      intro l
      induction l with
      | nil => simp
      | cons a l ih2 => rw [encs_cons, List.length_append, enc1_len, List.length_cons]; omega
    have hel2 := hel es
    refine pr_loop t 0 (by omega) ks d S T6 es f2 3 0 0 1 Q (Or.inl rfl) hR f06 c2 (by rw [o6]; simp; omega) (by omega) cd (by omega) (by omega) (by rw [c26]; exact hK.1) c27 c28 (fun T7 z1 z2 z3 z4 z5 z6 => ?_)
    rw [o6] at z3
    refine pr_close (a := []) (b := encs es) (o := 0) (by omega) z2 z3 rfl (by simp; omega) z5 z6 (fun T8 t8 => ?_)
    refine kM_print_46 ⟨fun _ => hQ T8 (frP_tr f06 (frP_tr z1 (frP_O t8 0))) t8.2.1 t8.2.2 ?_, fun c => absurd (by decide) c⟩
    rw [eqO_i t8 (by omega), z4, dep_h (Or.inl rfl) (RL_wf (by omega) hR)]
    exact congrArg nI (by omega)
end Pr3
