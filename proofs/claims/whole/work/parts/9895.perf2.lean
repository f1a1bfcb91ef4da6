/-! the class's editor: perform -/
def rnF : List (Nat × Nat × Nat × El) → Nat → List Nat → Nat × Nat × Nat × Nat × List Nat
  | [], m, raw => (0, 0, 0, m, raw)
  | q :: r, m, raw => if (doP q.1 q.2.2.2 raw).1 = 0 then rnF r (m + (if (doP q.1 q.2.2.2 raw).2 = raw then 0 else 1)) (doP q.1 q.2.2.2 raw).2 else ((doP q.1 q.2.2.2 raw).1, q.2.1, q.2.2.1, m, raw)
theorem rnF_P (op o : Nat) (rest : List (Nat × Nat × Nat × El)) : ∀ (es : List El) (p m : Nat) (raw : List Nat), rnF (flP op o es p ++ rest) m raw = if (rnP op es p m raw).1 = 0 then rnF rest (rnP op es p m raw).2.2.1 (rnP op es p m raw).2.2.2 else ((rnP op es p m raw).1, o, (rnP op es p m raw).2) := by
  intro es
  induction es with
  | nil => intro p m raw; rw [flP, rnP, List.nil_append, if_pos rfl]
  | cons a es ih =>
    intro p m raw
    rw [flP, List.cons_append, rnF, rnP]
    by_cases c : (doP op a raw).1 = 0
    · rw [if_pos c, if_pos c]
      exact ih _ _ _
    · rw [if_neg c, if_neg c, if_neg c]
theorem rnF_O : ∀ (es : List El) (o m : Nat) (raw : List Nat), (rnF (flO es o) m raw).1 = (rnO es o m raw).1 ∧ ((rnO es o m raw).1 ≠ 0 → rnF (flO es o) m raw = rnO es o m raw) ∧ (rnF (flO es o) m raw).2.2.2 = (rnO es o m raw).2.2.2 := by
  intro es
  induction es with
  | nil => intro o m raw; exact ⟨rfl, fun h => absurd rfl h, rfl⟩
  | cons e es ih =>
    intro o m raw
    rw [flO, rnF_P, rnO]
    by_cases c : (rnP (opOf e.2.1) (els e.2.2) 0 m raw).1 = 0
    · rw [if_pos c, if_pos c]
      exact ih _ _ _
    · rw [if_neg c, if_neg c]
      exact ⟨rfl, fun _ => rfl, rfl⟩
def csum : List (Nat × Nat × Nat × El) → Nat
  | [] => 0
  | q :: r => (2 + q.2.2.2.2.1.length + q.2.2.2.2.2.length) + csum r
def frF (S T : sT) : Prop := (∀ k, (k < 7 ∨ 13 < k) → k ≠ 37 → k ≠ 39 → k ≠ 40 → T.1 k = S.1 k) ∧ (∀ k, k ≠ 7 → k ≠ 9 → k ≠ 10 → k ≠ 16 → T.2.1 k = S.2.1 k) ∧ T.2.2 = S.2.2
theorem frF_rf (S : sT) : frF S S := ⟨fun _ _ _ _ _ => rfl, fun _ _ _ _ _ => rfl, rfl⟩
theorem frF_tr {S T U : sT} (h1 : frF S T) (h2 : frF T U) : frF S U := ⟨fun k a b c e => (h2.1 k a b c e).trans (h1.1 k a b c e), fun k a b c e => (h2.2.1 k a b c e).trans (h1.2.1 k a b c e), h2.2.2.trans h1.2.2⟩
theorem frE_F {S T : sT} (h : frE S T) : frF S T := ⟨fun k a b c e => h.1 k (by omega) b c e, h.2.1, h.2.2⟩
theorem frF_sI (S : sT) {k : Nat} (hk : 7 ≤ k ∧ k ≤ 13) (x : Int32) : frF S (sI S k x) := ⟨fun i a _ _ _ => by simp only [sI, va_up]; rw [if_neg (by omega)], fun _ _ _ _ _ => rfl, rfl⟩
theorem frF_6 {S T : sT} (h : frF S T) : bl T 6 = bl S 6 := by rw [bl, bl, h.1 _ (by omega) (by omega) (by omega) (by omega), h.2.1 _ (by omega) (by omega) (by omega) (by omega)]
theorem EdO_sI2 {S : sT} (hE : EdO S) {k : Nat} (hk : k < 30) (x : Int32) : EdO (sI S k x) := ⟨okB_sI (by omega) hE.1, okB_sI (by omega) hE.2.1, okB_sI (by omega) hE.2.2.1, okB_sI (by omega) hE.2.2.2.1, okB_sI (by omega) hE.2.2.2.2.1, by rw [bl_sI (by omega)]; exact hE.2.2.2.2.2⟩
theorem PlA_F {S T : sT} {ps : List Pth} (h : frF S T) (hP : PlA S ps) : PlA T ps := PlA_i (h.1 4 (by omega) (by omega) (by omega) (by omega)) (fun k _ _ => h.2.1 k (by omega) (by omega) (by omega) (by omega)) (frF_6 h) hP
section Pe
variable {N d : Nat} {Q : Option Value → sm_H → Prop}
theorem hpl_r (S : sT) {k : Nat} (hk : k < 1000) : sm_gi (hp S) 5 1 (nI k) = some (S.2.1 12 k) ∧ sm_gi (hp S) 6 1 (nI k) = some (S.2.1 13 k) ∧ sm_gi (hp S) 7 1 (nI k) = some (S.2.1 14 k) ∧ sm_gi (hp S) 8 1 (nI k) = some (S.2.1 15 k) := by
  refine ⟨?_, ?_, ?_, ?_⟩
  · rw [ha_5, nI_t (by omega), if_pos ⟨by omega, by omega⟩, nI_clamp (by omega)]
  · rw [ha_6, nI_t (by omega), if_pos ⟨by omega, by omega⟩, nI_clamp (by omega)]
  · rw [ha_7, nI_t (by omega), if_pos ⟨by omega, by omega⟩, nI_clamp (by omega)]
  · rw [ha_8, nI_t (by omega), if_pos ⟨by omega, by omega⟩, nI_clamp (by omega)]
theorem sP_of {S : sT} {ps : List Pth} {i : Nat} {p : Pth} (hP : PlA S ps) (hi : ps[i]? = some p) (hl : ps.length ≤ 999) : (Q (some (.int (nI p.1))) (hp S) → sm_V N (d + 1) mm_P_elementOf 3 4 [.int (nI i)] (hp S) Q) ∧ (Q (some (.int (nI (p.2.1 - 1)))) (hp S) → sm_V N (d + 1) mm_P_codeOfPath 3 4 [.int (nI i)] (hp S) Q) ∧ (Q (some (.int (nI p.2.2.1))) (hp S) → sm_V N (d + 1) mm_P_operatorOf 3 4 [.int (nI i)] (hp S) Q) ∧ (Q (some (.int (nI p.2.2.2.1))) (hp S) → sm_V N (d + 1) mm_P_numberOf 3 4 [.int (nI i)] (hp S) Q) := by
  have hil : i < ps.length := (List.getElem?_eq_some_iff.mp hi).1
  obtain ⟨g1, g2, g3, g4, -⟩ := hP.2 i p hi
  obtain ⟨r1, r2, r3, r4⟩ := hpl_r S (k := i) (by omega)
  have neg : ¬ nI i < 0 := by
    intro y
    rw [ti_lt, nI_t (by omega)] at y
    have : (0 : Int32).toInt = 0 := rfl
    omega
  have c1 : ¬ S.1 4 ≤ nI i := by rw [hP.1, nI_leI (by omega) (by omega)]; omega
  have c2 : ¬ (1000 : Int32) ≤ nI i := by rw [nI_gel (by omega) (by omega)]; exact fun z => absurd (show 1000 ≤ i from z) (by omega)
  rw [g1] at r1
  rw [g2] at r2
  rw [g3] at r3
  rw [g4] at r4
  refine ⟨fun hQ => ?_, fun hQ => ?_, fun hQ => ?_, fun hQ => ?_⟩
  · exact cP_elementOf (hk_4 S) ⟨fun z => absurd z neg, fun _ => ⟨_, hg_4_5 S, fun z => absurd z c1, fun _ => ⟨_, hg_4_1 S, _, hn_5 S, fun z => absurd z c2, fun _ => ⟨_, hg_4_1 S, _, r1, hQ⟩⟩⟩⟩
  · exact cP_codeOfPath (hk_4 S) ⟨fun z => absurd z neg, fun _ => ⟨_, hg_4_5 S, fun z => absurd z c1, fun _ => ⟨_, hg_4_2 S, _, hn_6 S, fun z => absurd z c2, fun _ => ⟨_, hg_4_2 S, _, r2, hQ⟩⟩⟩⟩
  · exact cP_operatorOf (hk_4 S) ⟨fun z => absurd z neg, fun _ => ⟨_, hg_4_5 S, fun z => absurd z c1, fun _ => ⟨_, hg_4_3 S, _, hn_7 S, fun z => absurd z c2, fun _ => ⟨_, hg_4_3 S, _, r3, hQ⟩⟩⟩⟩
  · exact cP_numberOf (hk_4 S) ⟨fun z => absurd z neg, fun _ => ⟨_, hg_4_5 S, fun z => absurd z c1, fun _ => ⟨_, hg_4_4 S, _, hn_8 S, fun z => absurd z c2, fun _ => ⟨_, hg_4_4 S, _, r4, hQ⟩⟩⟩⟩
theorem pe_9 {S : sT} {ps : List Pth} {r : Nat × Nat × Nat × Nat × List Nat} (hP : PlA S ps) (hpl : ps.length ≤ 999) (hval : ∀ p ∈ ps, 1 ≤ p.2.1 ∧ p.2.1 ≤ 6 ∧ VD 14 p.2.2.2.2.1 p.2.2.2.2.2.2 ∧ okW p.2.2.2.2.2.1 ∧ spOK p.2.2.2.2.2.1 ∧ (p.2.1 = 3 → p.2.2.2.2.1 = 16 ∨ p.2.2.2.2.1 = 18))
    (hF : r.1 ≠ 0 → ∀ U i p, frF S U → EdO U → ps[i]? = some p → p.2.2.1 = r.2.1 → p.2.2.2.1 = r.2.2.1 → U.1 13 = nI i → Q (some (.int (-(nI r.1)))) (hp U))
    (hO : r.1 = 0 → ∀ U, frF S U → EdO U → bl U 7 = r.2.2.2.2 → VD 24 3 r.2.2.2.2 → U.1 13 = -1 → ((2000 < r.2.2.2.2.length ∨ 16 < dep 24 3 r.2.2.2.2) → Q (some (.int (-9))) (hp U)) ∧ (r.2.2.2.2.length ≤ 2000 → dep 24 3 r.2.2.2.2 ≤ 16 → Q (some (.int (nI r.2.2.2.1))) (hp U))) :
    ∀ (rs dn : List Pth) (m : Nat) (raw : List Nat) (T : sT), dn ++ rs = ps → frF S T → EdO T → bl T 7 = raw → T.1 12 = 0 → VD 24 3 raw → raw.length + 4 * csum (rs.map pPr) ≤ 9960 → rnF (rs.map pPr) m raw = r → sm_W N (d + 54 + 1) mm_E_perform 9 [(0, .ref 9), (1, .ref 4), (2, .int (nI m)), (3, .int (nI dn.length))] [] (hp T) Q := by
  intro rs
  induction rs with
  | nil =>
    intro dn m raw T hd tF tE t7 t12 hv hb hr
    rw [List.append_nil] at hd
    subst hd
    have hr2 : r = (0, 0, 0, m, raw) := hr.symm
    subst hr2
    have hPT := PlA_F tF hP
    have hbl := bl_lenB tE.2.1
    rw [caps7, t7] at hbl
    refine kE_perform_9 ⟨_, hg_4_5 T, fun _ => ⟨_, hu_9_11 T _, ?_⟩, fun c => absurd ?_ c⟩
    · have x13 : (sI T 13 (-1)).1 13 = -1 := by simp [sI, va_up]
      have x12 : (sI T 13 (-1)).1 12 = 0 := by simp [sI, va_up]; exact t12
      have xF := frF_tr tF (frF_sI T (k := 13) (by omega) (-1))
      have xE := EdO_sI2 tE (k := 13) (by omega) (-1)
      have x7 : bl (sI T 13 (-1)) 7 = raw := by rw [bl_sI (by omega)]; exact t7
      generalize sI T 13 (-1) = X at *
      obtain ⟨o1, o2⟩ := hO rfl X xF xE x7 hv x13
      have x37 : X.1 (30 + 7) = nI raw.length := by
        obtain ⟨nn, a1, a2, a3⟩ := xE.2.1
        rw [a2, ← x7]
        congr 1
        exact (bl_len a1 a2).symm
      refine ⟨_, hg_9_10 X, fun _ => ⟨_, hg_9_0 X, _, hb_g1 (j := 7) X (by omega), ?_⟩, fun c => absurd x12 c⟩
      rw [x37]
      refine ⟨fun c => o1 (Or.inl ?_), fun c => ⟨_, hg_9_0 X, ?_⟩⟩
      · rw [nI_gtl (by omega) (by omega)] at c
        exact c
      · rw [nI_gtl (by omega) (by omega)] at c
        have c' : ¬ 2000 < raw.length := c
        have hdl := dep_le 24 3 raw
        refine sD_deep (j := 7) (by omega) xE.2.1 24 (d + 28) 0 [] [] 3 raw _ (Or.inl rfl) (by omega) hv (by rw [x7]; simp) ⟨_, rfl, fun c2 => ?_, fun c2 => ?_⟩
        · rw [Nat.zero_add, nI_lel (by omega) (by omega)] at c2
          exact o2 (show raw.length ≤ 2000 by omega) c2
        · rw [Nat.zero_add, nI_lel (by omega) (by omega)] at c2
          have c3 : ¬ dep 24 3 raw ≤ 16 := c2
          exact o1 (Or.inr (show 16 < dep 24 3 raw by omega))
    · rw [hPT.1]
      exact (nI_leI (by omega) (by omega)).mpr (Nat.le_refl _)
  | cons p rs ih =>
    intro dn m raw T hd tF tE t7 t12 hv hb hr
    have hll := congrArg List.length hd
    rw [List.length_append, List.length_cons] at hll
    have hpi : ps[dn.length]? = some p := by rw [← hd, List.getElem?_append_right (Nat.le_refl _), Nat.sub_self]; rfl
    obtain ⟨v1, v2, v3, v4, v5, v6⟩ := hval p (by rw [← hd]; simp)
    have hPT := PlA_F tF hP
    rw [List.map_cons, csum] at hb
    rw [List.map_cons, rnF] at hr
    have hdle := doP_le p.2.1 p.2.2.2.2 raw
    refine kE_perform_9 ⟨_, hg_4_5 T, fun c => ?_, fun _ => ⟨_, hu_9_11 T _, ?_⟩⟩
    · rw [hPT.1, nI_leI (by omega) (by omega)] at c
      omega
    · have x13 : (sI T 13 (nI dn.length)).1 13 = nI dn.length := by simp [sI, va_up]
      have x12 : (sI T 13 (nI dn.length)).1 12 = 0 := by simp [sI, va_up]; exact t12
      have xF := frF_tr tF (frF_sI T (k := 13) (by omega) (nI dn.length))
      have xE := EdO_sI2 tE (k := 13) (by omega) (nI dn.length)
      have x7 : bl (sI T 13 (nI dn.length)) 7 = raw := by rw [bl_sI (by omega)]; exact t7
      generalize sI T 13 (nI dn.length) = X at *
      have hPX := PlA_F xF hP
      obtain ⟨-, -, -, -, A6, B6, hA6, hA6l, hwp⟩ := hPX.2 _ _ hpi
      refine ⟨_, hg_4_0 X, (sP_of (d := d + 53) hPX hpi hpl).1 ⟨_, rfl, (sP_of (d := d + 53) hPX hpi hpl).2.1 ⟨_, rfl, ?_⟩⟩⟩
      rw [← hA6l]
      have hp1 : (pPr p).1 = p.2.1 := rfl
      have hp2 : (pPr p).2.2.2 = p.2.2.2.2 := rfl
      rw [hp1, hp2] at hr
      rw [hp2] at hb
      refine sE_performPath (d := d) (op := p.2.1) (a := p.2.2.2.2) xE x7 hv hA6 hwp v3 v4 v5 ⟨v1, v2⟩ v6 (by omega) (fun hne U uF uE => ⟨_, rfl, fun c => ?_, fun _ => ?_⟩) (fun h0 U uF uE u7 => ⟨_, rfl, fun _ => ?_, fun c => ?_⟩)
      · exfalso
        generalize (doP p.2.1 p.2.2.2.2 raw).1 = f0 at *
        have h9 : f0 = 1 ∨ f0 = 2 ∨ f0 = 3 ∨ f0 = 4 ∨ f0 = 5 ∨ f0 = 6 ∨ f0 = 7 ∨ f0 = 8 := by omega
        rcases h9 with h | h | h | h | h | h | h | h <;> (subst h; exact absurd c (by decide))
      · rw [if_neg hne] at hr
        have := hF (by rw [← hr]; exact hne) U dn.length p (frF_tr xF (frE_F uF)) uE hpi (by rw [← hr]; rfl) (by rw [← hr]; rfl) (by rw [uF.1 13 (by omega) (by omega) (by omega) (by omega)]; exact x13)
        rw [← hr] at this
        exact this
      · rw [if_pos h0] at hr
        obtain ⟨dd1, dd2⟩ := doP_ok ⟨v1, v2⟩ hv (by omega) (by omega) v3 v4 v5 h0
        have hm : nI m + (if (doP p.2.1 p.2.2.2.2 raw).2 = raw then 0 else 1) = nI (m + (if (doP p.2.1 p.2.2.2.2 raw).2 = raw then 0 else 1)) := by
          split
          · exact nI_al m 0
          · exact nI_1 m
        rw [hm, nI_1]
        have := ih (dn ++ [p]) (m + (if (doP p.2.1 p.2.2.2.2 raw).2 = raw then 0 else 1)) (doP p.2.1 p.2.2.2.2 raw).2 U (by rw [List.append_assoc]; exact hd) (frF_tr xF (frE_F uF)) uE u7 (by rw [uF.1 12 (by omega) (by omega) (by omega) (by omega)]; exact x12) dd1 (by omega) hr
        rw [List.length_append, List.length_singleton] at this
        exact this
      · exfalso
        split at c
        · exact absurd (by decide) c
        · exact absurd (by decide) c
theorem sE_perform {S : sT} {ps : List Pth} {raw : List Nat} {r : Nat × Nat × Nat × Nat × List Nat} (hP : PlA S ps) (hpl : ps.length ≤ 999) (hval : ∀ p ∈ ps, 1 ≤ p.2.1 ∧ p.2.1 ≤ 6 ∧ VD 14 p.2.2.2.2.1 p.2.2.2.2.2.2 ∧ okW p.2.2.2.2.2.1 ∧ spOK p.2.2.2.2.2.1 ∧ (p.2.1 = 3 → p.2.2.2.2.1 = 16 ∨ p.2.2.2.2.1 = 18)) (hE : EdO S) (h7 : bl S 7 = raw) (hv : VD 24 3 raw) (hb : raw.length + 4 * csum (ps.map pPr) ≤ 9960) (hr : rnF (ps.map pPr) 0 raw = r)
    (hF : r.1 ≠ 0 → ∀ U i p, frF S U → EdO U → ps[i]? = some p → p.2.2.1 = r.2.1 → p.2.2.2.1 = r.2.2.1 → U.1 13 = nI i → Q (some (.int (-(nI r.1)))) (hp U))
    (hO : r.1 = 0 → ∀ U, frF S U → EdO U → bl U 7 = r.2.2.2.2 → VD 24 3 r.2.2.2.2 → U.1 13 = -1 → ((2000 < r.2.2.2.2.length ∨ 16 < dep 24 3 r.2.2.2.2) → Q (some (.int (-9))) (hp U)) ∧ (r.2.2.2.2.length ≤ 2000 → dep 24 3 r.2.2.2.2 ≤ 16 → Q (some (.int (nI r.2.2.2.1))) (hp U))) : sm_V N (d + 54 + 1) mm_E_perform 2 9 [.ref 4] (hp S) Q := by
  refine cE_perform (hk_9 S) ⟨_, hu_9_10 S _, ?_⟩
  exact pe_9 hP hpl hval hF hO ps [] 0 raw _ rfl (frF_sI S (k := 12) (by omega) 0) (EdO_sI2 hE (k := 12) (by omega) 0) (by rw [bl_sI (by omega)]; exact h7) (by simp [sI, va_up]) hv hb hr
end Pe
