/-! the class's plan: study, its loops -/
theorem es2_le : ∀ l : List El, 2 * l.length ≤ (encs l).length := by
  intro l
  induction l with
  | nil => simp [encs]
  | cons a l ih => rw [encs_cons, List.length_append, enc1_len, List.length_cons]; omega
theorem caps6 : caps 6 = 2000 := rfl
theorem PlA_i {S T : sT} {ps : List Pth} (h4 : T.1 4 = S.1 4) (ha : ∀ k, 12 ≤ k → k ≤ 15 → T.2.1 k = S.2.1 k) (hb : bl T 6 = bl S 6) (h : PlA S ps) : PlA T ps := by
  refine ⟨by rw [h4]; exact h.1, fun i p hp1 => ?_⟩
  rw [ha 12 (by omega) (by omega), ha 13 (by omega) (by omega), ha 14 (by omega) (by omega), ha 15 (by omega) (by omega), hb]
  exact h.2 i p hp1
section St2
variable {N d : Nat} {Q : Option Value → sm_H → Prop}
theorem so_56 {S : sT} {o op last : Nat} {r : Nat × Nat} (hw : okB S 6) (hop : 1 ≤ op ∧ op ≤ 6) : ∀ (fs : List El) (X Y : List Nat) (n : Nat) (ps : List Pth) (T : sT), frPl S T → bl S 6 = X ++ (encs fs ++ Y) → X.length + (encs fs).length = last → 2 * n ≤ X.length → PlA T ps → T.1 5 = nI o → 2 * ps.length + (encs fs).length ≤ 1998 → (∀ e ∈ fs, wfE e ∧ e.1 < 256) → lkP op fs (ps.map (fun p => p.2.2.2.2.2.1)) n = r →
    (r.1 = 0 → ∀ U qs, frPl S U → U.1 5 = nI o → PlA U (ps ++ qs) → qs.map pPr = flP op o fs n → Q (some (.int 0)) (hp U)) → (r.1 ≠ 0 → ∀ U, frPl S U → U.1 5 = nI o → U.1 6 = nI r.2 → Q (some (.int (nI r.1))) (hp U)) →
    sm_W N (d + 9 + 1) mm_P_studyOperator 56 [(0, .ref 4), (2, .int (nI (op - 1))), (4, .int (nI last)), (5, .int (nI X.length)), (6, .int (nI n))] [] (hp T) Q := by
  have hlen := bl_lenB hw
  rw [caps6] at hlen
  intro fs
  induction fs with
  | nil =>
    intro X Y n ps T hT hl hla hn hP h5 hb he hr h0 h1
    have q := congrArg List.length hl
    simp only [encs_nil, List.length_append, List.length_nil] at q hla
    have hq := h0 (by rw [← hr]; rfl) T [] hT h5 (by rw [List.append_nil]; exact hP) rfl
    exact kP_studyOperator_56 ⟨fun _ => hq, fun _ => ⟨fun _ => hq, fun c => absurd ((nI_leI (by omega) (by omega)).mpr (by omega)) c⟩⟩
  | cons e fs ih =>
    intro X Y n ps T hT hl hla hn hP h5 hb he hr h0 h1
    obtain ⟨we, hek⟩ := he e List.mem_cons_self
    have q := congrArg List.length hl
    have hee := enc1_len e
    rw [encs_cons, List.length_append] at hla hb
    simp only [encs_cons, List.length_append] at q
    have g1 : bl S 6 = X ++ (enc1 e ++ (encs fs ++ Y)) := by rw [hl, encs_cons, List.append_assoc]
    have g2 : bl S 6 = (X ++ enc1 e) ++ (encs fs ++ Y) := by rw [g1, List.append_assoc]
    refine kP_studyOperator_56 ⟨fun c => ?_, fun _ => ⟨fun c => ?_, fun _ => ⟨_, hu_4_7 T _, ?_⟩⟩⟩
    · rw [nI_gel (by omega) (by omega)] at c
      exact absurd (show 1000 ≤ n from c) (by omega)
    · rw [nI_leI (by omega) (by omega)] at c
      omega
    · have i1 : ∀ k, k ≠ 6 → (sI T 6 (nI n)).1 k = T.1 k := fun k a => by simp [sI, va_up, a]
      have i6 : (sI T 6 (nI n)).1 6 = nI n := by simp [sI, va_up]
      have ia : (sI T 6 (nI n)).2 = T.2 := rfl
      generalize sI T 6 (nI n) = T1 at *
      have hT1 : frPl S T1 := frPl_tr hT ⟨fun k _ _ a => i1 k a, fun k _ => by rw [ia], by rw [ia]⟩
      have hb1 : bl T1 6 = bl S 6 := frPl_bl hT1 (by omega)
      have hw1 : okB T1 6 := frPl_ok hT1 (by omega) hw
      have hP1 : PlA T1 ps := PlA_i (i1 4 (by omega)) (fun k _ _ => by rw [ia]) (by rw [hb1, frPl_bl hT (by omega)]) hP
      have h51 : T1.1 5 = nI o := by rw [i1 5 (by omega)]; exact h5
      have g1' : bl T1 6 = X ++ (enc1 e ++ (encs fs ++ Y)) := by rw [hb1]; exact g1
      have hpl := pthF_le op e (ps.map (fun p => p.2.2.2.2.2.1))
      rw [lkP] at hr
      refine sP_studyPath (d := d + 6) hw1 g1' we hek hop hP1 (by omega) ⟨_, rfl, fun c => ?_, fun c => ?_⟩
      · rw [nI_eql (by omega) (by omega)] at c
        rw [if_pos c] at hr
        refine sP_enlist (d := d + 8) g1' we hP1 (by omega) h51 i6 (fun T2 t1 t2 t3 t4 => ⟨rfl, _, hg_4_0 T2, ?_⟩)
        have hT2 := frPl_tr hT1 t1
        have hb2 : bl T2 6 = bl S 6 := frPl_bl hT2 (by omega)
        refine eB_ve (d := d + 7) (j := 6) (by omega) (frPl_ok hT2 (by omega) hw) (by rw [hb2]; exact g1) we ⟨_, rfl, ?_⟩
        rw [nI_1]
        refine ih (X ++ enc1 e) Y (n + 1) (ps ++ [(X.length, op, o, n, e)]) T2 hT2 g2 (by rw [List.length_append]; omega) (by rw [List.length_append]; omega) t4 (by rw [t2]; exact h51) (by rw [List.length_append, List.length_singleton]; omega) (fun x hx => he x (List.mem_cons_of_mem _ hx)) (by rw [List.map_append]; exact hr) (fun z U qs hU hU5 hPU hqs => ?_) h1
        rw [List.append_assoc] at hPU
        refine h0 z U _ hU hU5 hPU ?_
        rw [List.map_append, hqs]
        rfl
      · rw [nI_eql (by omega) (by omega)] at c
        have c' : ¬ pthF op e (ps.map (fun p => p.2.2.2.2.2.1)) = 0 := c
        rw [if_neg c'] at hr
        have := h1 (by rw [← hr]; exact c') T1 hT1 h51 (by rw [← hr]; exact i6)
        rw [← hr] at this
        exact this
theorem sP_studyOperator {S : sT} {A B : List Nat} {e : El} {o : Nat} {ps : List Pth} (hw : okB S 6) (hl : bl S 6 = A ++ (enc1 e ++ B)) (we : wfE e) (hek : e.1 < 256) (he3 : e.1 = 3 → e.2.2 = encD (els e.2.2) ∧ ∀ a ∈ els e.2.2, wfE a ∧ a.1 < 256) (hP : PlA S ps) (h5 : S.1 5 = nI o) (hb : 2 * ps.length + (enc1 e).length ≤ 1998)
    (h1 : opOf e.2.1 = 0 → Q (some (.int 1)) (hp S)) (h2 : opOf e.2.1 ≠ 0 → e.1 ≠ 3 → Q (some (.int 2)) (hp S))
    (h3 : opOf e.2.1 ≠ 0 → e.1 = 3 → (lkP (opOf e.2.1) (els e.2.2) (ps.map (fun p => p.2.2.2.2.2.1)) 0).1 = 0 → ∀ U qs, frPl S U → U.1 5 = nI o → PlA U (ps ++ qs) → qs.map pPr = flP (opOf e.2.1) o (els e.2.2) 0 → Q (some (.int 0)) (hp U))
    (h4 : opOf e.2.1 ≠ 0 → e.1 = 3 → ∀ r, lkP (opOf e.2.1) (els e.2.2) (ps.map (fun p => p.2.2.2.2.2.1)) 0 = r → r.1 ≠ 0 → ∀ U, frPl S U → U.1 5 = nI o → U.1 6 = nI r.2 → Q (some (.int (nI r.1))) (hp U)) :
    sm_V N (d + 9 + 1) mm_P_studyOperator 3 4 [.int (nI A.length)] (hp S) Q := by
  have hbl := eB_len hw hl
  have hlen := bl_lenB hw
  rw [caps6] at hlen
  have hee := enc1_len e
  have n1 : bl S 6 = (A ++ [e.1]) ++ (e.2.1 ++ 0 :: (e.2.2 ++ B)) := by rw [hl]; simp [enc1]
  have hol := opOf_le e.2.1
  refine cP_studyOperator (hk_4 S) ?_
  rw [fP_studyOperator_0]
  have e1 : nI A.length + 1 = nI (A ++ [e.1]).length := by rw [nI_1, List.length_append]; rfl
  rw [e1]
  refine sP_codeOf (d := d) hw n1 we.1 ⟨_, rfl, fun c => ?_, fun c => ⟨_, hg_4_0 S, eB_kind (d := d + 8) (j := 6) (by omega) hw hl ⟨_, rfl, fun c2 => ?_, fun c2 => ?_⟩⟩⟩
  · refine h1 ?_
    by_cases z : opOf e.2.1 = 0
    · exact z
    · rw [if_neg z] at c
      exact absurd c (nI_m1 (by omega))
  · have ho : opOf e.2.1 ≠ 0 := fun z => by
      rw [if_pos z] at c
      exact c rfl
    rw [nI_eql (by omega) (by omega)] at c2
    have k3 : e.1 = 3 := c2
    obtain ⟨r1, r2⟩ := he3 k3
    refine ⟨_, hg_4_0 S, eB_vs (d := d + 8) (j := 6) (by omega) hw hl we ⟨_, rfl, _, hg_4_0 S, ?_⟩⟩
    have hlA : A.length + 2 + e.2.1.length = (A ++ (e.1 :: (e.2.1 ++ [0]))).length := by simp; omega
    have hl4 : bl S 6 = (A ++ (e.1 :: (e.2.1 ++ [0]))) ++ (encD (els e.2.2) ++ B) := by rw [← r1, hl]; simp [enc1]
    have hrl := encD_len (els e.2.2)
    rw [← r1] at hrl
    rw [hlA]
    refine eB_last (d := d + 7) (j := 6) (by omega) hw hl4 ⟨_, rfl, ?_⟩
    rw [if_neg ho]
    have e2 : nI (A ++ (e.1 :: (e.2.1 ++ [0]))).length + 4 = nI ((A ++ (e.1 :: (e.2.1 ++ [0]))) ++ le4 (5 + (encs (els e.2.2)).length)).length := by rw [nI_al, List.length_append (as := A ++ (e.1 :: (e.2.1 ++ [0]))), le4_len]
    rw [e2]
    exact so_56 (S := S) (d := d) (o := o) (r := lkP (opOf e.2.1) (els e.2.2) (ps.map (fun p => p.2.2.2.2.2.1)) 0) hw (by omega) (els e.2.2) _ ([0] ++ B) 0 ps S (frPl_rf S) (by rw [hl4, encD]; simp) (by rw [List.length_append (as := A ++ (e.1 :: (e.2.1 ++ [0]))), le4_len]) (by omega) hP h5 (by omega) r2 rfl (h3 ho k3) (h4 ho k3 _ rfl)
  · have ho : opOf e.2.1 ≠ 0 := fun z => by
      rw [if_pos z] at c
      exact c rfl
    rw [nI_eql (by omega) (by omega)] at c2
    exact h2 ho c2
theorem st_18 {S : sT} {last : Nat} {r : Nat × Int32 × Int32} (hw : okB S 6) : ∀ (fs : List El) (X Y : List Nat) (n : Nat) (ps : List Pth) (T : sT), frPl S T → bl S 6 = X ++ (encs fs ++ Y) → X.length + (encs fs).length = last → 2 * n ≤ X.length → PlA T ps → 2 * ps.length + (encs fs).length ≤ 1998 → (∀ e ∈ fs, wfE e ∧ e.1 < 256 ∧ (e.1 = 3 → e.2.2 = encD (els e.2.2) ∧ ∀ a ∈ els e.2.2, wfE a ∧ a.1 < 256)) → lkO fs (ps.map (fun p => p.2.2.2.2.2.1)) n = r →
    (r.1 = 0 → ∀ U qs, frPl S U → PlA U (ps ++ qs) → qs.map pPr = flO fs n → Q (some (.int 0)) (hp U)) → (r.1 ≠ 0 → ∀ U, frPl S U → U.1 5 = r.2.1 → U.1 6 = r.2.2 → Q (some (.int (nI r.1))) (hp U)) →
    sm_W N (d + 10 + 1) mm_P_study 18 [(0, .ref 4), (1, .int (nI last)), (2, .int (nI X.length)), (3, .int (nI n))] [] (hp T) Q := by
  have hlen := bl_lenB hw
  rw [caps6] at hlen
  intro fs
  induction fs with
  | nil =>
    intro X Y n ps T hT hl hla hn hP hb he hr h0 h1
    have q := congrArg List.length hl
    simp only [encs_nil, List.length_append, List.length_nil] at q hla
    have hq := h0 (by rw [← hr]; rfl) T [] hT (by rw [List.append_nil]; exact hP) rfl
    exact kP_study_18 ⟨fun _ => hq, fun _ => ⟨fun _ => hq, fun c => absurd ((nI_leI (by omega) (by omega)).mpr (by omega)) c⟩⟩
  | cons e fs ih =>
    intro X Y n ps T hT hl hla hn hP hb he hr h0 h1
    obtain ⟨we, hek, he3⟩ := he e List.mem_cons_self
    have q := congrArg List.length hl
    have hee := enc1_len e
    rw [encs_cons, List.length_append] at hla hb
    simp only [encs_cons, List.length_append] at q
    have g1 : bl S 6 = X ++ (enc1 e ++ (encs fs ++ Y)) := by rw [hl, encs_cons, List.append_assoc]
    have g2 : bl S 6 = (X ++ enc1 e) ++ (encs fs ++ Y) := by rw [g1, List.append_assoc]
    refine kP_study_18 ⟨fun c => ?_, fun _ => ⟨fun c => ?_, fun _ => ⟨_, hu_4_6 T _, _, hu_4_7 _ _, ?_⟩⟩⟩
    · rw [nI_gel (by omega) (by omega)] at c
      exact absurd (show 1000 ≤ n from c) (by omega)
    · rw [nI_leI (by omega) (by omega)] at c
      omega
    · have i1 : ∀ k, k ≠ 5 → k ≠ 6 → (sI (sI T 5 (nI n)) 6 (-1)).1 k = T.1 k := fun k a b => by simp [sI, va_up, a, b]
      have i5 : (sI (sI T 5 (nI n)) 6 (-1)).1 5 = nI n := by simp [sI, va_up]
      have i6 : (sI (sI T 5 (nI n)) 6 (-1)).1 6 = -1 := by simp [sI, va_up]
      have ia : (sI (sI T 5 (nI n)) 6 (-1)).2 = T.2 := rfl
      generalize sI (sI T 5 (nI n)) 6 (-1) = T1 at *
      have hT1 : frPl S T1 := frPl_tr hT ⟨fun k _ a b => i1 k a b, fun k _ => by rw [ia], by rw [ia]⟩
      have hb1 : bl T1 6 = bl S 6 := frPl_bl hT1 (by omega)
      have hw1 : okB T1 6 := frPl_ok hT1 (by omega) hw
      have hP1 : PlA T1 ps := PlA_i (i1 4 (by omega) (by omega)) (fun k _ _ => by rw [ia]) (by rw [hb1, frPl_bl hT (by omega)]) hP
      rw [lkO] at hr
      refine sP_studyOperator (d := d) (o := n) hw1 (by rw [hb1]; exact g1) we hek he3 hP1 i5 (by omega) (fun ho => ⟨_, rfl, fun c => absurd c (by decide), fun _ => ?_⟩) (fun ho h3 => ⟨_, rfl, fun c => absurd c (by decide), fun _ => ?_⟩) (fun ho h3 hlk U qs hU hU5 hPU hqs => ⟨_, rfl, fun _ => ⟨_, hg_4_0 U, ?_⟩, fun c => absurd rfl c⟩) (fun ho h3 r2 hr2 hne U hU hU5 hU6 => ⟨_, rfl, fun c => ?_, fun _ => ?_⟩)
      · rw [if_pos ho] at hr
        have := h1 (by rw [← hr]; exact Nat.succ_ne_zero _) T1 hT1 (by rw [← hr]; exact i5) (by rw [← hr]; exact i6)
        rw [← hr] at this
        exact this
      · rw [if_neg ho, if_pos h3] at hr
        have := h1 (by rw [← hr]; exact Nat.succ_ne_zero _) T1 hT1 (by rw [← hr]; exact i5) (by rw [← hr]; exact i6)
        rw [← hr] at this
        exact this
      · rw [if_neg ho, if_neg (fun z => z h3), if_pos hlk] at hr
        have hU1 := frPl_tr hT1 hU
        have hbU : bl U 6 = bl S 6 := frPl_bl hU1 (by omega)
        refine eB_ve (d := d + 8) (j := 6) (by omega) (frPl_ok hU1 (by omega) hw) (by rw [hbU]; exact g1) we ⟨_, rfl, ?_⟩
        rw [nI_1]
        have hql : qs.map (fun p => p.2.2.2.2.2.1) = (els e.2.2).map (fun x => x.2.1) := by
          have key : ∀ (l : List El) (p : Nat), (flP (opOf e.2.1) n l p).map (fun x => x.2.2.2.2.1) = l.map (fun x => x.2.1) := by
            intro l
            induction l with
            | nil => intro p; rfl
            | cons a l ihl => intro p; rw [flP, List.map_cons, List.map_cons, ihl]
          rw [← key _ 0, ← hqs, List.map_map]
          rfl
        have hqn : qs.length = (els e.2.2).length := by
          have := congrArg List.length hql
          rw [List.length_map, List.length_map] at this
          exact this
        have hrl := encD_len (els e.2.2)
        rw [← (he3 h3).1] at hrl
        have h2l := es2_le (els e.2.2)
        refine ih (X ++ enc1 e) Y (n + 1) (ps ++ qs) U hU1 g2 (by rw [List.length_append]; omega) (by rw [List.length_append]; omega) hPU (by rw [List.length_append]; omega) (fun x hx => he x (List.mem_cons_of_mem _ hx)) (by rw [List.map_append, hql]; exact hr) (fun z V qs2 hV hPV hqs2 => ?_) h1
        rw [List.append_assoc] at hPV
        refine h0 z V _ hV hPV ?_
        rw [List.map_append, hqs, hqs2]
        rfl
      · rw [nI_eql (by have := lkP_le (opOf e.2.1) (els e.2.2) (ps.map (fun p => p.2.2.2.2.2.1)) 0; rw [hr2] at this; omega) (by omega)] at c
        exact absurd c hne
      · rw [if_neg ho, if_neg (fun z => z h3), hr2, if_neg hne] at hr
        have := h1 (by rw [← hr]; exact hne) U (frPl_tr hT1 hU) (by rw [← hr]; exact hU5) (by rw [← hr]; exact hU6)
        rw [← hr] at this
        exact this
theorem sP_study {S : sT} {raw : List Nat} (hw : okB S 6) (hl : bl S 6 = raw) (hv : VD 16 3 raw)
    (h0 : (lkO (els raw) [] 0).1 = 0 → ∀ U ps, frPl S U → PlA U ps → ps.map pPr = flO (els raw) 0 → Q (some (.int 0)) (hp U)) (h1 : ∀ r, lkO (els raw) [] 0 = r → r.1 ≠ 0 → ∀ U, frPl S U → U.1 5 = r.2.1 → U.1 6 = r.2.2 → Q (some (.int (nI r.1))) (hp U)) :
    sm_V N (d + 10 + 1) mm_P_study 3 4 [] (hp S) Q := by
  have hlen := bl_lenB hw
  rw [caps6] at hlen
  have hl0 := hl
  rw [hl] at hlen
  obtain ⟨r1, r2, r3, r4⟩ := VD_h (Or.inl rfl) (by omega) hv
  have hrl := encD_len (els raw)
  rw [← r1] at hrl
  refine cP_study (hk_4 S) ⟨_, hu_4_5 S _, _, hg_4_0 _, ?_⟩
  have i1 : ∀ k, k ≠ 4 → (sI S 4 0).1 k = S.1 k := fun k a => by simp [sI, va_up, a]
  have i4 : (sI S 4 0).1 4 = nI 0 := by simp [sI, va_up]; rfl
  have ia : (sI S 4 0).2 = S.2 := rfl
  generalize sI S 4 0 = S1 at *
  have hS1 : frPl S S1 := ⟨fun k a _ _ => i1 k a, fun k _ => by rw [ia], by rw [ia]⟩
  have hb1 : bl S1 6 = raw := by rw [frPl_bl hS1 (by omega)]; exact hl
  have hw1 := frPl_ok hS1 (j := 6) (by omega) hw
  have hl1 : bl S1 6 = [] ++ (encD (els raw) ++ []) := by rw [hb1, ← r1]; simp
  refine eB_last (d := d + 8) (j := 6) (A := []) (by omega) hw1 hl1 ⟨_, rfl, ?_⟩
  refine st_18 (S := S1) (d := d) (r := lkO (els raw) [] 0) hw1 (els raw) (le4 (5 + (encs (els raw)).length)) [0] 0 [] S1 (frPl_rf S1) ?_ (by simp [le4_len]) (by omega) ⟨i4, fun i p hp1 => by simp at hp1⟩ (by rw [List.length_nil]; omega) (fun e he => ?_) rfl (fun z U qs hU hPU hqs => h0 z U qs (frPl_tr hS1 hU) hPU hqs) (fun z U hU a b => h1 _ rfl z U (frPl_tr hS1 hU) a b)
  · rw [hb1]
    conv => lhs; rw [r1]
    rw [encD]
  · refine ⟨r3 e he, VD_k (r4 e he).2.2, fun k3 => ?_⟩
    have hle := el_len he
    have hve := (r4 e he).2.2
    rw [k3] at hve
    obtain ⟨q1, q2, q3, q4⟩ := VD_h (Or.inl rfl) (by omega) hve
    exact ⟨q1, fun a ha => ⟨q3 a ha, VD_k (q4 a ha).2.2⟩⟩
end St2
