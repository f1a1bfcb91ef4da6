/-! the class's plan: study -/
theorem opOf_txt (nm : List Nat) : opOf nm = if nm = txt 0 then 1 else if nm = txt 1 then 2 else if nm = txt 2 then 3 else if nm = txt 3 then 4 else if nm = txt 4 then 5 else if nm = txt 5 then 6 else 0 := rfl
/-- a path of the plan: place, operator's code, operator's and path's number, the element -/
abbrev Pth : Type := Nat × Nat × Nat × Nat × El
def pPr (p : Pth) : Nat × Nat × Nat × El := p.2
def PlE (l : List Nat) (p : Pth) : Prop := ∃ A B, l = A ++ (enc1 p.2.2.2.2 ++ B) ∧ A.length = p.1 ∧ wfE p.2.2.2.2
def PlA (S : sT) (ps : List Pth) : Prop := S.1 4 = nI ps.length ∧ ∀ i p, ps[i]? = some p → S.2.1 12 i = nI p.1 ∧ S.2.1 13 i = nI (p.2.1 - 1) ∧ S.2.1 14 i = nI p.2.2.1 ∧ S.2.1 15 i = nI p.2.2.2.1 ∧ PlE (bl S 6) p
def flP (op o : Nat) : List El → Nat → List (Nat × Nat × Nat × El)
  | [], _ => []
  | a :: r, p => (op, o, p, a) :: flP op o r (p + 1)
def flO : List El → Nat → List (Nat × Nat × Nat × El)
  | [], _ => []
  | e :: r, o => flP (opOf e.2.1) o (els e.2.2) 0 ++ flO r (o + 1)
def frPl (S T : sT) : Prop := (∀ k, k ≠ 4 → k ≠ 5 → k ≠ 6 → T.1 k = S.1 k) ∧ (∀ k, (k < 12 ∨ 15 < k) → T.2.1 k = S.2.1 k) ∧ T.2.2 = S.2.2
theorem frPl_rf (S : sT) : frPl S S := ⟨fun _ _ _ _ => rfl, fun _ _ => rfl, rfl⟩
theorem frPl_tr {S T U : sT} (h1 : frPl S T) (h2 : frPl T U) : frPl S U := ⟨fun k a b c => (h2.1 k a b c).trans (h1.1 k a b c), fun k a => (h2.2.1 k a).trans (h1.2.1 k a), h2.2.2.trans h1.2.2⟩
theorem frPl_bl {S T : sT} (h : frPl S T) {j : Nat} (hj : j < 11) : bl T j = bl S j := by rw [bl, bl, h.1 _ (by omega) (by omega) (by omega), h.2.1 _ (by omega)]
theorem frPl_ok {S T : sT} (h : frPl S T) {j : Nat} (hj : j < 11) (hw : okB S j) : okB T j := by
  obtain ⟨n, a, b, c⟩ := hw
  exact ⟨n, a, by rw [h.1 _ (by omega) (by omega) (by omega)]; exact b, fun i => by rw [h.2.1 _ (by omega)]; exact c i⟩
section St
variable {N d : Nat} {Q : Option Value → sm_H → Prop}
theorem sP_textOf {S : sT} {c : Nat} (hc : c < 6) (hQ : Q (some (.retAddr c)) (hp S)) : sm_T N (d + 1) mm_P_textOf [.int (nI c)] (hp S) Q := by
  refine cP_textOf ⟨fun z => ?_, fun z => ?_, fun z => ?_, fun z => ?_, fun z => ?_, fun z => ?_⟩
  · rw [nI_eql (by omega) (by omega)] at z
    have : c = 0 := z
    subst this
    exact hQ
  · rw [nI_eql (by omega) (by omega)] at z
    have : c = 1 := z
    subst this
    exact hQ
  · rw [nI_eql (by omega) (by omega)] at z
    have : c = 2 := z
    subst this
    exact hQ
  · rw [nI_eql (by omega) (by omega)] at z
    have : c = 3 := z
    subst this
    exact hQ
  · rw [nI_eql (by omega) (by omega)] at z
    have : c = 4 := z
    subst this
    exact hQ
  · rw [nI_eql (by omega) (by omega), nI_eql (by omega) (by omega), nI_eql (by omega) (by omega), nI_eql (by omega) (by omega), nI_eql (by omega) (by omega)] at z
    obtain ⟨z0, z1, z2, z3, z4⟩ := z
    have y0 : ¬ c = 0 := z0
    have y1 : ¬ c = 1 := z1
    have y2 : ¬ c = 2 := z2
    have y3 : ¬ c = 3 := z3
    have y4 : ¬ c = 4 := z4
    have : c = 5 := by omega
    subst this
    exact hQ
theorem sP_codeOf {S : sT} {A B nm : List Nat} (hw : okB S 6) (h : bl S 6 = A ++ (nm ++ 0 :: B)) (hz : ∀ b ∈ nm, b ≠ 0) (hQ : Q (some (.int (if opOf nm = 0 then -1 else nI (opOf nm - 1)))) (hp S)) : sm_V N (d + 8 + 1) mm_P_codeOf 3 4 [.int (nI A.length)] (hp S) Q := by
  have st : ∀ c, c < 6 → (nm = txt c → Q (some (.int (nI c))) (hp S)) → (nm ≠ txt c → sm_W N (d + 8 + 1) mm_P_codeOf 2 [(0, .ref 4), (1, .int (nI A.length)), (2, .int (nI (c + 1)))] [] (hp S) Q) → sm_W N (d + 8 + 1) mm_P_codeOf 2 [(0, .ref 4), (1, .int (nI A.length)), (2, .int (nI c))] [] (hp S) Q := by
    intro c hc h1 h2
    refine kP_codeOf_2 ⟨fun z => ?_, fun _ => sP_textOf (d := d + 7) hc ⟨_, rfl, sP_isNamed (d := d) hw hc h hz ⟨_, rfl, fun z => ?_, fun z => ?_⟩⟩⟩
    · rw [nI_gel (by omega) (by omega)] at z
      exact absurd (show 6 ≤ c from z) (by omega)
    · rw [nI_1]
      exact h2 (fun y => by rw [if_pos y] at z; exact absurd z (by decide))
    · refine h1 ?_
      by_cases y : nm = txt c
      · exact y
      · rw [if_neg y] at z
        exact absurd rfl z
  rw [opOf_txt] at hQ
  refine cP_codeOf (hk_4 S) ?_
  refine st 0 (by omega) (fun y => ?_) (fun y0 => st 1 (by omega) (fun y => ?_) (fun y1 => st 2 (by omega) (fun y => ?_) (fun y2 => st 3 (by omega) (fun y => ?_) (fun y3 => st 4 (by omega) (fun y => ?_) (fun y4 => st 5 (by omega) (fun y => ?_) (fun y5 => kP_codeOf_2 ⟨fun _ => ?_, fun z => absurd (by decide) z⟩))))))
  · rw [if_pos y] at hQ; exact hQ
  · rw [if_neg y0, if_pos y] at hQ; exact hQ
  · rw [if_neg y0, if_neg y1, if_pos y] at hQ; exact hQ
  · rw [if_neg y0, if_neg y1, if_neg y2, if_pos y] at hQ; exact hQ
  · rw [if_neg y0, if_neg y1, if_neg y2, if_neg y3, if_pos y] at hQ; exact hQ
  · rw [if_neg y0, if_neg y1, if_neg y2, if_neg y3, if_neg y4, if_pos y] at hQ; exact hQ
  · rw [if_neg y0, if_neg y1, if_neg y2, if_neg y3, if_neg y4, if_neg y5] at hQ; exact hQ
theorem sP_studyPath {S : sT} {A B : List Nat} {e : El} {op : Nat} {ps : List Pth} (hw : okB S 6) (hl : bl S 6 = A ++ (enc1 e ++ B)) (we : wfE e) (hek : e.1 < 256) (hop : 1 ≤ op ∧ op ≤ 6) (hP : PlA S ps) (hps : ps.length ≤ 999) (hQ : Q (some (.int (nI (pthF op e (ps.map (fun p => p.2.2.2.2.2.1)))))) (hp S)) : sm_V N (d + 2 + 1) mm_P_studyPath 3 4 [.int (nI A.length), .int (nI (op - 1))] (hp S) Q := by
  have hb := eB_len hw hl
  have hlen := bl_lenB hw
  have hc := caps_le 6
  have n1 : bl S 6 = (A ++ [e.1]) ++ (e.2.1 ++ 0 :: (e.2.2 ++ B)) := by rw [hl]; simp [enc1]
  -- the paths before
  have w43 : ∀ (rs dn : List Pth), dn ++ rs = ps → Q (some (.int (if (rs.map (fun p => p.2.2.2.2.2.1)).any (fun q => bgn q e.2.1 || bgn e.2.1 q) then 5 else 0))) (hp S) → sm_W N (d + 2 + 1) mm_P_studyPath 43 [(0, .ref 4), (1, .int (nI A.length)), (3, .int (nI dn.length))] [] (hp S) Q := by
    intro rs
    induction rs with
    | nil =>
      intro dn hd hq
      rw [List.append_nil] at hd
      subst hd
      refine kP_studyPath_43 ⟨_, hg_4_5 S, fun _ => hq, fun c => absurd ?_ c⟩
      rw [hP.1]
      exact (nI_leI (by omega) (by omega)).mpr (Nat.le_refl _)
    | cons p rs ih =>
      intro dn hd hq
      have hll := congrArg List.length hd
      rw [List.length_append, List.length_cons] at hll
      have hp1 : ps[dn.length]? = some p := by rw [← hd, List.getElem?_append_right (Nat.le_refl _), Nat.sub_self]; rfl
      obtain ⟨g1, -, -, -, A2, B2, g2, g3, g4⟩ := hP.2 _ _ hp1
      have n2 : bl S 6 = (A2 ++ [p.2.2.2.2.1]) ++ (p.2.2.2.2.2.1 ++ 0 :: (p.2.2.2.2.2.2 ++ B2)) := by rw [g2]; simp [enc1]
      refine kP_studyPath_43 ⟨_, hg_4_5 S, fun c => ?_, fun _ => ⟨_, hg_4_1 S, _, hn_5 S, fun c => ?_, fun _ => ⟨_, hg_4_1 S, nI p.1, ?_, ?_⟩⟩⟩
      · rw [hP.1, nI_leI (by omega) (by omega)] at c
        omega
      · rw [nI_gel (by omega) (by omega)] at c
        exact absurd (show 1000 ≤ dn.length from c) (by omega)
      · rw [ha_5, nI_t (by omega), if_pos ⟨by omega, by omega⟩, nI_clamp (by omega), g1]
      · have e1 : nI p.1 + 1 = nI (A2 ++ [p.2.2.2.2.1]).length := by rw [nI_1, List.length_append, g3]; rfl
        have e2 : nI A.length + 1 = nI (A ++ [e.1]).length := by rw [nI_1, List.length_append]; rfl
        rw [e1, e2]
        refine sP_clash (d := d) hw n2 n1 g4.1 we.1 ⟨_, rfl, fun c => ?_, fun c => ?_⟩
        · have hm : (bgn p.2.2.2.2.2.1 e.2.1 || bgn e.2.1 p.2.2.2.2.2.1) = false := by
            cases h : (bgn p.2.2.2.2.2.1 e.2.1 || bgn e.2.1 p.2.2.2.2.2.1) with
            | false => rfl
            | true => rw [h] at c; exact absurd c (by decide)
          rw [List.map_cons, List.any_cons, hm, Bool.false_or] at hq
          rw [nI_1]
          have := ih (dn ++ [p]) (by rw [List.append_assoc]; exact hd) hq
          rw [List.length_append, List.length_singleton] at this
          exact this
        · have hm : (bgn p.2.2.2.2.2.1 e.2.1 || bgn e.2.1 p.2.2.2.2.2.1) = true := by
            cases h : (bgn p.2.2.2.2.2.1 e.2.1 || bgn e.2.1 p.2.2.2.2.2.1) with
            | true => rfl
            | false => rw [h] at c; exact absurd rfl c
          rw [List.map_cons, List.any_cons, hm, Bool.true_or] at hq
          exact hq
  have w41 : spB e.2.1 = true → ¬ (op = 3 ∧ e.1 ≠ 16 ∧ e.1 ≠ 18) → sm_W N (d + 2 + 1) mm_P_studyPath 41 [(0, .ref 4), (1, .int (nI A.length))] [] (hp S) Q := by
    intro h1 h2
    refine kP_studyPath_41 ?_
    rw [fP_studyPath_41]
    refine w43 ps [] rfl ?_
    rw [pthF, if_neg (by rw [h1]; decide), if_neg h2] at hQ
    split at hQ
    · rename_i y; rw [if_pos y]; exact hQ
    · rename_i y; rw [if_neg y]; exact hQ
  refine cP_studyPath (hk_4 S) ⟨_, hg_4_0 S, eB_ne (d := d) (j := 6) (by omega) hw hl we ⟨_, rfl, ?_⟩⟩
  rw [nI_1]
  refine sP_isPath (d := d) hw (by omega) (by omega) ⟨_, rfl, fun c => ?_, fun c => ⟨fun c2 => ⟨_, hg_4_0 S, eB_kind (d := d + 1) (j := 6) (by omega) hw hl ⟨_, rfl, sD_isNumber (d := d + 1) hek ⟨_, rfl, fun c3 => ?_, fun c3 => ?_⟩⟩⟩, fun c2 => ?_⟩⟩
  · rw [eB_nm hl] at c
    have hs : spB e.2.1 = false := by
      cases h : spB e.2.1 with
      | false => rfl
      | true => rw [h] at c; exact absurd c (by decide)
    rw [pthF, if_pos hs] at hQ
    exact hQ
  · rw [eB_nm hl] at c
    have hs : spB e.2.1 = true := by
      cases h : spB e.2.1 with
      | true => rfl
      | false => rw [h] at c; exact absurd rfl c
    rw [nI_eql (by omega) (by omega)] at c2
    have o3 : op = 3 := by have : op - 1 = 2 := c2; omega
    have hk : ¬ (e.1 = 16 ∨ e.1 = 18) := fun y => by
      rw [if_pos y] at c3
      exact absurd c3 (by decide)
    rw [pthF, if_neg (by rw [hs]; decide), if_pos ⟨o3, by omega, by omega⟩] at hQ
    exact hQ
  · rw [eB_nm hl] at c
    have hs : spB e.2.1 = true := by
      cases h : spB e.2.1 with
      | true => rfl
      | false => rw [h] at c; exact absurd rfl c
    have hk : e.1 = 16 ∨ e.1 = 18 := by
      by_cases y : e.1 = 16 ∨ e.1 = 18
      · exact y
      · rw [if_neg y] at c3
        exact absurd rfl c3
    exact w41 hs (by omega)
  · rw [eB_nm hl] at c
    have hs : spB e.2.1 = true := by
      cases h : spB e.2.1 with
      | true => rfl
      | false => rw [h] at c; exact absurd rfl c
    rw [nI_eql (by omega) (by omega)] at c2
    have o3 : ¬ op - 1 = 2 := c2
    exact w41 hs (by omega)
theorem sP_enlist {S : sT} {A B : List Nat} {e : El} {op o pi : Nat} {ps : List Pth} (hl : bl S 6 = A ++ (enc1 e ++ B)) (we : wfE e) (hP : PlA S ps) (hps : ps.length ≤ 999) (h5 : S.1 5 = nI o) (h6 : S.1 6 = nI pi) (hQ : ∀ T, frPl S T → T.1 5 = S.1 5 → T.1 6 = S.1 6 → PlA T (ps ++ [(A.length, op, o, pi, e)]) → Q none (hp T)) : sm_V N (d + 1) mm_P_enlist 3 4 [.int (nI A.length), .int (nI (op - 1))] (hp S) Q := by
  have hc4 := hP.1
  refine cP_enlist (hk_4 S) ⟨_, hg_4_5 S, _, hg_4_1 S, _, hn_5 S, fun c => ?_, fun _ => ⟨_, hg_4_1 S, _, hg_4_5 S, ?_⟩⟩
  · rw [hc4, nI_gel (by omega) (by omega)] at c
    exact absurd (show 1000 ≤ ps.length from c) (by omega)
  have cl : (nI ps.length).toNatClampNeg = ps.length := nI_clamp (by omega)
  have bd : 0 ≤ (nI ps.length).toInt ∧ (nI ps.length).toInt < 1000 := by rw [nI_t (by omega)]; exact ⟨by omega, by omega⟩
  refine ⟨_, by rw [hw_5, hc4, if_pos bd, cl], ?_⟩
  have t1 : ∀ k, (sA S 12 (upd (S.2.1 12) ps.length (nI A.length))).2.1 k = if k = 12 then upd (S.2.1 12) ps.length (nI A.length) else S.2.1 k := fun k => by simp [sA, va_up]
  have u1 : (sA S 12 (upd (S.2.1 12) ps.length (nI A.length))).1 = S.1 ∧ (sA S 12 (upd (S.2.1 12) ps.length (nI A.length))).2.2 = S.2.2 := ⟨rfl, rfl⟩
  generalize sA S 12 (upd (S.2.1 12) ps.length (nI A.length)) = S1 at *
  refine ⟨_, hg_4_2 S1, _, hg_4_5 S1, _, by rw [hw_6, u1.1, hc4, if_pos bd, cl], ?_⟩
  have t2 : ∀ k, (sA S1 13 (upd (S1.2.1 13) ps.length (nI (op - 1)))).2.1 k = if k = 13 then upd (S1.2.1 13) ps.length (nI (op - 1)) else S1.2.1 k := fun k => by simp [sA, va_up]
  have u2 : (sA S1 13 (upd (S1.2.1 13) ps.length (nI (op - 1)))).1 = S1.1 ∧ (sA S1 13 (upd (S1.2.1 13) ps.length (nI (op - 1)))).2.2 = S1.2.2 := ⟨rfl, rfl⟩
  generalize sA S1 13 (upd (S1.2.1 13) ps.length (nI (op - 1))) = S2 at *
  refine ⟨_, hg_4_3 S2, _, hg_4_5 S2, _, hg_4_6 S2, _, by rw [hw_7, u2.1, u1.1, hc4, h5, if_pos bd, cl], ?_⟩
  have t3 : ∀ k, (sA S2 14 (upd (S2.2.1 14) ps.length (nI o))).2.1 k = if k = 14 then upd (S2.2.1 14) ps.length (nI o) else S2.2.1 k := fun k => by simp [sA, va_up]
  have u3 : (sA S2 14 (upd (S2.2.1 14) ps.length (nI o))).1 = S2.1 ∧ (sA S2 14 (upd (S2.2.1 14) ps.length (nI o))).2.2 = S2.2.2 := ⟨rfl, rfl⟩
  generalize sA S2 14 (upd (S2.2.1 14) ps.length (nI o)) = S3 at *
  refine ⟨_, hg_4_4 S3, _, hg_4_5 S3, _, hg_4_7 S3, _, by rw [hw_8, u3.1, u2.1, u1.1, hc4, h6, if_pos bd, cl], ?_⟩
  have t4 : ∀ k, (sA S3 15 (upd (S3.2.1 15) ps.length (nI pi))).2.1 k = if k = 15 then upd (S3.2.1 15) ps.length (nI pi) else S3.2.1 k := fun k => by simp [sA, va_up]
  have u4 : (sA S3 15 (upd (S3.2.1 15) ps.length (nI pi))).1 = S3.1 ∧ (sA S3 15 (upd (S3.2.1 15) ps.length (nI pi))).2.2 = S3.2.2 := ⟨rfl, rfl⟩
  generalize sA S3 15 (upd (S3.2.1 15) ps.length (nI pi)) = S4 at *
  refine ⟨_, hg_4_5 S4, _, hu_4_5 S4 _, ?_⟩
  have c4 : S4.1 4 = nI ps.length := by rw [u4.1, u3.1, u2.1, u1.1]; exact hc4
  rw [c4, nI_1]
  have t5 : (sI S4 4 (nI (ps.length + 1))).2 = S4.2 := rfl
  have t6 : ∀ k, k ≠ 4 → (sI S4 4 (nI (ps.length + 1))).1 k = S4.1 k := fun k hk => by simp [sI, va_up, hk]
  have t7 : (sI S4 4 (nI (ps.length + 1))).1 4 = nI (ps.length + 1) := by simp [sI, va_up]
  generalize sI S4 4 (nI (ps.length + 1)) = T at *
  have a12 : T.2.1 12 = upd (S.2.1 12) ps.length (nI A.length) := by rw [t5, t4, if_neg (by omega), t3, if_neg (by omega), t2, if_neg (by omega), t1, if_pos rfl]
  have a13 : T.2.1 13 = upd (S.2.1 13) ps.length (nI (op - 1)) := by rw [t5, t4, if_neg (by omega), t3, if_neg (by omega), t2, if_pos rfl, t1 13, if_neg (by omega)]
  have a14 : T.2.1 14 = upd (S.2.1 14) ps.length (nI o) := by rw [t5, t4, if_neg (by omega), t3, if_pos rfl, t2 14, if_neg (by omega), t1 14, if_neg (by omega)]
  have a15 : T.2.1 15 = upd (S.2.1 15) ps.length (nI pi) := by rw [t5, t4, if_pos rfl, t3 15, if_neg (by omega), t2 15, if_neg (by omega), t1 15, if_neg (by omega)]
  have i1 : ∀ k, k ≠ 4 → T.1 k = S.1 k := fun k hk => by rw [t6 k hk, u4.1, u3.1, u2.1, u1.1]
  have fr : frPl S T := ⟨fun k a _ _ => i1 k a, fun k hk => by rw [t5, t4, if_neg (by omega), t3, if_neg (by omega), t2, if_neg (by omega), t1, if_neg (by omega)], by rw [t5, u4.2, u3.2, u2.2, u1.2]⟩
  refine hQ T fr (i1 5 (by omega)) (i1 6 (by omega)) ⟨by rw [List.length_append]; exact t7, fun i p hp1 => ?_⟩
  rw [frPl_bl fr (by omega), a12, a13, a14, a15]
  by_cases hi : i < ps.length
  · rw [List.getElem?_append_left hi] at hp1
    rw [pk_un (by omega), pk_un (by omega), pk_un (by omega), pk_un (by omega)]
    exact hP.2 i p hp1
  · have hi2 : i = ps.length := by
      have := (List.getElem?_eq_some_iff.mp hp1).1
      rw [List.length_append, List.length_singleton] at this
      omega
    subst hi2
    rw [List.getElem?_append_right (Nat.le_refl _), Nat.sub_self] at hp1
    have : p = (A.length, op, o, pi, e) := (Option.some.inj hp1).symm
    subst this
    rw [pk_us, pk_us, pk_us, pk_us]
    exact ⟨rfl, rfl, rfl, rfl, A, B, hl, rfl, we⟩
end St
