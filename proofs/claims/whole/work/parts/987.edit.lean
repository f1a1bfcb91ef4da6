/-! the class's editor: a step found, an element put in, a value put in another's place -/
theorem spl4 : ∀ {m : List Nat} {a b : Nat}, m.length = 2 + a + b → ∃ x n z v, m = x :: (n ++ (z :: v)) ∧ n.length = a ∧ v.length = b := by
  intro m a b h
  cases m with
  | nil => simp at h; omega
  | cons x m =>
    rw [List.length_cons] at h
    have h2 : (m.drop a).length = b + 1 := by rw [List.length_drop]; omega
    cases hd : m.drop a with
    | nil => rw [hd] at h2; simp at h2
    | cons z v =>
      rw [hd] at h2
      refine ⟨x, m.take a, z, v, by rw [← hd, List.take_append_drop], by rw [List.length_take]; omega, by simpa using h2⟩
theorem okB_sI {S : sT} {j k : Nat} {x : Int32} (hk : k ≠ 30 + j) (h : okB S j) : okB (sI S k x) j := by
  obtain ⟨n, a, b, c⟩ := h
  exact ⟨n, a, by rw [show (sI S k x).1 (30 + j) = S.1 (30 + j) by simp only [sI, va_up]; rw [if_neg (fun z => hk z.symm)]]; exact b, c⟩
theorem bl_sI {S : sT} {j k : Nat} {x : Int32} (hk : k ≠ 30 + j) : bl (sI S k x) j = bl S j := by
  rw [bl, bl, show (sI S k x).1 (30 + j) = S.1 (30 + j) by simp only [sI, va_up]; rw [if_neg (fun z => hk z.symm)]]
  rfl
section Ed2
variable {N d : Nat} {Q : Option Value → sm_H → Prop}
theorem eB_put1 {S : sT} {j : Nat} {A B : List Nat} {x : Nat} {v : Int32} (hj : j < 11) (hw : okB S j) (hl : bl S j = A ++ (x :: B)) (hQ : ∀ T, eqB j (A ++ (ub v :: B)) S T → Q none (hp T)) : sm_V N (d + 1) mm_B_put 0 (11 + 2 * j) [.int (nI A.length), .int v] (hp S) Q := by
  have hlen := bl_lenB hw
  have hc := caps_le j
  have q := congrArg List.length hl
  simp only [List.length_append, List.length_cons] at q
  refine sB_put hj hw (by rw [nI_t (by omega)]; omega) (fun T hT => hQ T ?_)
  rw [nI_t (by omega), Int.toNat_natCast, hl] at hT
  have : (A ++ x :: B).set A.length (ub v) = A ++ (ub v :: B) := by simp [List.set_append]
  rw [this] at hT
  exact hT
theorem eB_wr {S : sT} {j j2 a b : Nat} {A B w s : List Nat} (hj : j < 11) (hw : okB S j) (hj2 : j2 < 11) (hw2 : okB S j2) (hab : a ≤ b) (hb : b ≤ (bl S j2).length) (hs : slice (bl S j2) a b = s) (hl : bl S j = A ++ (w ++ B)) (hwl : w.length = b - a) (hQ : ∀ T, eqB j (A ++ (s ++ B)) S T → Q none (hp T)) : sm_V N (d + 1) mm_B_write 0 (11 + 2 * j) [.int (nI A.length), .ref (11 + 2 * j2), .int (nI a), .int (nI b)] (hp S) Q := by
  have q := congrArg List.length hl
  simp only [List.length_append] at q
  refine sB_write hj hw hj2 hw2 hab hb (by omega) (fun T hT => hQ T ?_)
  have h1 : (bl S j).take A.length = A := by rw [hl]; exact List.take_left
  have h2 : (bl S j).drop (A.length + (b - a)) = B := by
    rw [hl, ← List.append_assoc]
    exact List.drop_left' (by rw [List.length_append, hwl])
  rw [h1, h2, show ((bl S j2).drop a).take (b - a) = s from hs, List.append_assoc] at hT
  exact hT
theorem sE_stepEnd {S : sT} {j x e : Nat} (hj : j < 11) (hw : okB S j) (hx : x ≤ e) (he : e ≤ (bl S j).length) (hQ : Q (some (.int (nI (x + (tw46 (slice (bl S j) x e)).length)))) (hp S)) : sm_T N (d + 2) mm_E_stepEnd [.ref (11 + 2 * j), .int (nI x), .int (nI e)] (hp S) Q := by
  have hlen := bl_lenB hw
  have hc := caps_le j
  have key : ∀ (m y : Nat), y + m = e → Q (some (.int (nI (y + (tw46 (slice (bl S j) y e)).length)))) (hp S) → sm_W N (d + 1 + 1) mm_E_stepEnd 2 [(0, .ref (11 + 2 * j)), (2, .int (nI e)), (3, .int (nI y))] [] (hp S) Q := by
    intro m
    induction m with
    | zero =>
      intro y hy hq
      have : y = e := by omega
      subst this
      rw [sl_nil (Nat.le_refl _)] at hq
      exact kE_stepEnd_2 ⟨fun _ => hq, fun c => absurd ((nI_leI (by omega) (by omega)).mpr (Nat.le_refl _)) c⟩
    | succ m ih =>
      intro y hy hq
      rw [sl_cons (by omega) (by omega)] at hq
      have hb := bl_lt S j y
      refine kE_stepEnd_2 ⟨fun c => absurd ((nI_leI (by omega) (by omega)).mp c) (by omega), fun _ => sB_atn hj hw (by omega) ⟨_, rfl, fun c => ?_, fun c => ?_⟩⟩
      · rw [nI_eql (by omega) (by omega)] at c
        have c46 : (bl S j).getD y 0 = 46 := c
        rw [c46, tw46, List.takeWhile_cons_of_neg (by simp)] at hq
        exact hq
      · rw [nI_eql (by omega) (by omega)] at c
        have c46 : ¬ (bl S j).getD y 0 = 46 := c
        rw [nI_1]
        refine ih (y + 1) (by omega) ?_
        rw [tw46, List.takeWhile_cons_of_pos (by simpa using c46), List.length_cons] at hq
        rw [show y + 1 + (tw46 (slice (bl S j) (y + 1) e)).length = y + (((slice (bl S j) (y + 1) e).takeWhile (fun b => b != 46)).length + 1) by rw [tw46]; omega]
        exact hq
  exact cE_stepEnd (key (e - x) x (by omega) hQ)
theorem sE_enter {S : sT} {n : Nat} {x k : Int32} (h7 : S.1 7 = nI n) (hn : n < 9) (hQ : ∀ T, T.1 7 = nI (n + 1) → T.1 8 = k → T.2.1 16 = upd (S.2.1 16) n x → (∀ i, i ≠ 7 → i ≠ 8 → T.1 i = S.1 i) → (∀ i, i ≠ 16 → T.2.1 i = S.2.1 i) → T.2.2 = S.2.2 → Q none (hp T)) : sm_V N (d + 1) mm_E_enter 2 9 [.int x, .int k] (hp S) Q := by
  refine cE_enter (hk_9 S) ⟨_, hg_9_5 S, _, hg_9_1 S, _, hn_10 S, fun c => ?_, fun _ => ⟨_, hg_9_1 S, _, hg_9_5 S, hp (sA S 16 (upd (S.2.1 16) n x)), ?_, _, hg_9_5 _, _, hu_9_5 _ _, _, hu_9_6 _ _, ?_⟩⟩
  · rw [h7, nI_gel (by omega) (by omega)] at c
    exact absurd (show 9 ≤ n from c) (by omega)
  · rw [h7, hw_10, nI_t (by omega), if_pos ⟨by omega, by omega⟩, nI_clamp (by omega)]
  · have e7 : (sA S 16 (upd (S.2.1 16) n x)).1 7 = nI n := h7
    rw [e7, nI_1]
    refine hQ _ ?_ ?_ ?_ ?_ ?_ rfl
    · simp [sI, va_up]
    · simp [sI, va_up]
    · simp [sI, sA, va_up]
    · intro i h1 h2
      simp [sI, sA, va_up, h1, h2]
    · intro i h1
      simp [sI, sA, va_up, h1]
theorem sE_findStep {S : sT} {fs : List Frm} {es : List El} {k x y : Nat} {w : List Nat} (hw6 : okB S 6) (hw7 : okB S 7) (hw9 : okB S 9) (hH : HS S fs) (hf : fs.length ≤ 8) (hl : bl S 7 = plg fs (encD es)) (hes : ∀ e ∈ es, wfE e) (h8 : S.1 8 = nI k) (hk : k = 3 ∨ k = 4) (h10 : S.1 10 = nI x) (h11 : S.1 11 = nI y) (hxy : x ≤ y) (hy : y ≤ (bl S 6).length) (hsl : slice (bl S 6) x y = w)
    (h1 : ∀ l1 e l2, fsp w es = some (l1, e, l2) → Q (some (.int 0)) (hp (sI S 9 (nI (off fs + 4 + (encs l1).length)))))
    (h3 : fsp w es = none → k = 3 → Q (some (.int 1)) (hp (sI S 9 (-1))))
    (h4 : fsp w es = none → k = 4 → ∀ T, eqB 9 (dg es.length) (sI S 9 (-1)) T → Q (some (.int (if w = dg es.length then 1 else 0))) (hp T)) :
    sm_V N (d + 2 + 1) mm_E_findStep 2 9 [.ref 23] (hp S) Q := by
  have hlen := bl_lenB hw7
  rw [caps7] at hlen
  have hlen6 := bl_lenB hw6
  rw [caps6] at hlen6
  obtain ⟨A, B, hA, hAB⟩ := nst_c fs (szs fs (encs es).length)
  have hl1 : bl S 7 = A ++ (encs es ++ B) := by rw [hl, plg_nst, hAB]
  have hl0 : ∃ A0 B0, A0.length = off fs ∧ bl S 7 = A0 ++ (encD es ++ B0) := by
    have key : ∀ fs : List Frm, ∃ A0 B0, A0.length = off fs ∧ plg fs (encD es) = A0 ++ (encD es ++ B0) := by
      intro fs
      induction fs with
      | nil => exact ⟨[], [], rfl, by simp [plg]⟩
      | cons f fs ih =>
        obtain ⟨A0, B0, q1, q2⟩ := ih
        refine ⟨le4 (5 + (encs (f.1 ++ (f.2.1, f.2.2.1, plg fs (encD es)) :: f.2.2.2)).length) ++ (encs f.1 ++ (f.2.1 :: (f.2.2.1 ++ 0 :: A0))), B0 ++ (encs f.2.2.2 ++ [0]), ?_, ?_⟩
        · simp only [List.length_append, le4_len, List.length_cons, q1, off]
          omega
        · rw [plg, encD, encs_app, encs_cons, enc1, q2]
          simp
    obtain ⟨A0, B0, q1, q2⟩ := key fs
    exact ⟨A0, B0, q1, by rw [hl]; exact q2⟩
  obtain ⟨A0, B0, hA0, hl0⟩ := hl0
  have hll := congrArg List.length hl1
  rw [List.length_append, hA, List.length_append] at hll
  have hlb : S.1 37 = nI (bl S 7).length := by
    obtain ⟨nn, a1, a2, a3⟩ := hw7
    have a2' : S.1 37 = nI nn := a2
    rw [a2', bl_len a1 a2]
  have hes2 := es_le es
  -- nothing found
  have w91 : fsp w es = none → sm_W N (d + 2 + 1) mm_E_findStep 91 [(0, .ref 9), (1, .ref 23), (4, .int (nI es.length))] [] (hp S) Q := by
    intro hno
    refine kE_findStep_91 ⟨_, hu_9_7 S _, ?_⟩
    have i8 : (sI S 9 (-1)).1 8 = nI k := by simp [sI, va_up]; exact h8
    have i10 : (sI S 9 (-1)).1 10 = nI x := by simp [sI, va_up]; exact h10
    have i11 : (sI S 9 (-1)).1 11 = nI y := by simp [sI, va_up]; exact h11
    have b6 : bl (sI S 9 (-1)) 6 = bl S 6 := bl_sI (by omega)
    have k6 : okB (sI S 9 (-1)) 6 := okB_sI (by omega) hw6
    have k9 : okB (sI S 9 (-1)) 9 := okB_sI (by omega) hw9
    generalize sI S 9 (-1) = S1 at *
    refine ⟨_, hg_9_6 S1, ?_⟩
    rw [i8]
    refine ⟨fun c => ⟨_, hg_9_3 S1, ?_⟩, fun c => ?_⟩
    · rw [nI_eql (by omega) (by omega)] at c
      have k4 : k = 4 := c
      have hnd := nd_le es.length
      refine sB_digits (j := 9) (d := d) (by omega) k9 (by omega) (by rw [show caps 9 = 10 from rfl]; omega) (fun T hT => ⟨rfl, _, hg_9_3 T, _, hg_9_3 T, _, hb_g1 (j := 9) T (by omega), _, hg_9_8 T, _, hg_9_9 T, ?_⟩)
      have t39 : T.1 (30 + 9) = nI (dg es.length).length := by
        obtain ⟨nn, a1, a2, a3⟩ := hT.2.1
        rw [a2]
        congr 1
        rw [← hT.2.2]
        exact (bl_len a1 a2).symm
      rw [t39, eqB_i hT (by omega), eqB_i hT (by omega), i10, i11]
      have t6 : bl T 6 = bl S 6 := by rw [eqB_bl hT (by omega), b6]
      refine sD_sameRange (j := 9) (j2 := 6) (a := 0) (b := (dg es.length).length) (d := d) (by omega) hT.2.1 (by omega) (eqB_ok hT k6) (by omega) (by rw [hT.2.2]; exact Nat.le_refl _) hxy (by rw [t6]; exact hy) ⟨_, rfl, ?_, ?_⟩
      · split
        · exact Or.inr rfl
        · exact Or.inl rfl
      · have hq := h4 hno k4 T hT
        rw [hT.2.2, sl_all, t6, hsl]
        by_cases z : dg es.length = w
        · rw [if_pos z]
          rw [if_pos z.symm] at hq
          exact hq
        · rw [if_neg z]
          rw [if_neg (fun y => z y.symm)] at hq
          exact hq
    · rw [nI_eql (by omega) (by omega)] at c
      have k3 : ¬ k = 4 := c
      exact h3 hno (by omega)
  -- the loop
  have key : ∀ (gs ds : List El), ds ++ gs = es → (∀ x ∈ ds, x.2.1 ≠ w) → sm_W N (d + 2 + 1) mm_E_findStep 22 [(0, .ref 9), (1, .ref 23), (2, .int (nI (off fs + 4 + (encs es).length))), (3, .int (nI (off fs + 4 + (encs ds).length))), (4, .int (nI ds.length))] [] (hp S) Q := by
    intro gs
    induction gs with
    | nil =>
      intro ds hds hno
      rw [List.append_nil] at hds
      subst hds
      have hn : fsp w ds = none := by
        cases h : fsp w ds with
        | none => rfl
        | some q =>
          obtain ⟨l1, e, l2⟩ := q
          obtain ⟨q1, q2, -⟩ := fsp_some h
          exact absurd q2 (hno e (by rw [q1]; simp))
      exact kE_findStep_22 ⟨_, hg_9_0 S, _, hb_g1 (j := 7) S (by omega), fun _ => w91 hn, fun _ => ⟨fun _ => w91 hn, fun c => absurd ((nI_leI (by omega) (by omega)).mpr (Nat.le_refl _)) c⟩⟩
    | cons e gs ih =>
      intro ds hds hno
      have hq := congrArg (fun l => (encs l).length) hds
      simp only [encs_app, encs_cons, List.length_append] at hq
      have hee := enc1_len e
      have we := hes e (by rw [← hds]; simp)
      have hle := es_le ds
      have g1 : bl S 7 = (A ++ encs ds) ++ (enc1 e ++ (encs gs ++ B)) := by rw [hl1, ← hds, encs_app, encs_cons]; simp
      have hpl : off fs + 4 + (encs ds).length = (A ++ encs ds).length := by rw [List.length_append, hA]
      refine kE_findStep_22 ⟨_, hg_9_0 S, _, hb_g1 (j := 7) S (by omega), fun c => ?_, fun _ => ⟨fun c => ?_, fun _ => ⟨_, hg_9_0 S, _, hg_9_0 S, ?_⟩⟩⟩
      · rw [show S.1 (30 + 7) = S.1 37 from rfl, hlb, nI_leI (by omega) (by omega)] at c
        omega
      · rw [nI_leI (by omega) (by omega)] at c
        omega
      · rw [hpl]
        refine eB_ne (j := 7) (d := d) (by omega) hw7 g1 we ⟨_, rfl, _, hg_9_8 S, _, hg_9_9 S, ?_⟩
        have hb := eB_len hw7 g1
        rw [h10, h11, nI_1]
        refine sD_sameRange (j := 7) (j2 := 6) (d := d) (by omega) hw7 (by omega) hw6 (by omega) (by omega) hxy hy ⟨_, rfl, fun c => ?_, fun c => ?_⟩
        · rw [eB_nm g1, hsl] at c
          have hne : ¬ e.2.1 = w := fun z => by
            rw [if_pos z] at c
            exact absurd c (by decide)
          refine ⟨_, hg_9_0 S, eB_ve (j := 7) (d := d) (by omega) hw7 g1 we ⟨_, rfl, ?_⟩⟩
          rw [nI_1]
          have := ih (ds ++ [e]) (by rw [List.append_assoc]; exact hds) (fun z hz => by
            rcases List.mem_append.mp hz with hz | hz
            · exact hno z hz
            · rw [List.mem_singleton.mp hz]; exact hne)
          rw [List.length_append, List.length_singleton, encs_app, encs_cons, encs_nil, List.append_nil, List.length_append] at this
          rw [List.length_append, ← hpl, Nat.add_assoc (off fs + 4)]
          exact this
        · rw [eB_nm g1, hsl] at c
          have heq : e.2.1 = w := by
            by_cases z : e.2.1 = w
            · exact z
            · rw [if_neg z] at c
              exact absurd rfl c
          have hfs : fsp w es = some (ds, e, gs) := by
            have : ∀ (ds : List El), (∀ x ∈ ds, x.2.1 ≠ w) → fsp w (ds ++ e :: gs) = some (ds, e, gs) := by
              intro ds
              induction ds with
              | nil => intro _; rw [List.nil_append, fsp, if_pos heq]
              | cons a ds ihd =>
                intro h
                rw [List.cons_append, fsp, if_neg (h a List.mem_cons_self), ihd (fun x hx => h x (List.mem_cons_of_mem _ hx))]
            rw [← hds]
            exact this ds hno
          refine ⟨_, hu_9_7 S _, ?_⟩
          rw [← hpl]
          exact h1 ds e gs hfs
  refine cE_findStep (hk_9 S) ⟨_, hg_9_0 S, sE_holder (d := d + 1) hH hf ⟨_, rfl, ?_⟩⟩
  rw [← hA0]
  refine eB_last (j := 7) (d := d) (by omega) hw7 hl0 ⟨_, rfl, sE_holder (d := d + 1) hH hf ⟨_, rfl, ?_⟩⟩
  rw [hA0, nI_al]
  exact key es [] rfl (fun x hx => absurd hx (by simp))
end Ed2
