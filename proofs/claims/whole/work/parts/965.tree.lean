/-! trees with a hole: what stays when the inside changes -/
/-- a node's own value (not its name) is the same -/
def sVal (S T : sT) (i : Nat) : Prop := T.2.1 18 i = S.2.1 18 i ∧ T.2.2 i = S.2.2 i ∧ T.2.1 21 i = S.2.1 21 i ∧ T.2.1 22 i = S.2.1 22 i ∧ T.2.1 23 i = S.2.1 23 i ∧ T.2.1 25 i = S.2.1 25 i
theorem sOwn_val {S T : sT} {i : Nat} (h : sOwn S T i) : sVal S T i := ⟨h.1, h.2.1, h.2.2.1, h.2.2.2.1, h.2.2.2.2.1, h.2.2.2.2.2.1⟩
theorem leafV_fr2 {S T : sT} {nd k : Nat} {raw : List Nat} (ho : sVal S T nd) (hs : stl T = stl S) (h : leafV S nd k raw) : leafV T nd k raw := by
  obtain ⟨o1, o2, o3, o4, o5, o6⟩ := ho
  unfold leafV at h ⊢
  rw [o5, o2, o3, o4, hs]
  exact h
theorem RV_fr2 {S T : sT} (hs : stl T = stl S) {t nd k : Nat} {raw fp : List Nat} (hnd : fp.Nodup) (hv : sVal S T nd) (ho : ∀ i ∈ fp, i ≠ nd → sOwn S T i ∧ T.2.1 24 i = S.2.1 24 i) (h : RV t S nd k raw fp) : RV t T nd k raw fp := by
  cases t with
  | zero =>
    obtain ⟨h1, h2, h3, h4, h5⟩ := h
    exact ⟨h1, by rw [hv.1]; exact h2, h3, h4, leafV_fr2 hv hs h5⟩
  | succ t =>
    obtain ⟨h1, h2, h3, h4⟩ := h
    refine ⟨h1, by rw [hv.1]; exact h2, h3, ?_⟩
    rcases h4 with h4 | ⟨g1, g2, es, ks, f2, g3, g4, g5, g6⟩
    · exact Or.inl ⟨h4.1, leafV_fr2 hv hs h4.2⟩
    · subst g4
      obtain ⟨n1, n2⟩ := List.nodup_cons.mp hnd
      have kin := RL_in g6
      refine Or.inr ⟨g1, by rw [hv.2.1]; exact g2, es, ks, f2, g3, rfl, ⟨?_, by rw [hv.2.2.2.2.2]; exact g5.2⟩, ?_⟩
      · rw [hv.2.2.2.2.1]
        exact Ch_frame (fun q hq => (ho q (List.mem_cons_of_mem _ (kin q hq)) (fun z => n1 (z ▸ kin q hq))).2) g5.1
      · exact RL_frame hs n2 (fun q hq => (ho q (List.mem_cons_of_mem _ hq) (fun z => n1 (z ▸ hq))).1) (fun q hq _ => (ho q (List.mem_cons_of_mem _ hq) (fun z => n1 (z ▸ hq))).2) g6
theorem RL_mono {pv pv2 : Nat → Nat → List Nat → List Nat → Prop} {S : sT} {k : Nat} (h : ∀ n k raw f, pv n k raw f → pv2 n k raw f) : ∀ {ks : List Nat} {es : List El} {fp : List Nat} {i : Nat}, RL pv S k i ks es fp → RL pv2 S k i ks es fp := by
  intro ks
  induction ks with
  | nil =>
    intro es fp i hr
    cases es with
    | nil => exact hr
    | cons e es => exact absurd hr (by simp [RL])
  | cons n ks ih =>
    intro es fp i hr
    cases es with
    | nil => exact absurd hr (by simp [RL])
    | cons e es =>
      obtain ⟨f1, f2, h1, h2, h3, h4, h5⟩ := hr
      exact ⟨f1, f2, h1, h2, h3, h _ _ _ _ h4, ih h5⟩
theorem RV_up {S : sT} : ∀ {t nd k : Nat} {raw fp : List Nat}, RV t S nd k raw fp → RV (t + 1) S nd k raw fp := by
  intro t
  induction t with
  | zero => intro nd k raw fp h; exact ⟨h.1, h.2.1, h.2.2.1, Or.inl ⟨h.2.2.2.1, h.2.2.2.2⟩⟩
  | succ t ih =>
    intro nd k raw fp h
    refine ⟨h.1, h.2.1, h.2.2.1, ?_⟩
    rcases h.2.2.2 with a | ⟨g1, g2, es, ks, f2, g3, g4, g5, g6⟩
    · exact Or.inl a
    · exact Or.inr ⟨g1, g2, es, ks, f2, g3, g4, g5, RL_mono (fun _ _ _ _ h => ih h) g6⟩
theorem RV_le {S : sT} {t : Nat} : ∀ {u nd k : Nat} {raw fp : List Nat}, RV t S nd k raw fp → RV (t + u) S nd k raw fp := by
  intro u
  induction u with
  | zero => intro nd k raw fp h; exact h
  | succ u ih => intro nd k raw fp h; exact RV_up (ih h)
theorem RL_app {pv : Nat → Nat → List Nat → List Nat → Prop} {S : sT} {k : Nat} {l2 : List El} {ks2 f2 : List Nat} : ∀ {l1 : List El} {ks1 f1 : List Nat} {i : Nat}, RL pv S k i ks1 l1 f1 → RL pv S k (i + l1.length) ks2 l2 f2 → RL pv S k i (ks1 ++ ks2) (l1 ++ l2) (f1 ++ f2) := by
  intro l1
  induction l1 with
  | nil =>
    intro ks1 f1 i h h2
    cases ks1 with
    | nil =>
      have : f1 = [] := h
      subst this
      exact h2
    | cons n ks => exact absurd h (by simp [RL])
  | cons e l1 ih =>
    intro ks1 f1 i h h2
    cases ks1 with
    | nil => exact absurd h (by simp [RL])
    | cons n ks =>
      obtain ⟨g1, g2, rfl, b2, b3, b4, b5⟩ := h
      refine ⟨g1, g2 ++ f2, by simp, b2, b3, b4, ih b5 ?_⟩
      rw [List.length_cons] at h2
      rw [show i + 1 + l1.length = i + (l1.length + 1) by omega]
      exact h2
theorem RL_un {pv : Nat → Nat → List Nat → List Nat → Prop} {S : sT} {k : Nat} {l2 : List El} : ∀ {l1 : List El} {ks fp : List Nat} {i : Nat}, RL pv S k i ks (l1 ++ l2) fp → ∃ ks1 ks2 f1 f2, ks = ks1 ++ ks2 ∧ fp = f1 ++ f2 ∧ ks1.length = l1.length ∧ RL pv S k i ks1 l1 f1 ∧ RL pv S k (i + l1.length) ks2 l2 f2 := by
  intro l1
  induction l1 with
  | nil => intro ks fp i h; exact ⟨[], ks, [], fp, rfl, rfl, rfl, rfl, h⟩
  | cons e l1 ih =>
    intro ks fp i h
    cases ks with
    | nil => exact absurd h (by simp [RL])
    | cons n ks =>
      obtain ⟨g1, g2, rfl, b2, b3, b4, b5⟩ := h
      obtain ⟨ks1, ks2, f1, f2, rfl, rfl, c1, c2, c3⟩ := ih b5
      refine ⟨n :: ks1, ks2, g1 ++ f1, f2, rfl, by simp, by simp [c1], ⟨g1, f1, rfl, b2, b3, b4, c2⟩, ?_⟩
      rw [List.length_cons, show i + (l1.length + 1) = i + 1 + l1.length by omega]
      exact c3
theorem RL_nd {t : Nat} {S S0 : sT} {k : Nat} : ∀ {ks : List Nat} {es : List El} {fp : List Nat} {i : Nat}, fp.Nodup → RL (RV t S) S0 k i ks es fp → ks.Nodup := by
  intro ks
  induction ks with
  | nil => intro es fp i _ _; exact List.nodup_nil
  | cons n ks ih =>
    intro es fp i hnd h
    cases es with
    | nil => exact absurd h (by simp [RL])
    | cons e es =>
      obtain ⟨g1, g2, rfl, b2, b3, b4, b5⟩ := h
      obtain ⟨n1, n2, n3⟩ := List.nodup_append.mp hnd
      refine List.nodup_cons.mpr ⟨fun z => ?_, ih n2 b5⟩
      obtain ⟨f3, rfl⟩ := RV_hd b4
      exact n3 n List.mem_cons_self n (RL_in b5 n z) rfl
theorem le4_b (n : Nat) : ∀ b ∈ le4 n, b < 256 := by
  intro b hb
  simp [le4] at hb
  omega
theorem encD_b {es : List El} : (∀ b ∈ encD es, b < 256) ↔ ∀ b ∈ encs es, b < 256 := by
  constructor
  · intro h b hb
    exact h b (by rw [encD]; simp [hb])
  · intro h b hb
    rw [encD] at hb
    rcases List.mem_append.mp hb with hb | hb
    · exact le4_b _ b hb
    · rcases List.mem_append.mp hb with hb | hb
      · exact h b hb
      · rw [List.mem_singleton.mp hb]; omega
theorem encs_b {l1 l2 : List El} : (∀ b ∈ encs (l1 ++ l2), b < 256) ↔ (∀ b ∈ encs l1, b < 256) ∧ ∀ b ∈ encs l2, b < 256 := by
  rw [encs_app]
  constructor
  · intro h
    exact ⟨fun b hb => h b (List.mem_append_left _ hb), fun b hb => h b (List.mem_append_right _ hb)⟩
  · intro h b hb
    rcases List.mem_append.mp hb with hb | hb
    · exact h.1 b hb
    · exact h.2 b hb
theorem encs_bc {e : El} {l : List El} : (∀ b ∈ encs (e :: l), b < 256) ↔ (e.1 < 256 ∧ (∀ b ∈ e.2.1, b < 256) ∧ (∀ b ∈ e.2.2, b < 256)) ∧ ∀ b ∈ encs l, b < 256 := by
  rw [encs_cons, enc1]
  constructor
  · intro h
    exact ⟨⟨h _ (by simp), fun b hb => h b (by simp [hb]), fun b hb => h b (by simp [hb])⟩, fun b hb => h b (by simp [hb])⟩
  · intro h b hb
    simp at hb
    rcases hb with rfl | hb | rfl | hb | hb
    · exact h.1.1
    · exact h.1.2.1 b hb
    · omega
    · exact h.1.2.2 b hb
    · exact h.2 b hb
/-- a node that holds these elements; its children, and the nodes they take -/
def RH (t : Nat) (S : sT) (p k : Nat) (es : List El) (ks f : List Nat) : Prop := p < 6000 ∧ S.2.1 18 p = nI k ∧ (k = 3 ∨ k = 4) ∧ S.2.2 p = 0 ∧ (∀ b ∈ encs es, b < 256) ∧ Kids S p ks ∧ RL (RV t S) S k 0 ks es f
theorem RH_RV {t : Nat} {S : sT} {p k : Nat} {es : List El} {ks f : List Nat} (h : RH t S p k es ks f) : RV (t + 1) S p k (encD es) (p :: f) := by
  obtain ⟨h1, h2, h3, h4, h5, h6, h7⟩ := h
  exact ⟨h1, h2, encD_b.mpr h5, Or.inr ⟨h3, h4, es, ks, f, rfl, rfl, h6, h7⟩⟩
theorem RV_RH {t : Nat} {S : sT} {p k : Nat} {raw fp : List Nat} (hk : k = 3 ∨ k = 4) (hl : raw.length < 100000) (h : RV (t + 1) S p k raw fp) : ∃ ks f, raw = encD (els raw) ∧ fp = p :: f ∧ RH t S p k (els raw) ks f := by
  obtain ⟨h1, h2, h3, h4⟩ := h
  rcases h4 with h4 | ⟨g1, g2, es, ks, f2, g3, g4, g5, g6⟩
  · exact absurd hk (leaf_k h4.2)
  · have hl2 := hl
    rw [g3, encD_len] at hl2
    have he : els raw = es := by rw [g3]; exact els_encD (RL_wf (by omega) g6)
    rw [he]
    rw [g3] at h3
    exact ⟨ks, f2, g3, g4, h1, h2, g1, g2, encD_b.mp h3, g5, g6⟩
theorem RH_mid {t : Nat} {S : sT} {p k : Nat} {l1 l2 : List El} {e : El} {ks f : List Nat} (hnd : (p :: f).Nodup) (h : RH t S p k (l1 ++ e :: l2) ks f) : ∃ ks1 q ks2 f1 fe f2, ks = ks1 ++ q :: ks2 ∧ f = f1 ++ (fe ++ f2) ∧ ks1.length = l1.length ∧ RV t S q e.1 e.2.2 fe ∧ RL (RV t S) S k 0 ks1 l1 f1 ∧ RL (RV t S) S k (l1.length + 1) ks2 l2 f2 ∧ (if k = 4 then e.2.1 = dg l1.length else NmN S q e.2.1) ∧ (∀ b ∈ e.2.1, b ≠ 0) ∧
    ∀ T k2 raw2 f3, stl T = stl S → sOwn S T p → (∀ i, i ∈ f1 ∨ i ∈ f2 → sOwn S T i ∧ T.2.1 24 i = S.2.1 24 i) → T.2.1 24 q = S.2.1 24 q → T.2.1 19 q = S.2.1 19 q → T.2.1 20 q = S.2.1 20 q → RV t T q k2 raw2 f3 → RH t T p k (l1 ++ (k2, e.2.1, raw2) :: l2) ks (f1 ++ (f3 ++ f2)) := by
  obtain ⟨h1, h2, h3, h4, h5, h6, h7⟩ := h
  obtain ⟨ks1, ks2', f1, f2', rfl, rfl, c1, c2, c3⟩ := RL_un h7
  cases ks2' with
  | nil => exact absurd c3 (by simp [RL])
  | cons q ks2 =>
    obtain ⟨fe, f2, rfl, b2, b3, b4, b5⟩ := c3
    rw [Nat.zero_add] at b2 b5
    obtain ⟨n1, n2⟩ := List.nodup_cons.mp hnd
    obtain ⟨n3, n4, n5⟩ := List.nodup_append.mp n2
    obtain ⟨n6, n7, n8⟩ := List.nodup_append.mp n4
    refine ⟨ks1, q, ks2, f1, fe, f2, rfl, rfl, c1, b4, c2, b5, b2, b3, ?_⟩
    intro T k2 raw2 f3 hs hop hof hq24 hq19 hq20 hT
    obtain ⟨e1, e2⟩ := encs_b.mp h5
    obtain ⟨e3, e4⟩ := encs_bc.mp e2
    have kin1 := RL_in c2
    have kin2 := RL_in b5
    refine ⟨h1, by rw [hop.1]; exact h2, h3, by rw [hop.2.1]; exact h4, encs_b.mpr ⟨e1, encs_bc.mpr ⟨⟨(RV_k hT).2.2, e3.2.1, ?_⟩, e4⟩⟩, ⟨?_, by rw [hop.2.2.2.2.2.1]; exact h6.2⟩, ?_⟩
    · cases t with
      | zero => exact hT.2.2.1
      | succ t => exact hT.2.2.1
    · rw [hop.2.2.2.2.1]
      refine Ch_frame (fun i hi => ?_) h6.1
      rcases List.mem_append.mp hi with hi | hi
      · exact (hof i (Or.inl (kin1 i hi))).2
      · rcases List.mem_cons.mp hi with rfl | hi
        · exact hq24
        · exact (hof i (Or.inr (kin2 i hi))).2
    · refine RL_app (RL_frame hs n3 (fun i hi => (hof i (Or.inl hi)).1) (fun i hi _ => (hof i (Or.inl hi)).2) c2) ?_
      refine ⟨f3, f2, rfl, ?_, b3, hT, ?_⟩
      · by_cases c4 : k = 4
        · rw [if_pos c4] at b2 ⊢; rw [Nat.zero_add]; exact b2
        · rw [if_neg c4] at b2 ⊢
          obtain ⟨a, a1, a2, a3, a4⟩ := b2
          exact ⟨a, by rw [hq19]; exact a1, by rw [hq20]; exact a2, a3, by rw [hs]; exact a4⟩
      · rw [Nat.zero_add]
        exact RL_frame hs n7 (fun i hi => (hof i (Or.inr hi)).1) (fun i hi _ => (hof i (Or.inr hi)).2) b5
/-- a frame: the elements before, kind and name of the holder that is gone into, the elements behind -/
abbrev Frm : Type := List El × Nat × List Nat × List El
def plg : List Frm → List Nat → List Nat
  | [], raw => raw
  | f :: r, raw => encD (f.1 ++ (f.2.1, f.2.2.1, plg r raw) :: f.2.2.2)
theorem plg_app (gs : List Frm) (raw : List Nat) : ∀ fs : List Frm, plg (fs ++ gs) raw = plg fs (plg gs raw) := by
  intro fs
  induction fs with
  | nil => rfl
  | cons f fs ih => rw [List.cons_append, plg, plg, ih]
def frO (S T : sT) (O : Nat → Prop) (p : Nat) : Prop := stl T = stl S ∧ (∀ q, O q → sOwn S T q ∧ T.2.1 24 q = S.2.1 24 q) ∧ T.2.1 24 p = S.2.1 24 p ∧ T.2.1 19 p = S.2.1 19 p ∧ T.2.1 20 p = S.2.1 20 p
theorem frO_tr {S T U : sT} {O : Nat → Prop} {p : Nat} (h1 : frO S T O p) (h2 : frO T U O p) : frO S U O p := ⟨h2.1.trans h1.1, fun q hq => ⟨sOwn_tr (h1.2.1 q hq).1 (h2.2.1 q hq).1, (h2.2.1 q hq).2.trans (h1.2.1 q hq).2⟩, h2.2.2.1.trans h1.2.2.1, h2.2.2.2.1.trans h1.2.2.2.1, h2.2.2.2.2.trans h1.2.2.2.2⟩
/-- the tree from R on has a hole at p: whatever fits there, the whole fits -/
def Hol (S : sT) (R t : Nat) (fs : List Frm) (p k u : Nat) (O : Nat → Prop) : Prop := ∀ T raw f, frO S T O p → f.Nodup → (∀ q ∈ f, ¬ O q) → RV u T p k raw f → ∃ fp, fp.Nodup ∧ (∀ q ∈ fp, O q ∨ q ∈ f) ∧ RV t T R 3 (plg fs raw) fp
theorem Hol_rt (S : sT) (R t : Nat) : Hol S R t [] R 3 t (fun _ => False) := fun _ _ f _ hn _ hv => ⟨f, hn, fun _ hq => Or.inr hq, hv⟩
theorem Hol_fr {S T : sT} {R t : Nat} {fs : List Frm} {p k u : Nat} {O : Nat → Prop} (h : Hol S R t fs p k u O) (hf : frO S T O p) : Hol T R t fs p k u O := fun U raw f hU => h U raw f (frO_tr hf hU)
theorem Hol_in {S : sT} {R t : Nat} {fs : List Frm} {p k u : Nat} {O : Nat → Prop} {l1 l2 : List El} {e : El} {ks f : List Nat} (h : Hol S R t fs p k (u + 1) O) (hR : RH u S p k (l1 ++ e :: l2) ks f) (hnd : (p :: f).Nodup) (hO : ∀ q ∈ p :: f, ¬ O q) : ∃ ks1 q ks2 fq, ∃ O2 : Nat → Prop, ks = ks1 ++ q :: ks2 ∧ ks1.length = l1.length ∧ Hol S R t (fs ++ [(l1, e.1, e.2.1, l2)]) q e.1 u O2 ∧ RV u S q e.1 e.2.2 fq ∧ fq.Nodup ∧ (∀ i ∈ fq, ¬ O2 i) ∧ (∀ i, O2 i → O i ∨ i ∈ p :: f) ∧ ∀ i ∈ fq, i ∈ f := by
  obtain ⟨ks1, q, ks2, f1, fe, f2, hks, rfl, hlen, hq, -, -, -, -, hm⟩ := RH_mid hnd hR
  obtain ⟨n1, n2⟩ := List.nodup_cons.mp hnd
  obtain ⟨n3, n4, n5⟩ := List.nodup_append.mp n2
  obtain ⟨n6, n7, n8⟩ := List.nodup_append.mp n4
  have ofe : ∀ i ∈ fe, ¬ (O i ∨ i = p ∨ i ∈ f1 ∨ i ∈ f2) := by
    intro i hi z
    rcases z with z | rfl | z | z
    · exact hO i (List.mem_cons_of_mem _ (by simp [hi])) z
    · exact n1 (by simp [hi])
    · exact n5 i z i (by simp [hi]) rfl
    · exact n8 i hi i z rfl
  refine ⟨ks1, q, ks2, fe, fun i => O i ∨ i = p ∨ i ∈ f1 ∨ i ∈ f2, hks, hlen, ?_, hq, n6, ofe, ?_, fun i hi => by simp [hi]⟩
  · intro T raw f3 hT hf3 hd hv
    have h2 := RH_RV (hm T e.1 raw f3 hT.1 (hT.2.1 p (Or.inr (Or.inl rfl))).1 (fun i hi => hT.2.1 i (Or.inr (Or.inr hi))) hT.2.2.1 hT.2.2.2.1 hT.2.2.2.2 hv)
    have hnd2 : (p :: (f1 ++ (f3 ++ f2))).Nodup := by
      refine List.nodup_cons.mpr ⟨fun z => ?_, List.nodup_append.mpr ⟨n3, List.nodup_append.mpr ⟨hf3, n7, fun i hi j hj z => ?_⟩, fun i hi j hj z => ?_⟩⟩
      · rcases List.mem_append.mp z with z | z
        · exact n1 (by simp [z])
        · rcases List.mem_append.mp z with z | z
          · exact hd p z (Or.inr (Or.inl rfl))
          · exact n1 (by simp [z])
      · subst z
        exact hd i hi (Or.inr (Or.inr (Or.inr hj)))
      · subst z
        rcases List.mem_append.mp hj with hj | hj
        · exact hd i hj (Or.inr (Or.inr (Or.inl hi)))
        · exact n5 i hi i (by simp [hj]) rfl
    have pO : frO S T O p := ⟨hT.1, fun i hi => hT.2.1 i (Or.inl hi), (hT.2.1 p (Or.inr (Or.inl rfl))).2, (hT.2.1 p (Or.inr (Or.inl rfl))).1.2.2.2.2.2.2.1, (hT.2.1 p (Or.inr (Or.inl rfl))).1.2.2.2.2.2.2.2⟩
    have hdO : ∀ i ∈ p :: (f1 ++ (f3 ++ f2)), ¬ O i := by
      intro i hi z
      rcases List.mem_cons.mp hi with rfl | hi
      · exact hO i List.mem_cons_self z
      · rcases List.mem_append.mp hi with hi | hi
        · exact hO i (by simp [hi]) z
        · rcases List.mem_append.mp hi with hi | hi
          · exact hd i hi (Or.inl z)
          · exact hO i (by simp [hi]) z
    obtain ⟨fp, hfp, hin, hres⟩ := h T _ _ pO hnd2 hdO h2
    refine ⟨fp, hfp, fun i hi => ?_, ?_⟩
    · rcases hin i hi with z | z
      · exact Or.inl (Or.inl z)
      · rcases List.mem_cons.mp z with z | z
        · exact Or.inl (Or.inr (Or.inl z))
        · rcases List.mem_append.mp z with z | z
          · exact Or.inl (Or.inr (Or.inr (Or.inl z)))
          · rcases List.mem_append.mp z with z | z
            · exact Or.inr z
            · exact Or.inl (Or.inr (Or.inr (Or.inr z)))
    · rw [plg_app]
      exact hres
  · intro i hi
    rcases hi with hi | rfl | hi | hi
    · exact Or.inl hi
    · exact Or.inr List.mem_cons_self
    · exact Or.inr (by simp [hi])
    · exact Or.inr (by simp [hi])
