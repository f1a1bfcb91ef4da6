/-! values that are as they must be, at most t levels deep -/
def lfR (k : Nat) (raw : List Nat) : Prop := (k = 16 ∧ raw.length = 4) ∨ (k = 18 ∧ raw.length = 8) ∨ (k = 8 ∧ ∃ b, b ≤ 1 ∧ raw = [b]) ∨ (k = 10 ∧ raw = []) ∨ (k = 2 ∧ ∃ tx, raw = le4 (tx.length + 1) ++ (tx ++ [0]) ∧ rt tx = true)
def VD : Nat → Nat → List Nat → Prop
  | 0, k, raw => (∀ b ∈ raw, b < 256) ∧ lfR k raw
  | t + 1, k, raw => (∀ b ∈ raw, b < 256) ∧ (lfR k raw ∨ ((k = 3 ∨ k = 4) ∧ ∃ es : List El, raw = encD es ∧ nmK k es ∧ ∀ e ∈ es, (∀ b ∈ e.2.1, b ≠ 0) ∧ rt e.2.1 = true ∧ VD t e.1 e.2.2))
theorem lfR_k {k : Nat} {raw : List Nat} (h : lfR k raw) : k < 256 ∧ ¬ (k = 3 ∨ k = 4) := by
  rcases h with ⟨rfl, -⟩ | ⟨rfl, -⟩ | ⟨rfl, -⟩ | ⟨rfl, -⟩ | ⟨rfl, -⟩ <;> omega
theorem VD_k {t k : Nat} {raw : List Nat} (h : VD t k raw) : k < 256 := by
  cases t with
  | zero => exact (lfR_k h.2).1
  | succ t =>
    rcases h.2 with h | ⟨h, -⟩
    · exact (lfR_k h).1
    · omega
theorem VD_b {t k : Nat} {raw : List Nat} (h : VD t k raw) : ∀ b ∈ raw, b < 256 := by
  cases t with
  | zero => exact h.1
  | succ t => exact h.1
theorem VD_up : ∀ {t k : Nat} {raw : List Nat}, VD t k raw → VD (t + 1) k raw := by
  intro t
  induction t with
  | zero => intro k raw h; exact ⟨h.1, Or.inl h.2⟩
  | succ t ih =>
    intro k raw h
    refine ⟨h.1, ?_⟩
    rcases h.2 with a | ⟨g1, es, g2, g3, g4⟩
    · exact Or.inl a
    · exact Or.inr ⟨g1, es, g2, g3, fun e he => ⟨(g4 e he).1, (g4 e he).2.1, ih (g4 e he).2.2⟩⟩
theorem VD_le {t : Nat} : ∀ {u k : Nat} {raw : List Nat}, VD t k raw → VD (t + u) k raw := by
  intro u
  induction u with
  | zero => intro k raw h; exact h
  | succ u ih => intro k raw h; exact VD_up (ih h)
theorem lf_wf {k : Nat} {raw : List Nat} (hl : raw.length < 4294967296) (h : lfR k raw) : vlen k raw = raw.length ∧ ((k = 2 ∨ k = 3 ∨ k = 4) → 4 ≤ raw.length) := by
  rcases h with ⟨rfl, h⟩ | ⟨rfl, h⟩ | ⟨rfl, b, -, rfl⟩ | ⟨rfl, rfl⟩ | ⟨rfl, tx, rfl, -⟩
  · exact ⟨h.symm, fun _ => by omega⟩
  · exact ⟨h.symm, fun _ => by omega⟩
  · exact ⟨rfl, fun h => by omega⟩
  · exact ⟨rfl, fun h => by omega⟩
  · have : (le4 (tx.length + 1) ++ (tx ++ [0])).length = 5 + tx.length := by simp [le4_len]; omega
    refine ⟨?_, fun _ => by omega⟩
    show 4 + u4 _ 0 = _
    rw [u4_le4 (by omega), this]
    omega
theorem encD_wf {k : Nat} {es : List El} (hk : k = 3 ∨ k = 4) (hl : (encD es).length < 4294967296) : vlen k (encD es) = (encD es).length ∧ ((k = 2 ∨ k = 3 ∨ k = 4) → 4 ≤ (encD es).length) := by
  rw [encD_len] at hl
  refine ⟨?_, fun _ => by rw [encD_len]; omega⟩
  have hu := u4_encD (es := es) (by omega) []
  rw [List.append_nil] at hu
  rcases hk with rfl | rfl
  · show u4 _ 0 = _
    rw [hu, encD_len]
  · show u4 _ 0 = _
    rw [hu, encD_len]
theorem VD_wf {t k : Nat} {raw : List Nat} (hl : raw.length < 4294967296) (h : VD t k raw) : vlen k raw = raw.length ∧ ((k = 2 ∨ k = 3 ∨ k = 4) → 4 ≤ raw.length) := by
  cases t with
  | zero => exact lf_wf hl h.2
  | succ t =>
    rcases h.2 with h | ⟨hk, es, rfl, -⟩
    · exact lf_wf hl h
    · exact encD_wf hk hl
theorem el_len {e : El} {es : List El} (he : e ∈ es) : 2 + e.2.1.length + e.2.2.length ≤ (encs es).length := by
  induction es with
  | nil => simp at he
  | cons a es ih =>
    rw [encs_cons, List.length_append]
    rcases List.mem_cons.mp he with rfl | he
    · rw [enc1_len]; omega
    · have := ih he; omega
theorem VD_h {t k : Nat} {raw : List Nat} (hk : k = 3 ∨ k = 4) (hl : raw.length < 100000) (h : VD (t + 1) k raw) : raw = encD (els raw) ∧ nmK k (els raw) ∧ (∀ e ∈ els raw, wfE e) ∧ ∀ e ∈ els raw, (∀ b ∈ e.2.1, b ≠ 0) ∧ rt e.2.1 = true ∧ VD t e.1 e.2.2 := by
  rcases h.2 with h | ⟨-, es, rfl, h1, h2⟩
  · exact absurd hk (lfR_k h).2
  · rw [encD_len] at hl
    have hw : ∀ e ∈ es, wfE e := fun e he => by
      have := el_len he
      exact ⟨(h2 e he).1, VD_wf (by omega) (h2 e he).2.2⟩
    rw [els_encD hw]
    exact ⟨rfl, h1, hw, h2⟩
theorem VD_mk {t k : Nat} {es : List El} (hk : k = 3 ∨ k = 4) (hb : ∀ b ∈ encs es, b < 256) (hn : nmK k es) (he : ∀ e ∈ es, (∀ b ∈ e.2.1, b ≠ 0) ∧ rt e.2.1 = true ∧ VD t e.1 e.2.2) : VD (t + 1) k (encD es) := ⟨encD_b.mpr hb, Or.inr ⟨hk, es, rfl, hn, he⟩⟩
theorem VD_0 (t : Nat) : VD (t + 1) 3 (encD []) := VD_mk (Or.inl rfl) (by simp [encs]) ⟨fun _ => by simp, fun c => absurd c (by decide)⟩ (fun e he => absurd he (by simp))
/-! what stays when nodes are made, named, hung up -/
def frN (S T : sT) (P : Nat → Prop) : Prop := (∀ k, k ≠ 19 → T.1 k = S.1 k) ∧ (∀ k, (k < 18 ∨ 28 < k) → T.2.1 k = S.2.1 k) ∧ ∀ q, P q → sOwn S T q ∧ T.2.1 24 q = S.2.1 24 q
theorem frN_rf (S : sT) (P : Nat → Prop) : frN S S P := ⟨fun _ _ => rfl, fun _ _ => rfl, fun q _ => ⟨sOwn_rf S q, rfl⟩⟩
theorem frN_tr {S T U : sT} {P : Nat → Prop} (h1 : frN S T P) (h2 : frN T U P) : frN S U P := ⟨fun k a => (h2.1 k a).trans (h1.1 k a), fun k a => (h2.2.1 k a).trans (h1.2.1 k a), fun q hq => ⟨sOwn_tr (h1.2.2 q hq).1 (h2.2.2 q hq).1, (h2.2.2 q hq).2.trans (h1.2.2 q hq).2⟩⟩
theorem frN_st {S T : sT} {P : Nat → Prop} (h : frN S T P) : stl T = stl S := by rw [stl, stl, h.2.1 17 (by omega)]
theorem frN_ok {S T : sT} {P : Nat → Prop} (h : frN S T P) (hs : okSt S) : okSt T := fun i => by rw [h.2.1 17 (by omega)]; exact hs i
theorem frN_le {S T : sT} {P P2 : Nat → Prop} (h : frN S T P) (h2 : ∀ q, P2 q → P q) : frN S T P2 := ⟨h.1, h.2.1, fun q hq => h.2.2 q (h2 q hq)⟩
theorem frN_StA {S T : sT} {P : Nat → Prop} (h : frN S T P) {i : Nat} {w : List Nat} (hw : StA S i w) : StA T i w := by
  obtain ⟨a, h1, h2, h3, h4⟩ := hw
  exact ⟨a, by rw [h.2.1 31 (by omega)]; exact h1, by rw [h.2.1 32 (by omega)]; exact h2, h3, by rw [frN_st h]; exact h4⟩
theorem mkN_own {S : sT} {n q : Nat} {x : Int32} (h : q ≠ n) : sOwn S (mkN S n x) q := ⟨by rw [mkN_18, pk_un h], by rw [mkN_L, pk_uLn h], by rw [mkN_21, pk_un h], by rw [mkN_22, pk_un h], by rw [mkN_23, pk_un h], by rw [mkN_25, pk_un h], by rw [mkN_19a, pk_un h], by rw [mkN_20, pk_un h]⟩
theorem mkN_fr (S : sT) (n : Nat) (x : Int32) : frN S (mkN S n x) (fun q => q ≠ n) := ⟨fun k hk => mkN_i S n x hk, fun k hk => mkN_o S n x (by omega), fun q hq => ⟨mkN_own hq, by rw [mkN_24, pk_un hq]⟩⟩
theorem mkN_RH (t : Nat) (S : sT) {n k : Nat} (hn : n < 6000) (hk : k = 3 ∨ k = 4) : RH t (mkN S n (nI k)) n k [] [] [] := ⟨hn, by rw [mkN_18, pk_us], hk, by rw [mkN_L, pk_uLs], by simp [encs], ⟨by rw [mkN_23, pk_us]; rfl, by rw [mkN_25, pk_us]; rfl⟩, rfl⟩
def nmS (S : sT) (n : Nat) (x y : Int32) : sT := sA (sA S 19 (upd (S.2.1 19) n x)) 20 (upd (S.2.1 20) n y)
theorem nmS_o (S : sT) (n : Nat) (x y : Int32) {k : Nat} (h1 : k ≠ 19) (h2 : k ≠ 20) : (nmS S n x y).2.1 k = S.2.1 k := by simp [nmS, sA, va_up, h1, h2]
theorem nmS_19 (S : sT) (n : Nat) (x y : Int32) : (nmS S n x y).2.1 19 = upd (S.2.1 19) n x := by simp [nmS, sA, va_up]
theorem nmS_20 (S : sT) (n : Nat) (x y : Int32) : (nmS S n x y).2.1 20 = upd (S.2.1 20) n y := by simp [nmS, sA, va_up]
theorem nmS_own {S : sT} {n q : Nat} {x y : Int32} (h : q ≠ n) : sOwn S (nmS S n x y) q := ⟨by rw [nmS_o _ _ _ _ (by omega) (by omega)], rfl, by rw [nmS_o _ _ _ _ (by omega) (by omega)], by rw [nmS_o _ _ _ _ (by omega) (by omega)], by rw [nmS_o _ _ _ _ (by omega) (by omega)], by rw [nmS_o _ _ _ _ (by omega) (by omega)], by rw [nmS_19, pk_un h], by rw [nmS_20, pk_un h]⟩
theorem nmS_val (S : sT) (n : Nat) (x y : Int32) (q : Nat) : sVal S (nmS S n x y) q := ⟨by rw [nmS_o _ _ _ _ (by omega) (by omega)], rfl, by rw [nmS_o _ _ _ _ (by omega) (by omega)], by rw [nmS_o _ _ _ _ (by omega) (by omega)], by rw [nmS_o _ _ _ _ (by omega) (by omega)], by rw [nmS_o _ _ _ _ (by omega) (by omega)]⟩
theorem nmS_fr (S : sT) (n : Nat) (x y : Int32) : frN S (nmS S n x y) (fun q => q ≠ n) := ⟨fun _ _ => rfl, fun k hk => nmS_o _ _ _ _ (by omega) (by omega), fun q hq => ⟨nmS_own hq, by rw [nmS_o _ _ _ _ (by omega) (by omega)]⟩⟩
theorem nmS_Nm {S : sT} {n s : Nat} {w : List Nat} (h : StA S s w) : NmN (nmS S n (S.2.1 31 s) (S.2.1 32 s)) n w := by
  obtain ⟨a, h1, h2, h3, h4⟩ := h
  refine ⟨a, by rw [nmS_19, pk_us]; exact h1, by rw [nmS_20, pk_us]; exact h2, h3, ?_⟩
  rw [frN_st (nmS_fr S n _ _)]
  exact h4
theorem apS_fr (S : sT) (p n : Nat) (ks : List Nat) : frN S (apS S p n ks) (fun q => q ≠ p ∧ q ≠ n ∧ q ∉ ks) := ⟨fun k _ => by rw [apS_i], fun k hk => apS_o _ _ _ _ (by omega) (by omega) (by omega), fun q hq => ⟨apS_own hq.1, apS_24 _ _ _ _ hq.2.1 hq.2.2⟩⟩
theorem RH_fr {t : Nat} {S T : sT} {p k : Nat} {es : List El} {ks f : List Nat} (hs : stl T = stl S) (hnd : (p :: f).Nodup) (hf : ∀ i ∈ p :: f, sOwn S T i) (hx : ∀ i ∈ f, T.2.1 24 i = S.2.1 24 i) (h : RH t S p k es ks f) : RH t T p k es ks f := by
  obtain ⟨h1, h2, h3, h4, h5, h6, h7⟩ := h
  have kin := RL_in h7
  have op := hf p List.mem_cons_self
  refine ⟨h1, by rw [op.1]; exact h2, h3, by rw [op.2.1]; exact h4, h5, ⟨?_, by rw [op.2.2.2.2.2.1]; exact h6.2⟩, RL_frame hs (List.nodup_cons.mp hnd).2 (fun i hi => hf i (List.mem_cons_of_mem _ hi)) (fun i hi _ => hx i hi) h7⟩
  rw [op.2.2.2.2.1]
  exact Ch_frame (fun i hi => hx i (kin i hi)) h6.1
/-- at a node of the tree, with what fits around it -/
def AtV (S : sT) (P : Nat → Prop) (R c : Nat) (fs : List Frm) (p k u : Nat) (raw : List Nat) (O : Nat → Prop) (f : List Nat) : Prop := Hol S R 24 fs p k u O ∧ RV u S p k raw f ∧ f.Nodup ∧ (∀ i ∈ f, ¬ O i) ∧ ∀ i, O i ∨ i ∈ f → i < c ∧ ¬ P i
def AtN (S : sT) (P : Nat → Prop) (R c : Nat) (fs : List Frm) (p k u : Nat) (es : List El) (O : Nat → Prop) (ks f : List Nat) : Prop := Hol S R 24 fs p k (u + 1) O ∧ RH u S p k es ks f ∧ (p :: f).Nodup ∧ (∀ i ∈ p :: f, ¬ O i) ∧ ∀ i, O i ∨ i ∈ p :: f → i < c ∧ ¬ P i
theorem AtV_N {S : sT} {P : Nat → Prop} {R c : Nat} {fs : List Frm} {p k u : Nat} {raw : List Nat} {O : Nat → Prop} {f : List Nat} (hk : k = 3 ∨ k = 4) (hl : raw.length < 100000) (h : AtV S P R c fs p k (u + 1) raw O f) : ∃ ks f2, raw = encD (els raw) ∧ AtN S P R c fs p k u (els raw) O ks f2 := by
  obtain ⟨h1, h2, h3, h4, h5⟩ := h
  obtain ⟨ks, f2, g1, rfl, g2⟩ := RV_RH hk hl h2
  exact ⟨ks, f2, g1, h1, g2, h3, h4, h5⟩
theorem AtN_in {S : sT} {P : Nat → Prop} {R c : Nat} {fs : List Frm} {p k u : Nat} {l1 l2 : List El} {e : El} {O : Nat → Prop} {ks1 ks2 f : List Nat} {q : Nat} (h : AtN S P R c fs p k u (l1 ++ e :: l2) O (ks1 ++ q :: ks2) f) (hl : ks1.length = l1.length) : ∃ O2 f2, AtV S P R c (fs ++ [(l1, e.1, e.2.1, l2)]) q e.1 u e.2.2 O2 f2 := by
  obtain ⟨h1, h2, h3, h4, h5⟩ := h
  obtain ⟨m1, m2, m3, fq, O2, hks, hlen, g1, g2, g3, g4, g5, g6⟩ := Hol_in h1 h2 h3 h4
  obtain ⟨rfl, hks2⟩ := List.append_inj hks (by omega)
  obtain ⟨rfl, rfl⟩ := List.cons.inj hks2
  refine ⟨O2, fq, g1, g2, g3, g4, fun i hi => ?_⟩
  rcases hi with hi | hi
  · exact h5 i (g5 i hi)
  · exact h5 i (Or.inr (List.mem_cons_of_mem _ (g6 i hi)))
/-- the inside has changed: the tree is whole again -/
theorem AtN_out {S T : sT} {P : Nat → Prop} {R c : Nat} {fs : List Frm} {p k u : Nat} {es es2 : List El} {O : Nat → Prop} {ks f ks2 f2 : List Nat} (h : AtN S P R c fs p k u es O ks f) (hT : frO S T O p) (h2 : RH u T p k es2 ks2 f2) (hnd : (p :: f2).Nodup) (hO : ∀ i ∈ p :: f2, ¬ O i) : ∃ fp, fp.Nodup ∧ RV 24 T R 3 (plg fs (encD es2)) fp ∧ ∀ i ∈ fp, O i ∨ i ∈ p :: f2 := by
  obtain ⟨fp, g1, g2, g3⟩ := h.1 T _ _ hT hnd hO (RH_RV h2)
  exact ⟨fp, g1, g3, g2⟩
