/-! nodes that stand for values: kind, bytes, and the nodes taken (the footprint) -/
def leafV (S : sT) (nd k : Nat) (raw : List Nat) : Prop := S.2.1 23 nd = -1 ∧ ((k = 16 ∧ raw.length = 4 ∧ S.2.2 nd = nvR 16 raw) ∨ (k = 18 ∧ raw.length = 8 ∧ S.2.2 nd = nvR 18 raw) ∨ (k = 8 ∧ (∃ b, b ≤ 1 ∧ raw = [b]) ∧ S.2.2 nd = nvR 8 raw) ∨ (k = 10 ∧ raw = [] ∧ S.2.2 nd = 0) ∨ (k = 2 ∧ ∃ a tx, raw = le4 (tx.length + 1) ++ (tx ++ [0]) ∧ S.2.1 21 nd = nI a ∧ S.2.1 22 nd = nI tx.length ∧ a + tx.length ≤ 14100 ∧ slice (stl S) a (a + tx.length) = tx ∧ rt tx = true))
def RL (pv : Nat → Nat → List Nat → List Nat → Prop) (S : sT) (k : Nat) : Nat → List Nat → List El → List Nat → Prop
  | _, [], [], fp => fp = []
  | i, n :: ks, e :: es, fp => ∃ f1 f2, fp = f1 ++ f2 ∧ (if k = 4 then e.2.1 = dg i else NmN S n e.2.1) ∧ (∀ b ∈ e.2.1, b ≠ 0) ∧ pv n e.1 e.2.2 f1 ∧ RL pv S k (i + 1) ks es f2
  | _, _, _, _ => False
def RV : Nat → sT → Nat → Nat → List Nat → List Nat → Prop
  | 0, S, nd, k, raw, fp => nd < 6000 ∧ S.2.1 18 nd = nI k ∧ (∀ b ∈ raw, b < 256) ∧ fp = [nd] ∧ leafV S nd k raw
  | t + 1, S, nd, k, raw, fp => nd < 6000 ∧ S.2.1 18 nd = nI k ∧ (∀ b ∈ raw, b < 256) ∧ ((fp = [nd] ∧ leafV S nd k raw) ∨ ((k = 3 ∨ k = 4) ∧ S.2.2 nd = 0 ∧ ∃ es ks f2, raw = encD es ∧ fp = nd :: f2 ∧ Kids S nd ks ∧ RL (RV t S) S k 0 ks es f2))
/-- a node's own fields, and its name, are the same -/
def sOwn (S S2 : sT) (i : Nat) : Prop := S2.2.1 18 i = S.2.1 18 i ∧ S2.2.2 i = S.2.2 i ∧ S2.2.1 21 i = S.2.1 21 i ∧ S2.2.1 22 i = S.2.1 22 i ∧ S2.2.1 23 i = S.2.1 23 i ∧ S2.2.1 25 i = S.2.1 25 i ∧ S2.2.1 19 i = S.2.1 19 i ∧ S2.2.1 20 i = S.2.1 20 i
theorem RV_hd {t : Nat} {S : sT} {nd k : Nat} {raw fp : List Nat} (h : RV t S nd k raw fp) : ∃ f2, fp = nd :: f2 := by
  cases t with
  | zero => exact ⟨[], h.2.2.2.1⟩
  | succ t =>
    rcases h.2.2.2 with h | ⟨-, -, es, ks, f2, -, h, -⟩
    · exact ⟨[], h.1⟩
    · exact ⟨f2, h⟩
theorem RL_in {t : Nat} {S S0 : sT} {k : Nat} : ∀ {ks : List Nat} {es : List El} {fp : List Nat} {i : Nat}, RL (RV t S) S0 k i ks es fp → ∀ q ∈ ks, q ∈ fp := by
  intro ks
  induction ks with
  | nil => intro es fp i _ q hq; simp at hq
  | cons n ks ih =>
    intro es fp i h q hq
    cases es with
    | nil => exact absurd h (by simp [RL])
    | cons e es =>
      obtain ⟨f1, f2, rfl, -, -, h1, h2⟩ := h
      rcases List.mem_cons.mp hq with rfl | hq
      · obtain ⟨f3, rfl⟩ := RV_hd h1
        simp
      · exact List.mem_append_right _ (ih h2 q hq)
theorem RL_len {pv : Nat → Nat → List Nat → List Nat → Prop} {S : sT} {k : Nat} : ∀ {ks : List Nat} {es : List El} {fp : List Nat} {i : Nat}, RL pv S k i ks es fp → ks.length = es.length := by
  intro ks
  induction ks with
  | nil =>
    intro es fp i h
    cases es with
    | nil => rfl
    | cons e es => exact absurd h (by simp [RL])
  | cons n ks ih =>
    intro es fp i h
    cases es with
    | nil => exact absurd h (by simp [RL])
    | cons e es =>
      obtain ⟨f1, f2, -, -, -, -, h2⟩ := h
      simp [ih h2]
theorem leafV_frame {S S2 : sT} {nd k : Nat} {raw : List Nat} (ho : sOwn S S2 nd) (hs : stl S2 = stl S) (h : leafV S nd k raw) : leafV S2 nd k raw := by
  obtain ⟨o1, o2, o3, o4, o5, o6, o7, o8⟩ := ho
  unfold leafV at h ⊢
  rw [o5, o2, o3, o4, hs]
  exact h
theorem NmN_frame {S S2 : sT} {n : Nat} {nm : List Nat} (ho : sOwn S S2 n) (hs : stl S2 = stl S) (h : NmN S n nm) : NmN S2 n nm := by
  obtain ⟨o1, o2, o3, o4, o5, o6, o7, o8⟩ := ho
  unfold NmN at h ⊢
  rw [o7, o8, hs]
  exact h
theorem RL_frame0 {S S2 : sT} {pv pv2 : Nat → Nat → List Nat → List Nat → Prop} {k : Nat} (hs : stl S2 = stl S) : ∀ {ks : List Nat} {es : List El} {fp : List Nat} {i : Nat}, (∀ n ∈ ks, n ∈ fp → sOwn S S2 n) → (∀ q, q ∈ ks → q ∈ fp) → (∀ n k raw f, n ∈ ks → (∀ q ∈ f, q ∈ fp) → (∀ q ∈ f, q ≠ n → q ∉ ks) → f.Nodup → pv n k raw f → pv2 n k raw f) → fp.Nodup → (∀ n k raw f, pv n k raw f → n ∈ f) → RL pv S k i ks es fp → RL pv2 S2 k i ks es fp := by
  intro ks
  induction ks with
  | nil =>
    intro es fp i _ _ _ _ _ h
    cases es with
    | nil => exact h
    | cons e es => exact absurd h (by simp [RL])
  | cons n ks ih =>
    intro es fp i ho hin hpv hnd hhd h
    cases es with
    | nil => exact absurd h (by simp [RL])
    | cons e es =>
      obtain ⟨f1, f2, rfl, h1, hz, h2, h3⟩ := h
      have hn1 := hhd _ _ _ _ h2
      obtain ⟨nd1, nd2, nd3⟩ := List.nodup_append.mp hnd
      have kin : ∀ {ks : List Nat} {es : List El} {fp : List Nat} {i : Nat}, RL pv S k i ks es fp → ∀ q ∈ ks, q ∈ fp := by
        intro ks
        induction ks with
        | nil => intro es fp i _ q hq; simp at hq
        | cons n ks ih =>
          intro es fp i h q hq
          cases es with
          | nil => exact absurd h (by simp [RL])
          | cons e es =>
            obtain ⟨f1, f2, rfl, -, -, h1, h2⟩ := h
            rcases List.mem_cons.mp hq with rfl | hq
            · exact List.mem_append_left _ (hhd _ _ _ _ h1)
            · exact List.mem_append_right _ (ih h2 q hq)
      have hk2 := kin h3
      refine ⟨f1, f2, rfl, ?_, hz, ?_, ?_⟩
      · split
        · rename_i c; rw [if_pos c] at h1; exact h1
        · rename_i c; rw [if_neg c] at h1; exact NmN_frame (ho n List.mem_cons_self (List.mem_append_left _ hn1)) hs h1
      · refine hpv n _ _ f1 List.mem_cons_self (fun q hq => List.mem_append_left _ hq) (fun q hq hne hc => ?_) nd1 h2
        rcases List.mem_cons.mp hc with rfl | hc
        · exact hne rfl
        · exact nd3 q hq q (hk2 q hc) rfl
      · refine ih (fun m hm hm2 => ho m (List.mem_cons_of_mem _ hm) (List.mem_append_right _ hm2)) hk2 (fun m k raw f hm hf hf2 hfn hp => ?_) nd2 hhd h3
        refine hpv m k raw f (List.mem_cons_of_mem _ hm) (fun q hq => List.mem_append_right _ (hf q hq)) (fun q hq hne hc => ?_) hfn hp
        rcases List.mem_cons.mp hc with rfl | hc
        · exact nd3 q hn1 q (hf q hq) rfl
        · exact hf2 q hq hne hc
theorem RV_frame {S S2 : sT} (hs : stl S2 = stl S) : ∀ {t nd k : Nat} {raw fp : List Nat}, fp.Nodup → (∀ i ∈ fp, sOwn S S2 i) → (∀ i ∈ fp, i ≠ nd → S2.2.1 24 i = S.2.1 24 i) → RV t S nd k raw fp → RV t S2 nd k raw fp := by
  intro t
  induction t with
  | zero =>
    intro nd k raw fp hnd ho hn h
    obtain ⟨h1, h2, h3, h4, h5⟩ := h
    have oo := ho nd (by rw [h4]; simp)
    exact ⟨h1, by rw [oo.1]; exact h2, h3, h4, leafV_frame oo hs h5⟩
  | succ t ih =>
    intro nd k raw fp hnd ho hn h
    obtain ⟨h1, h2, h3, h4⟩ := h
    have hmem : nd ∈ fp := by
      rcases h4 with h4 | ⟨-, -, es, ks, f2, -, h4, -⟩
      · rw [h4.1]; simp
      · rw [h4]; simp
    have oo := ho nd hmem
    refine ⟨h1, by rw [oo.1]; exact h2, h3, ?_⟩
    rcases h4 with h4 | ⟨g1, g2, es, ks, f2, g3, g4, g5, g6⟩
    · exact Or.inl ⟨h4.1, leafV_frame oo hs h4.2⟩
    · subst g4
      obtain ⟨n1, n2⟩ := List.nodup_cons.mp hnd
      have kin := RL_in g6
      refine Or.inr ⟨g1, by rw [oo.2.1]; exact g2, es, ks, f2, g3, rfl, ⟨?_, by rw [oo.2.2.2.2.2.1]; exact g5.2⟩, ?_⟩
      · rw [oo.2.2.2.2.1]
        refine Ch_frame (fun q hq => hn q (List.mem_cons_of_mem _ (kin q hq)) (fun z => n1 (z ▸ kin q hq))) g5.1
      · refine RL_frame0 hs (fun m _ hm => ho m (List.mem_cons_of_mem _ hm)) kin (fun m k raw f hm hf hf2 hfn hp => ?_) n2 (fun m k raw f hp => by obtain ⟨f3, rfl⟩ := RV_hd hp; simp) g6
        exact ih hfn (fun i hi => ho i (List.mem_cons_of_mem _ (hf i hi))) (fun i hi _ => hn i (List.mem_cons_of_mem _ (hf i hi)) (fun z => n1 (z ▸ hf i hi))) hp
theorem RL_frame {S S2 : sT} (hs : stl S2 = stl S) {t k i : Nat} {ks : List Nat} {es : List El} {fp : List Nat} (hnd : fp.Nodup) (ho : ∀ q ∈ fp, sOwn S S2 q) (hn : ∀ q ∈ fp, q ∉ ks → S2.2.1 24 q = S.2.1 24 q) (h : RL (RV t S) S k i ks es fp) : RL (RV t S2) S2 k i ks es fp := by
  have kin := RL_in h
  refine RL_frame0 hs (fun m _ hm => ho m hm) kin (fun m k raw f hm hf hf2 hfn hp => ?_) hnd (fun m k raw f hp => by obtain ⟨f3, rfl⟩ := RV_hd hp; simp) h
  exact RV_frame hs hfn (fun q hq => ho q (hf q hq)) (fun q hq hne => hn q (hf q hq) (hf2 q hq hne)) hp
theorem RL_snoc {pv : Nat → Nat → List Nat → List Nat → Prop} {S : sT} {k : Nat} {n : Nat} {e : El} {f3 : List Nat} : ∀ {ks : List Nat} {es : List El} {fp : List Nat} {i : Nat}, RL pv S k i ks es fp → (if k = 4 then e.2.1 = dg (i + ks.length) else NmN S n e.2.1) → (∀ b ∈ e.2.1, b ≠ 0) → pv n e.1 e.2.2 f3 → RL pv S k i (ks ++ [n]) (es ++ [e]) (fp ++ f3) := by
  intro ks
  induction ks with
  | nil =>
    intro es fp i h h1 hz h2
    cases es with
    | nil =>
      have : fp = [] := h
      subst this
      exact ⟨f3, [], by simp, by simpa using h1, hz, h2, rfl⟩
    | cons e es => exact absurd h (by simp [RL])
  | cons m ks ih =>
    intro es fp i h h1 hz h2
    cases es with
    | nil => exact absurd h (by simp [RL])
    | cons e2 es =>
      obtain ⟨f1, f2, rfl, g1, gz, g2, g3⟩ := h
      refine ⟨f1, f2 ++ f3, by simp, g1, gz, g2, ?_⟩
      refine ih g3 ?_ hz h2
      rw [List.length_cons] at h1
      rw [show i + 1 + ks.length = i + (ks.length + 1) by omega]
      exact h1
