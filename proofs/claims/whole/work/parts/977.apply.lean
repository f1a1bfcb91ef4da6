/-! the reference: apply, its loops -/
theorem spOK_of {op : Nat} {e : El} {ea : List (List Nat)} (h : pthF op e ea = 0) : spOK e.2.1 ∧ (op = 3 → e.1 = 16 ∨ e.1 = 18) := by
  rw [pthF] at h
  split at h
  · cases h
  · rename_i c
    split at h
    · cases h
    · rename_i c2
      exact ⟨spB_ok.mp (by simpa using c), fun z => by omega⟩
theorem lkP_ok : ∀ (op : Nat) (es : List El) (ea : List (List Nat)) (p : Nat), (lkP op es ea p).1 = 0 → ∀ a ∈ es, spOK a.2.1 ∧ (op = 3 → a.1 = 16 ∨ a.1 = 18) := by
  intro op es
  induction es with
  | nil => intro ea p _ a ha; simp at ha
  | cons e es ih =>
    intro ea p h a ha
    rw [lkP] at h
    split at h
    · rename_i c
      rcases List.mem_cons.mp ha with rfl | ha
      · exact spOK_of c
      · exact ih _ _ h a ha
    · rename_i c
      exact absurd h c
theorem lkO_ok : ∀ (es : List El) (ea : List (List Nat)) (o : Nat), (lkO es ea o).1 = 0 → ∀ e ∈ es, opOf e.2.1 ≠ 0 ∧ e.1 = 3 ∧ ∀ a ∈ els e.2.2, spOK a.2.1 ∧ (opOf e.2.1 = 3 → a.1 = 16 ∨ a.1 = 18) := by
  intro es
  induction es with
  | nil => intro ea o _ e he; simp at he
  | cons a es ih =>
    intro ea o h e he
    rw [lkO] at h
    by_cases c1 : opOf a.2.1 = 0
    · rw [if_pos c1] at h; exact absurd h (show ¬ (1 : Nat) = 0 by decide)
    · rw [if_neg c1] at h
      by_cases c2 : a.1 ≠ 3
      · rw [if_pos c2] at h; exact absurd h (show ¬ (2 : Nat) = 0 by decide)
      · rw [if_neg c2] at h
        by_cases c3 : (lkP (opOf a.2.1) (els a.2.2) ea 0).1 = 0
        · rw [if_pos c3] at h
          rcases List.mem_cons.mp he with rfl | he
          · exact ⟨c1, Decidable.not_not.mp c2, lkP_ok _ _ _ _ c3⟩
          · exact ih _ _ h e he
        · rw [if_neg c3] at h; exact absurd h c3
theorem chE_le (op : Nat) (a : El) (k : Nat) (l1 : List El) (e : El) (l2 : List El) : (chE op a k l1 e l2).1 ≤ 8 := by
  rw [chE]
  repeat' split
  all_goals (first | exact Nat.zero_le _ | exact Nat.le_refl 8 | (show (7 : Nat) ≤ 8; omega))
theorem fnE_le (op : Nat) (a : El) (k : Nat) (es : List El) (w : List Nat) : (fnE op a k es w).1 ≤ 8 := by
  rw [fnE]
  cases fsp w es with
  | none =>
    show (if op = 2 ∨ op = 5 then ((0 : Nat), es) else (0, es ++ [nwE op a w])).1 ≤ 8
    split <;> exact Nat.zero_le _
  | some x => exact chE_le ..
theorem doP_le (op : Nat) (a : El) (raw : List Nat) : (doP op a raw).1 ≤ 8 := by
  rw [doP]
  cases wlk (decide (op ≠ 2 ∧ op ≠ 5)) (stp a.2.1) 3 raw with
  | none =>
    show (if op = 2 ∨ op = 5 then (0 : Nat) else 6) ≤ 8
    split <;> omega
  | some x => exact fnE_le ..
theorem doP_n {op : Nat} {a : El} {raw : List Nat} (h : wlk (decide (op ≠ 2 ∧ op ≠ 5)) (stp a.2.1) 3 raw = none) : doP op a raw = (if op = 2 ∨ op = 5 then 0 else 6, raw) := by rw [doP, h]
theorem doP_s {op : Nat} {a : El} {raw : List Nat} {gs : List Frm} {k : Nat} {es : List El} {w : List Nat} (h : wlk (decide (op ≠ 2 ∧ op ≠ 5)) (stp a.2.1) 3 raw = some (gs, k, es)) (hw : (stp a.2.1).getLastD [] = w) : doP op a raw = ((fnE op a k es w).1, plg gs (encD (fnE op a k es w).2)) := by
  subst hw
  rw [doP, h]
def prs (S T : sT) (P : Nat → Prop) : Prop := ∀ q, P q → sOwn S T q ∧ T.2.1 24 q = S.2.1 24 q
theorem prs_tr {S T U : sT} {P : Nat → Prop} (h1 : prs S T P) (h2 : prs T U P) : prs S U P := fun q hq => ⟨sOwn_tr (h1 q hq).1 (h2 q hq).1, (h2 q hq).2.trans (h1 q hq).2⟩
theorem prs_rf (S : sT) (P : Nat → Prop) : prs S S P := fun q _ => ⟨sOwn_rf S q, rfl⟩
theorem frS_prs {S T : sT} (h : frS S T) (P : Nat → Prop) : prs S T P := fun q _ => ⟨⟨by rw [h.2.1 18 (by omega) (by omega)], by rw [h.2.2], by rw [h.2.1 21 (by omega) (by omega)], by rw [h.2.1 22 (by omega) (by omega)], by rw [h.2.1 23 (by omega) (by omega)], by rw [h.2.1 25 (by omega) (by omega)], by rw [h.2.1 19 (by omega) (by omega)], by rw [h.2.1 20 (by omega) (by omega)]⟩, by rw [h.2.1 24 (by omega) (by omega)]⟩
theorem frP_prs {S T : sT} (h : frP S T 0) (P : Nat → Prop) : prs S T P := fun q _ => ⟨⟨by rw [h.2.1 18 (by omega)], by rw [h.2.2.1], by rw [h.2.1 21 (by omega)], by rw [h.2.1 22 (by omega)], by rw [h.2.1 23 (by omega)], by rw [h.2.1 25 (by omega)], by rw [h.2.1 19 (by omega)], by rw [h.2.1 20 (by omega)]⟩, by rw [h.2.1 24 (by omega)]⟩
theorem eqF_i {l : List Nat} {S T : sT} (h : eqF l S T) {k : Nat} (hk : k ≠ 22) : T.1 k = S.1 k := by
  obtain ⟨⟨g, x, rfl⟩, -, -⟩ := h
  simp [sI, sA, va_up, hk]
theorem eqF_a {l : List Nat} {S T : sT} (h : eqF l S T) {k : Nat} (hk : k ≠ 30) : T.2.1 k = S.2.1 k := by
  obtain ⟨⟨g, x, rfl⟩, -, -⟩ := h
  simp [sI, sA, va_up, hk]
theorem eqF_L {l : List Nat} {S T : sT} (h : eqF l S T) : T.2.2 = S.2.2 := by
  obtain ⟨⟨g, x, rfl⟩, -, -⟩ := h
  rfl
theorem eqF_prs {l : List Nat} {S T : sT} (h : eqF l S T) (P : Nat → Prop) : prs S T P := fun q _ => ⟨⟨by rw [eqF_a h (by omega)], by rw [eqF_L h], by rw [eqF_a h (by omega)], by rw [eqF_a h (by omega)], by rw [eqF_a h (by omega)], by rw [eqF_a h (by omega)], by rw [eqF_a h (by omega)], by rw [eqF_a h (by omega)]⟩, by rw [eqF_a h (by omega)]⟩
theorem RV_prs {S T : sT} {P : Nat → Prop} (hs : stl T = stl S) (h : prs S T P) {t n k : Nat} {raw f : List Nat} (hn : f.Nodup) (hf : ∀ i ∈ f, P i) (hv : RV t S n k raw f) : RV t T n k raw f := RV_frame hs hn (fun i hi => (h i (hf i hi)).1) (fun i hi _ => (h i (hf i hi)).2) hv
theorem RL_prs {S T : sT} {P : Nat → Prop} (hs : stl T = stl S) (h : prs S T P) {t k i : Nat} {ks f : List Nat} {es : List El} (hn : f.Nodup) (hf : ∀ i ∈ f, P i) (hv : RL (RV t S) S k i ks es f) : RL (RV t T) T k i ks es f := RL_frame hs hn (fun i hi => (h i (hf i hi)).1) (fun i hi _ => (h i (hf i hi)).2) hv
/-- what apply has in its loops: the tree, its bytes printed and kept -/
def ApI (S0 S : sT) (P : Nat → Prop) (R c : Nat) (fp raw : List Nat) : Prop := (∀ k, k < 19 ∨ 23 < k → S.1 k = S0.1 k) ∧ (∀ k, k < 18 ∨ 32 < k → S.2.1 k = S0.2.1 k) ∧ okO S ∧ ol S = raw ∧ S.1 21 = nI (dep 24 3 raw) ∧ okF S ∧ bfl S = raw ∧ S.1 19 = nI c ∧ RV 24 S R 3 raw fp ∧ fp.Nodup ∧ (∀ i ∈ fp, i < c ∧ ¬ P i) ∧ VD 24 3 raw ∧ ∀ q, P q → q < c
theorem ApI_le {S0 S : sT} {P P2 : Nat → Prop} {R c : Nat} {fp raw : List Nat} (h : ApI S0 S P R c fp raw) (hP : ∀ q, P2 q → P q) : ApI S0 S P2 R c fp raw := by
  obtain ⟨h1, h2, h3, h4, h5, h6, h7, h8, h9, h10, h11, h12, h13⟩ := h
  exact ⟨h1, h2, h3, h4, h5, h6, h7, h8, h9, h10, fun i hi => ⟨(h11 i hi).1, fun z => (h11 i hi).2 (hP i z)⟩, h12, fun q hq => h13 q (hP q hq)⟩
def frB (S0 T : sT) : Prop := (∀ k, k < 19 ∨ 23 < k → T.1 k = S0.1 k) ∧ (∀ k, k < 18 ∨ 32 < k → T.2.1 k = S0.2.1 k) ∧ (∀ i, sB (T.2.1 29 i)) ∧ okF T
section Ap
variable {N d : Nat} {Q : Option Value → sm_H → Prop}
theorem ap_107 {S0 : sT} {R node o op : Nat} {sl : Int32} (hs0 : okSt S0) (hop : 1 ≤ op ∧ op ≤ 6) (hnode : node < 6000) : ∀ (ks : List Nat) (es : List El) (f : List Nat) (i p m : Nat) (raw : List Nat) (x : Int32) (S : sT) (c : Nat) (fp : List Nat) (P : Nat → Prop) (r : Nat × Nat × Nat × List Nat), ApI S0 S (fun q => P q ∨ q ∈ f) R c fp raw → (∀ q, P q → q ∉ f) → P node → RL (RV 14 S) S 3 i ks es f → f.Nodup → Ch S x ks → c + (encs es).length ≤ 5996 → raw.length + 4 * (encs es).length ≤ 15000 → (∀ a ∈ es, VD 14 a.1 a.2.2 ∧ okW a.2.1 ∧ spOK a.2.1 ∧ (op = 3 → a.1 = 16 ∨ a.1 = 18)) → rnP op es p m raw = r →
    (r.1 ≠ 0 → ∀ T, frB S0 T → Q (some (.int (nI r.1 - 20))) (hp (sI (sI T 17 (nI o)) 18 (nI r.2.1)))) →
    (r.1 = 0 → ∀ T c2 fp2, ApI S0 T P R c2 fp2 r.2.2.2 → prs S T P → c2 ≤ c + (encs es).length → r.2.2.2.length ≤ raw.length + 4 * (encs es).length → sm_W N (d + 5 + 1) mm_M_apply 82 [(0, .ref 33), (1, .int sl), (2, .int (nI R)), (4, .int (nI r.2.2.1)), (5, .int (nI (o + 1))), (6, .int (T.2.1 24 node))] [] (hp T) Q) →
    sm_W N (d + 5 + 1) mm_M_apply 107 [(0, .ref 33), (1, .int sl), (2, .int (nI R)), (4, .int (nI m)), (5, .int (nI o)), (6, .int (nI node)), (7, .int (nI op)), (8, .int (nI p)), (9, .int x)] [] (hp S) Q := by
  intro ks
  induction ks with
  | nil =>
    intro es f i p m raw x S c fp P r hA _ hPn hR _ hx _ _ _ hr _ hend
    cases es with
    | cons e es => exact absurd hR (by simp [RL])
    | nil =>
      have hx1 : x = -1 := hx
      subst hx1
      have hr2 : r = (0, p, m, raw) := hr.symm
      subst hr2
      refine kM_apply_107 ⟨fun _ => ⟨_, hg_33_14 S, _, (hq_r S hnode).2.2.2.2.2.2.1, ?_⟩, fun y => absurd (by decide) y⟩
      rw [nI_1]
      exact hend rfl S c fp (ApI_le hA (fun q hq => Or.inl hq)) (prs_rf S P) (by omega) (by show raw.length ≤ _; omega)
  | cons n ks ih =>
    intro es f i p m raw x S c fp P r hA hPf hPn hR hnd hx hc hb hval hr hfault hend
    cases es with
    | nil => exact absurd hR (by simp [RL])
    | cons a es =>
      obtain ⟨f1, f2, rfl, hnm, hz, hva, hR3⟩ := hR
      obtain ⟨rfl, hn, hch⟩ := hx
      rw [if_neg (by decide)] at hnm
      obtain ⟨n1, n2, n3⟩ := List.nodup_append.mp hnd
      rw [encs_cons, List.length_append, enc1_len] at hc hb hend
      obtain ⟨v1, v2, v3, v4⟩ := hval a List.mem_cons_self
      obtain ⟨A1, A2, A3, A4, A5, A6, A7, A8, A9, A10, A11, A12, A13⟩ := hA
      have hst0 : stl S = stl S0 := by rw [stl, stl, A2 17 (by omega)]
      have hs : okSt S := fun j => by rw [A2 17 (by omega)]; exact hs0 j
      have hlen := stp_len a.2.1
      have hne := stp_ne a.2.1
      have hge := lsum_ge v3.1
      have h8 := v3.2
      have hws1 : 1 ≤ (stp a.2.1).length := List.length_pos_iff.mpr hne
      have hokw : ∀ w ∈ stp a.2.1, okW w := fun w hw => ⟨fun b hb => v2.1 b (stp_in hw b hb), stp_rt v2.2 hw⟩
      rw [rnP] at hr
      have hdle := doP_le op a raw
      have hP2 : ∀ q, (P q ∨ q ∈ f2) → q ∉ f1 := fun q hq z => by
        rcases hq with hq | hq
        · exact hPf q hq (List.mem_append_left _ z)
        · exact n3 q z q hq rfl
      have pos : ¬ nI n < 0 := by
        intro y
        rw [ti_lt, nI_t (by omega)] at y
        have : (0 : Int32).toInt = 0 := rfl
        omega
      refine kM_apply_107 ⟨fun y => absurd y pos, fun _ => ⟨_, hg_33_14 S, _, (hq_r S hn).2.2.2.2.2.2.1, ?_⟩⟩
      refine sM_split (d := d + 3) hn hnm (fun hsp => absurd v3 hsp) (fun _ T1 hT1 h23 hst => ⟨_, rfl, ?_⟩)
      have p1 := frS_prs hT1 (fun _ => True)
      have st1 := frS_st hT1
      have i1 : ∀ k, k ≠ 23 → T1.1 k = S.1 k := hT1.1
      have a1 : ∀ k, k ≠ 31 → k ≠ 32 → T1.2.1 k = S.2.1 k := hT1.2.1
      have hs1 : okSt T1 := frS_ok hT1 hs
      have R1 : RV 24 T1 R 3 raw fp := RV_prs st1 p1 A10 (fun _ _ => trivial) A9
      have va1 : RV 14 T1 n a.1 a.2.2 f1 := RV_prs st1 p1 n1 (fun _ _ => trivial) hva
      have c1 : T1.1 19 = nI c := by rw [i1 19 (by omega)]; exact A8
      have hfc : ∀ j ∈ fp, j < c ∧ ¬ (P j ∨ j ∈ f2) := fun j hj => ⟨(A11 j hj).1, fun z => (A11 j hj).2 (by
        rcases z with z | z
        · exact Or.inl z
        · exact Or.inr (List.mem_append_right _ z))⟩
      have hfac : ∀ j ∈ f1, j < c ∧ ¬ (P j ∨ j ∈ f2) ∧ j ∉ fp := fun j hj => ⟨A13 j (Or.inr (List.mem_append_left _ hj)), fun z => hP2 j z hj, fun z => (A11 j z).2 (Or.inr (List.mem_append_left _ hj))⟩
      have hPc : ∀ q, (P q ∨ q ∈ f2) → q < c := fun q hq => A13 q (by
        rcases hq with hq | hq
        · exact Or.inl hq
        · exact Or.inr (List.mem_append_right _ hq))
      have la : a.2.2.length < 100000 := by omega
      -- what the frames keep
      have kp : ∀ U, frN T1 U (fun q => P q ∨ q ∈ f2) → (∀ k, k < 19 ∨ 23 < k → U.1 k = S0.1 k) ∧ (∀ k, k < 18 ∨ 32 < k → U.2.1 k = S0.2.1 k) ∧ (∀ i, sB (U.2.1 29 i)) ∧ okF U ∧ bfl U = raw ∧ stl U = stl S := by
        intro U hU
        have u29 : U.2.1 29 = S.2.1 29 := by rw [hU.2.1 29 (by omega), a1 29 (by omega) (by omega)]
        have u30 : U.2.1 30 = S.2.1 30 := by rw [hU.2.1 30 (by omega), a1 30 (by omega) (by omega)]
        have u22 : U.1 22 = S.1 22 := by rw [hU.1 22 (by omega), i1 22 (by omega)]
        refine ⟨fun k hk => by rw [hU.1 k (by omega), i1 k (by omega)]; exact A1 k hk, fun k hk => by rw [hU.2.1 k (by omega), a1 k (by omega) (by omega)]; exact A2 k hk, fun j => ?_, ?_, ?_, (frN_st hU).trans st1⟩
        · obtain ⟨-, -, -, h⟩ := A3
          rw [u29]
          exact h j
        · obtain ⟨mm, h1, h2, h3⟩ := A6
          exact ⟨mm, h1, by rw [u22]; exact h2, fun j => by rw [u30]; exact h3 j⟩
        · rw [bfl, u30, u22]
          exact A7
      -- a fault
      have w170f : ∀ U, frN T1 U (fun q => P q ∨ q ∈ f2) → (doP op a raw).1 ≠ 0 → sm_W N (d + 5 + 1) mm_M_apply 170 [(0, .ref 33), (1, .int sl), (2, .int (nI R)), (4, .int (nI m)), (5, .int (nI o)), (6, .int (nI node)), (7, .int (nI op)), (8, .int (nI p)), (10, .int (S.2.1 24 n))] [.int (nI (doP op a raw).1)] (hp U) Q := by
        intro U hU hne0
        rw [if_neg hne0] at hr
        obtain ⟨k1, k2, k3, k4, -, -⟩ := kp U hU
        refine kM_apply_170 ⟨fun y => ?_, fun _ => sM_fail (d := d + 4) ⟨_, rfl, ?_⟩⟩
        · rw [nI_lel (by omega) (by omega)] at y
          exact absurd (show (doP op a raw).1 = 0 by omega) hne0
        · have := hfault (by rw [← hr]; exact hne0) U ⟨k1, k2, k3, k4⟩
          rw [← hr] at this
          exact this
      -- no fault
      have w170 : ∀ U c2 fp2, frN T1 U (fun q => P q ∨ q ∈ f2) → U.1 19 = nI c2 → c ≤ c2 → c2 ≤ c + (stp a.2.1).length → fp2.Nodup → (∀ j ∈ fp2, j < c2 ∧ ¬ (P j ∨ j ∈ f2)) → RV 24 U R 3 (doP op a raw).2 fp2 → (doP op a raw).1 = 0 → sm_W N (d + 5 + 1) mm_M_apply 170 [(0, .ref 33), (1, .int sl), (2, .int (nI R)), (4, .int (nI m)), (5, .int (nI o)), (6, .int (nI node)), (7, .int (nI op)), (8, .int (nI p)), (10, .int (S.2.1 24 n))] [.int 0] (hp U) Q := by
        intro U c2 fp2 hU h19 hc1 hc2 hn2 hf2 hRU h00
        rw [if_pos h00] at hr
        obtain ⟨k1, k2, k3, k4, k5, k6⟩ := kp U hU
        obtain ⟨d1, d2⟩ := doP_ok hop A12 (by omega) (by omega) v1 v2 v3 h00
        generalize (doP op a raw).2 = raw2 at *
        refine kM_apply_170 ⟨fun _ => ?_, fun y => absurd (by decide) y⟩
        refine sM_print (d := d + 1) (t := 23) k3 (by omega) hRU (by omega) (fun T3 t1 t2 t3 t4 => ⟨rfl, ?_⟩)
        have b3 : bfl T3 = raw := by rw [← k5, bfl, bfl, t1.2.1 30 (by omega), t1.1 22 (by omega) (by omega)]
        have f3 : okF T3 := by
          obtain ⟨mm, h1, h2, h3⟩ := k4
          exact ⟨mm, h1, by rw [t1.1 22 (by omega) (by omega)]; exact h2, fun j => by rw [t1.2.1 30 (by omega)]; exact h3 j⟩
        refine sM_isChanged (d := d + 4) t2 f3 (fun T4 e4 => ⟨_, rfl, ?_⟩)
        rw [t3, b3]
        rw [t3] at e4
        -- the next path
        have stU4 : stl T4 = stl S := by rw [← k6, stl, stl, eqF_a e4 (by omega), t1.2.1 17 (by omega)]
        have pr4 : prs S T4 (fun q => P q ∨ q ∈ f2) := prs_tr (frS_prs hT1 _) (prs_tr (fun q hq => hU.2.2 q hq) (prs_tr (frP_prs t1 _) (eqF_prs e4 _)))
        have pr5 := prs_tr (frP_prs t1 (fun _ => True)) (eqF_prs e4 _)
        have stU5 : stl T4 = stl U := by rw [stl, stl, eqF_a e4 (by omega), t1.2.1 17 (by omega)]
        have hI4 : ApI S0 T4 (fun q => P q ∨ q ∈ f2) R c2 fp2 raw2 := by
          refine ⟨fun k hk => by rw [eqF_i e4 (by omega), t1.1 k (by omega) (by omega)]; exact k1 k hk, fun k hk => by rw [eqF_a e4 (by omega), t1.2.1 k (by omega)]; exact k2 k hk, ?_, ?_, by rw [eqF_i e4 (by omega)]; exact t4, e4.2.1, e4.2.2, by rw [eqF_i e4 (by omega), t1.1 19 (by omega) (by omega)]; exact h19, RV_prs stU5 pr5 hn2 (fun _ _ => trivial) hRU, hn2, hf2, d1, fun q hq => by have := hPc q hq; omega⟩
          · obtain ⟨mm, h1, h2, h3⟩ := t2
            exact ⟨mm, h1, by rw [eqF_i e4 (by omega)]; exact h2, fun j => by rw [eqF_a e4 (by omega)]; exact h3 j⟩
          · rw [← t3, ol, ol, eqF_i e4 (by omega), eqF_a e4 (by omega)]
        have w107 : ∀ y : Nat, y = (if raw2 = raw then 0 else 1) → sm_W N (d + 5 + 1) mm_M_apply 107 [(0, .ref 33), (1, .int sl), (2, .int (nI R)), (4, .int (nI (m + y))), (5, .int (nI o)), (6, .int (nI node)), (7, .int (nI op)), (8, .int (nI (p + 1))), (9, .int (S.2.1 24 n))] [] (hp T4) Q := by
          intro y hy
          refine ih es f2 (i + 1) (p + 1) (m + y) raw2 _ T4 c2 fp2 P r hI4 (fun q hq z => hPf q hq (List.mem_append_right _ z)) hPn (RL_prs stU4 pr4 n2 (fun _ h => Or.inr h) hR3) n2 (Ch_frame (fun k hk => (pr4 k (Or.inr (RL_in hR3 k hk))).2) hch) (by omega) (by omega) (fun x hx => hval x (List.mem_cons_of_mem _ hx)) (by rw [hy]; exact hr) hfault (fun z T c3 fp3 hT pT q1 q2 => ?_)
          exact hend z T c3 fp3 hT (prs_tr (fun q hq => pr4 q (Or.inl hq)) pT) (by omega) (by omega)
        refine ⟨fun y => kM_apply_210 ?_, fun y => kM_apply_210 ?_⟩
        · have hy : raw2 = raw := by
            by_cases z : raw2 = raw
            · exact z
            · rw [if_neg z] at y; exact absurd y (by decide)
          rw [fM_apply_210, nI_1, show nI m + 0 = nI (m + 0) from nI_al m 0]
          exact w107 0 (by rw [if_pos hy])
        · have hy : ¬ raw2 = raw := fun z => by
            rw [if_pos z] at y
            exact absurd rfl y
          rw [fM_apply_210, nI_1, nI_1]
          exact w107 1 (by rw [if_neg hy])
      -- makes or takes
      have wtk : (op = 2 ∨ op = 5) → sm_V N (d + 4 + 1) mm_M_takes 5 33 [.int (nI R), .int (nI n), .int (if op = 5 then 1 else 0)] (hp T1) (fun r2 h1 => ∃ z3 : Int32, r2 = some (.int z3) ∧ sm_W N (d + 5 + 1) mm_M_apply 170 [(0, .ref 33), (1, .int sl), (2, .int (nI R)), (4, .int (nI m)), (5, .int (nI o)), (6, .int (nI node)), (7, .int (nI op)), (8, .int (nI p)), (10, .int (S.2.1 24 n))] [.int z3] h1 Q) := by
        intro h25
        have hdec : decide (op ≠ 2 ∧ op ≠ 5) = false := decide_eq_false (by omega)
        refine sM_takes (d := d + 1) (P := fun q => P q ∨ q ∈ f2) (w := (stp a.2.1).getLastD []) hs1 h25 hne h8 rfl h23 (fun j x hx => hst j x hx) R1 A10 hfc A12 (by omega) va1 n1 hfac la c1 (by omega) hPc (fun z => ⟨_, rfl, ?_⟩) (fun gs k e2 z rr hrr hr0 U hU => ⟨_, rfl, ?_⟩) (fun gs k e2 z rr hrr hr0 U c2 fp2 hU h19 q1 q2 q3 q4 q5 => ⟨_, rfl, ?_⟩)
        · have hd := doP_n (op := op) (a := a) (raw := raw) (by rw [hdec]; exact z)
          rw [if_pos h25] at hd
          exact w170 T1 c fp (frN_rf T1 _) c1 (Nat.le_refl _) (by omega) A10 hfc (by rw [hd]; exact R1) (by rw [hd])
        · have hd := doP_s (op := op) (a := a) (raw := raw) (by rw [hdec]; exact z) rfl
          rw [hrr] at hd
          have := w170f U hU (by rw [hd]; exact hr0)
          rw [hd] at this
          exact this
        · have hd := doP_s (op := op) (a := a) (raw := raw) (by rw [hdec]; exact z) rfl
          rw [hrr] at hd
          exact w170 U c2 fp2 hU h19 q1 (by omega) q3 q4 (by rw [hd]; exact q5) (by rw [hd]; exact hr0)
      have w155 : (op = 2 ∨ op = 5) → ∀ y : Int32, y = (if op = 5 then 1 else 0) → sm_W N (d + 5 + 1) mm_M_apply 155 [(0, .ref 33), (1, .int sl), (2, .int (nI R)), (4, .int (nI m)), (5, .int (nI o)), (6, .int (nI node)), (7, .int (nI op)), (8, .int (nI p)), (10, .int (S.2.1 24 n))] [.int y, .int (nI n), .int (nI R), .ref 33] (hp T1) Q := by
        intro h25 y hy
        subst hy
        exact kM_apply_155 (wtk h25)
      have w140 : (op = 2 ∨ op = 5) → sm_W N (d + 5 + 1) mm_M_apply 140 [(0, .ref 33), (1, .int sl), (2, .int (nI R)), (4, .int (nI m)), (5, .int (nI o)), (6, .int (nI node)), (7, .int (nI op)), (8, .int (nI p)), (9, .int (nI n)), (10, .int (S.2.1 24 n))] [] (hp T1) Q := by
        intro h25
        refine kM_apply_140 ⟨fun y => w155 h25 1 ?_, fun y => w155 h25 0 ?_⟩
        · rw [nI_eql (by omega) (by omega)] at y
          rw [if_pos y]
        · rw [nI_eql (by omega) (by omega)] at y
          rw [if_neg y]
      refine ⟨fun y => w140 ?_, fun y => ⟨fun y2 => w140 ?_, fun y2 => ?_⟩⟩
      · rw [nI_eql (by omega) (by omega)] at y
        exact Or.inl y
      · rw [nI_eql (by omega) (by omega)] at y2
        exact Or.inr y2
      · rw [nI_eql (by omega) (by omega)] at y y2
        have y' : ¬ op = 2 := y
        have y2' : ¬ op = 5 := y2
        have hdec : decide (op ≠ 2 ∧ op ≠ 5) = true := decide_eq_true ⟨y', y2'⟩
        refine sM_makes (d := d) (P := fun q => P q ∨ q ∈ f2) (w := (stp a.2.1).getLastD []) hs1 (by omega) v4 hne h8 rfl h23 (fun j x hx => ⟨hst j x hx, fun b hb => ((hokw x (List.mem_of_getElem? hx)).1 b hb).1, fun b hb => ((hokw x (List.mem_of_getElem? hx)).1 b hb).2⟩) R1 A10 hfc A12 (by omega) va1 n1 hfac la c1 (by omega) hPc (fun z U hU => ⟨_, rfl, ?_⟩) (fun gs k e2 z rr hrr hr0 U hU => ⟨_, rfl, ?_⟩) (fun gs k e2 z rr hrr hr0 U c2 fp2 hU h19 q1 q2 q3 q4 q5 => ⟨_, rfl, ?_⟩)
        · have hd := doP_n (op := op) (a := a) (raw := raw) (by rw [hdec]; exact z)
          rw [if_neg (by omega)] at hd
          have := w170f U hU (by rw [hd]; exact Nat.succ_ne_zero _)
          rw [hd] at this
          exact this
        · have hd := doP_s (op := op) (a := a) (raw := raw) (by rw [hdec]; exact z) rfl
          rw [hrr] at hd
          have := w170f U hU (by rw [hd]; exact hr0)
          rw [hd] at this
          exact this
        · have hd := doP_s (op := op) (a := a) (raw := raw) (by rw [hdec]; exact z) rfl
          rw [hrr] at hd
          exact w170 U c2 fp2 hU h19 q1 (by omega) q3 q4 (by rw [hd]; exact q5) (by rw [hd]; exact hr0)
end Ap
