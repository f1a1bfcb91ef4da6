/-! the reference: apply -/
theorem VD_el {t k : Nat} {raw : List Nat} (hk : k = 3 ∨ k = 4) (hl : raw.length < 100000) (h : VD (t + 1) k raw) : ∀ a ∈ els raw, okW a.2.1 ∧ VD t a.1 a.2.2 := by
  intro a ha
  obtain ⟨hraw, -, -, hel⟩ := VD_h hk hl h
  have hb := VD_b h
  rw [hraw] at hb
  have hb2 := encD_b.mp hb
  obtain ⟨s1, s2, hs12⟩ := List.append_of_mem ha
  rw [hs12] at hb2
  have h3 := (encs_bc.mp (encs_b.mp hb2).2).1.2.1
  exact ⟨⟨fun b hb => ⟨(hel a ha).1 b hb, h3 b hb⟩, (hel a ha).2.1⟩, (hel a ha).2.2⟩
section Ap2
variable {N d : Nat} {Q : Option Value → sm_H → Prop}
theorem ap_82 {S0 : sT} {R : Nat} {sl : Int32} (hs0 : okSt S0) : ∀ (ks : List Nat) (es : List El) (f : List Nat) (i o m : Nat) (raw : List Nat) (x : Int32) (S : sT) (c : Nat) (fp : List Nat) (r : Nat × Nat × Nat × Nat × List Nat), ApI S0 S (fun q => q ∈ f) R c fp raw → RL (RV 15 S) S 3 i ks es f → f.Nodup → Ch S x ks → c + (encs es).length ≤ 5996 → raw.length + 4 * (encs es).length ≤ 15000 → (∀ e ∈ es, VD 15 e.1 e.2.2 ∧ opOf e.2.1 ≠ 0 ∧ e.1 = 3 ∧ ∀ a ∈ els e.2.2, spOK a.2.1 ∧ (opOf e.2.1 = 3 → a.1 = 16 ∨ a.1 = 18)) → rnO es o m raw = r →
    (r.1 ≠ 0 → ∀ T, frB S0 T → Q (some (.int (nI r.1 - 20))) (hp (sI (sI T 17 (nI r.2.1)) 18 (nI r.2.2.1)))) →
    (r.1 = 0 → ∀ T c2 fp2, ApI S0 T (fun _ => False) R c2 fp2 r.2.2.2.2 → r.2.2.2.2.length ≤ 15000 → sm_W N (d + 5 + 1) mm_M_apply 82 [(0, .ref 33), (1, .int sl), (2, .int (nI R)), (4, .int (nI r.2.2.2.1)), (5, .int (nI r.2.1)), (6, .int (-1))] [] (hp T) Q) →
    sm_W N (d + 5 + 1) mm_M_apply 82 [(0, .ref 33), (1, .int sl), (2, .int (nI R)), (4, .int (nI m)), (5, .int (nI o)), (6, .int x)] [] (hp S) Q := by
  intro ks
  induction ks with
  | nil =>
    intro es f i o m raw x S c fp r hA hR _ hx _ hb _ hr _ hend
    cases es with
    | cons e es => exact absurd hR (by simp [RL])
    | nil =>
      have hx1 : x = -1 := hx
      subst hx1
      have hr2 : r = (0, o, 0, m, raw) := hr.symm
      subst hr2
      exact hend rfl S c fp (ApI_le hA (fun q hq => absurd hq id)) (by show raw.length ≤ _; omega)
  | cons n ks ih =>
    intro es f i o m raw x S c fp r hA hR hnd hx hc hb hval hr hfault hend
    cases es with
    | nil => exact absurd hR (by simp [RL])
    | cons e es =>
      obtain ⟨f1, f2, rfl, hnm, hz, hva, hR3⟩ := hR
      obtain ⟨rfl, hn, hch⟩ := hx
      rw [if_neg (by decide)] at hnm
      obtain ⟨n1, n2, n3⟩ := List.nodup_append.mp hnd
      rw [encs_cons, List.length_append, enc1_len] at hc hb
      obtain ⟨v1, v2, v3, v4⟩ := hval e List.mem_cons_self
      rw [v3] at v1 hva
      have hstS : stl S = stl S0 := by rw [stl, stl, hA.2.1 17 (by omega)]
      obtain ⟨ks2, g, hraw, hf1, hH⟩ := RV_RH (Or.inl rfl) (by omega) hva
      subst hf1
      obtain ⟨g1, g2⟩ := List.nodup_cons.mp n1
      have hel := VD_el (Or.inl rfl) (by omega) v1
      have hrl : 5 + (encs (els e.2.2)).length = e.2.2.length := by
        have := encD_len (els e.2.2)
        rw [← hraw] at this
        omega
      have hol := opOf_le e.2.1
      rw [rnO] at hr
      have pos : ¬ nI n < 0 := by
        intro y
        rw [ti_lt, nI_t (by omega)] at y
        have : (0 : Int32).toInt = 0 := rfl
        omega
      refine kM_apply_82 ⟨fun y => absurd y pos, fun _ => sM_operator (d := d + 2) hn hnm ⟨_, rfl, _, hg_33_13 S, _, (hq_r S hn).2.2.2.2.2.1, ?_⟩⟩
      refine ap_107 (d := d) (r := rnP (opOf e.2.1) (els e.2.2) 0 m raw) hs0 (by omega) hn ks2 (els e.2.2) g 0 0 m raw _ S c fp (fun q => q = n ∨ q ∈ f2) (ApI_le hA (fun q hq => ?_)) (fun q hq z => ?_) (Or.inl rfl) hH.2.2.2.2.2.2 g2 hH.2.2.2.2.2.1.1 (by omega) (by omega) (fun a ha => ⟨(hel a ha).2, (hel a ha).1, v4 a ha⟩) rfl (fun y T hT => ?_) (fun y T c2 fp2 hT pT q1 q2 => ?_)
      · rcases hq with (rfl | hq) | hq
        · simp
        · simp [hq]
        · simp [hq]
      · rcases hq with rfl | hq
        · exact g1 z
        · exact n3 q (List.mem_cons_of_mem _ z) q hq rfl
      · rw [if_neg y] at hr
        have := hfault (by rw [← hr]; exact y) T hT
        rw [← hr] at this
        exact this
      · rw [if_pos y] at hr
        have stT : stl T = stl S := by rw [hstS, stl, stl, hT.2.1 17 (by omega)]
        rw [(pT n (Or.inl rfl)).2]
        exact ih es f2 (i + 1) (o + 1) _ _ _ T c2 fp2 r (ApI_le hT (fun q hq => Or.inr hq)) (RL_prs stT pT n2 (fun _ h => Or.inr h) hR3) n2 (Ch_frame (fun k hk => (pT k (Or.inr (RL_in hR3 k hk))).2) hch) (by omega) (by omega) (fun x hx => hval x (List.mem_cons_of_mem _ hx)) hr hfault hend
theorem ap_272 {T : sT} {n k : Nat} {raw : List Nat} {many : Int32} (hs : okSt T) (h20 : T.1 20 = nI n) (hn : n ≤ 2000) (hk : k < 4) (hraw : bytesOf (T.2.1 29) 0 n = raw) (hQ : ∀ U, (∃ g, U = sA T 17 g) → okSt U → (∀ j, (stl U).getD j 0 = if 2000 * k ≤ j ∧ j < 2000 * k + n then raw.getD (j - 2000 * k) 0 else (stl T).getD j 0) → Q (some (.int many)) (hp U)) : sm_W N (d + 5 + 1) mm_M_apply 272 [(0, .ref 33), (1, .int (nI k)), (4, .int many), (6, .int (nI 0))] [] (hp T) Q := by
  have hg : ∀ i, i < n → raw.getD i 0 = ub (T.2.1 29 i) := fun i hi => by
    rw [← hraw, bytesOf_get _ 0 hi, Nat.zero_add]
  have key : ∀ (m i : Nat) (U : sT), i + m = n → (∃ g, U = sA T 17 g) → okSt U → (∀ j, (stl U).getD j 0 = if 2000 * k ≤ j ∧ j < 2000 * k + i then raw.getD (j - 2000 * k) 0 else (stl T).getD j 0) → sm_W N (d + 5 + 1) mm_M_apply 272 [(0, .ref 33), (1, .int (nI k)), (4, .int many), (6, .int (nI i))] [] (hp U) Q := by
    intro m
    induction m with
    | zero =>
      intro i U hi hU okU hj
      have : i = n := by omega
      subst this
      have u20 : U.1 20 = nI i := by obtain ⟨g, rfl⟩ := hU; exact h20
      refine kM_apply_272 ⟨_, hg_33_19 U, fun _ => hQ U hU okU hj, fun c => absurd ?_ c⟩
      rw [u20]
      exact (nI_leI (by omega) (by omega)).mpr (Nat.le_refl _)
    | succ m ih =>
      intro i U hi hU okU hj
      have u20 : U.1 20 = nI n := by obtain ⟨g, rfl⟩ := hU; exact h20
      have u29 : U.2.1 29 = T.2.1 29 := by obtain ⟨g, rfl⟩ := hU; simp [sA, va_up]
      obtain ⟨p1, p2⟩ := eqS_set (S := U) (k := 2000 * k + i) (U.2.1 29 i) okU (by omega)
      have p1' : sm_pb (hp U) 34 (2000 * nI k + nI i) (U.2.1 29 i) = some (hp (sA U 17 (upd (U.2.1 17) (2000 * k + i) (U.2.1 29 i).toInt8.toInt32))) := by
        rw [nI_mul, nI_add]
        exact p1
      refine kM_apply_272 ⟨_, hg_33_19 U, fun c => ?_, fun _ => ⟨_, hg_33_1 U, _, hg_33_21 U, U.2.1 29 i, ?_, _, p1', ?_⟩⟩
      · rw [u20, nI_leI (by omega) (by omega)] at c
        omega
      · rw [ha_47, nI_t (by omega), if_pos ⟨by omega, by omega⟩, nI_clamp (by omega)]
      · rw [nI_1]
        have hlen := stl_len U
        refine ih (i + 1) _ (by omega) ?_ p2.2.1 (fun j => ?_)
        · obtain ⟨g, rfl⟩ := hU
          exact ⟨_, by simp [sA, up_up]; rfl⟩
        · rw [p2.2.2, getD_set (by omega), hj j]
          by_cases c : j = 2000 * k + i
          · subst c
            rw [if_pos rfl, if_pos ⟨by omega, by omega⟩, show 2000 * k + i - 2000 * k = i by omega, hg i (by omega), u29]
          · rw [if_neg c]
            by_cases c2 : 2000 * k ≤ j ∧ j < 2000 * k + i
            · rw [if_pos c2, if_pos ⟨by omega, by omega⟩]
            · rw [if_neg c2, if_neg (by omega)]
  exact key n 0 T (by omega) ⟨T.2.1 17, by simp [sA, up_id]⟩ hs (fun j => by rw [if_neg (by omega)])
/-- the change's document -/
def chd (S : sT) : List Nat := slice (stl S) 8000 (8000 + u4 (stl S) 8000)
def frA (S T : sT) : Prop := (∀ k, k < 17 ∨ 23 < k → T.1 k = S.1 k) ∧ (∀ k, k < 17 ∨ 32 < k → T.2.1 k = S.2.1 k) ∧ okSt T ∧ (∀ i, sB (T.2.1 29 i)) ∧ okF T
theorem stl_b (S : sT) {a b : Nat} : ∀ x ∈ slice (stl S) a b, x < 256 := by
  intro x hx
  obtain ⟨i, hi, rfl⟩ := List.getElem_of_mem (sl_mem hx)
  have := stl_lt S i
  rw [List.getD_eq_getElem?_getD, List.getElem?_eq_getElem hi] at this
  exact this
theorem sM_apply {S : sT} {s : Int32} (hs : okSt S) (hO : ∀ i, sB (S.2.1 29 i)) (hF : okF S) (hsl : okSl S) (hcd : S.1 16 ≠ 0 → u4 (stl S) 8000 ≤ 2000 ∧ okD (chd S) = true ∧ (lkO (els (chd S)) [] 0).1 = 0)
    (hb : ¬ (0 ≤ s.toInt ∧ s.toInt < 4) → Q (some (.int (-1))) (hp S)) (hn : 0 ≤ s.toInt ∧ s.toInt < 4 → S.1 16 = 0 → Q (some (.int (-2))) (hp S))
    (h1 : ∀ k, k < 4 → s = nI k → S.1 16 ≠ 0 → ∀ r, rnO (els (chd S)) 0 0 (sld S k) = r → (r.1 ≠ 0 → ∀ T, frA S T → T.1 17 = nI r.2.1 → T.1 18 = nI r.2.2.1 → stl T = stl S → Q (some (.int (nI r.1 - 20))) (hp T)) ∧ (r.1 = 0 → (2000 < r.2.2.2.2.length ∨ 16 < dep 24 3 r.2.2.2.2) → ∀ T, frA S T → T.1 17 = -1 → T.1 18 = -1 → stl T = stl S → Q (some (.int (9 - 20))) (hp T)) ∧
      (r.1 = 0 → r.2.2.2.2.length ≤ 2000 → dep 24 3 r.2.2.2.2 ≤ 16 → VD 24 3 r.2.2.2.2 → ∀ T, frA S T → T.1 17 = S.1 17 → T.1 18 = S.1 18 → (∀ j, (stl T).getD j 0 = if 2000 * k ≤ j ∧ j < 2000 * k + r.2.2.2.2.length then r.2.2.2.2.getD (j - 2000 * k) 0 else (stl S).getD j 0) → Q (some (.int (nI r.2.2.2.1))) (hp T))) :
    sm_V N (d + 5 + 1) mm_M_apply 5 33 [.int s] (hp S) Q := by
  have hlen := stl_len S
  refine cM_apply (hk_33 S) (sM_isSlot (d := d + 4) ⟨_, rfl, fun c => hb (fun y => ?_), fun c => ⟨_, hg_33_3 S, fun c2 => ?_, fun c2 => ⟨_, hu_33_6 S _, ?_⟩⟩⟩)
  · rw [if_pos y] at c; exact absurd c (by decide)
  · refine hn ?_ c2
    by_cases y : 0 ≤ s.toInt ∧ s.toInt < 4
    · exact y
    · rw [if_neg y] at c; exact absurd rfl c
  · have y1 : 0 ≤ s.toInt ∧ s.toInt < 4 := by
      by_cases y : 0 ≤ s.toInt ∧ s.toInt < 4
      · exact y
      · rw [if_neg y] at c; exact absurd rfl c
    obtain ⟨k, hk, rfl⟩ := nat_of (m := 4) y1.1 (by omega) (by omega)
    obtain ⟨hu, hd⟩ := hsl k hk
    obtain ⟨hu8, hd8, hlk⟩ := hcd c2
    have hsk : (sld S k).length = u4 (stl S) (2000 * k) := by rw [sld, slice_len (by omega)]; omega
    have hck : (chd S).length = u4 (stl S) 8000 := by rw [chd, slice_len (by omega)]; omega
    obtain ⟨r1, r2, r3⟩ := h1 k hk rfl c2 _ rfl
    have f1 : ∀ j, j ≠ 19 → (sI S 19 0).1 j = S.1 j := fun j h => by simp [sI, va_up, h]
    have a1 : (sI S 19 0).2.1 = S.2.1 := rfl
    have n1 : (sI S 19 0).1 19 = nI 0 := by simp [sI, va_up]; rfl
    generalize sI S 19 0 = S1 at *
    have st1 : stl S1 = stl S := by rw [stl, stl, a1]
    have ok1 : okSt S1 := fun i => by rw [a1]; exact hs i
    rw [nI_mul]
    refine sM_whole (d := d + 3) (by omega) ⟨_, rfl, ?_⟩
    rw [st1]
    refine sM_load (d := d) (p := 2000 * k) (n := u4 (stl S) (2000 * k)) ok1 (by omega) n1 (by omega) (fun z T hT => ?_) (fun z T c1 fp hT hT19 hc1 hown hnx hRV hfp hfn => ⟨_, rfl, ?_⟩)
    · rw [st1] at z
      exact absurd hd z
    have stT : stl T = stl S := (frL_st hT).trans st1
    have okT : okSt T := frL_ok hT ok1
    rw [st1] at hRV
    refine sM_whole (d := d + 3) (k := 8000) (by omega) ⟨_, rfl, ?_⟩
    rw [stT]
    refine sM_load (d := d) (p := 8000) (n := u4 (stl S) 8000) okT (by omega) hT19 (by omega) (fun z U hU => ?_) (fun z U c3 fp2 hU hU19 hc3 hown2 hnx2 hRV2 hfp2 hfn2 => ⟨_, rfl, ?_⟩)
    · rw [stT] at z
      exact absurd hd8 z
    have stU : stl U = stl S := (frL_st hU).trans stT
    rw [stT] at hRV2
    have hRVU : RV 24 U 0 3 (sld S k) fp := RV_to (by omega) (RV_frame (frL_st hU) hfn (fun i hi => hown2 i (hfp i hi).2) (fun i hi _ => hnx2 i (hfp i hi).2) hRV)
    have hOU : ∀ i, sB (U.2.1 29 i) := fun i => by rw [hU.2 29 (by omega), hT.2 29 (by omega), a1]; exact hO i
    refine sM_print (d := d + 1) (t := 23) hOU (by omega) hRVU (by omega) (fun V t1 t2 t3 t4 => ⟨rfl, ?_⟩)
    have v22 : V.1 22 = S.1 22 := by rw [t1.1 22 (by omega) (by omega), hU.1 22 (by omega), hT.1 22 (by omega), f1 22 (by omega)]
    have v30 : V.2.1 30 = S.2.1 30 := by rw [t1.2.1 30 (by omega), hU.2 30 (by omega), hT.2 30 (by omega), a1]
    have fV : okF V := by
      obtain ⟨mm, q1, q2, q3⟩ := hF
      exact ⟨mm, q1, by rw [v22]; exact q2, fun j => by rw [v30]; exact q3 j⟩
    refine sM_isChanged (d := d + 4) t2 fV (fun W e4 => ⟨_, rfl, ?_⟩)
    rw [t3] at e4
    have hcd2 : RV 16 U c1 3 (chd S) fp2 := hRV2
    obtain ⟨ks, g, hraw, hf2, hH⟩ := RV_RH (Or.inl rfl) (by omega) hcd2
    have hstW : stl W = stl U := by rw [stl, stl, eqF_a e4 (by omega), t1.2.1 17 (by omega)]
    have prW := prs_tr (frP_prs t1 (fun _ => True)) (eqF_prs e4 _)
    have hVDc := okD_VD (stl_b S) hd8
    have hel := VD_el (Or.inl rfl) (by rw [show (slice (stl S) 8000 (8000 + u4 (stl S) 8000)).length = (chd S).length from rfl]; omega) hVDc
    have hlo := lkO_ok _ _ _ hlk
    have hce := encD_len (els (chd S))
    rw [← hraw] at hce
    have hI : ApI S W (fun q => q ∈ g) 0 c3 fp (sld S k) := by
      refine ⟨fun j hj => by rw [eqF_i e4 (by omega), t1.1 j (by omega) (by omega), hU.1 j (by omega), hT.1 j (by omega), f1 j (by omega)], fun j hj => by rw [eqF_a e4 (by omega), t1.2.1 j (by omega), hU.2 j (by omega), hT.2 j (by omega), a1], ?_, ?_, by rw [eqF_i e4 (by omega)]; exact t4, e4.2.1, e4.2.2, by rw [eqF_i e4 (by omega), t1.1 19 (by omega) (by omega)]; exact hU19, RV_prs hstW prW hfn (fun _ _ => trivial) hRVU, hfn, fun i hi => ⟨?_, fun z => ?_⟩, VD_to (by omega) (okD_VD (stl_b S) hd), fun q hq => ?_⟩
      · obtain ⟨mm, q1, q2, q3⟩ := t2
        exact ⟨mm, q1, by rw [eqF_i e4 (by omega)]; exact q2, fun j => by rw [eqF_a e4 (by omega)]; exact q3 j⟩
      · rw [← t3, ol, ol, eqF_i e4 (by omega), eqF_a e4 (by omega)]
      · have := (hfp i hi).2
        have h3 := hfp2 c1 (by rw [hf2]; simp)
        omega
      · have h3 := (hfp i hi).2
        have h4 := (hfp2 i (by rw [hf2]; simp [z])).1
        omega
      · exact (hfp2 q (by rw [hf2]; simp [hq])).2
    have hc16 : c1 < 6000 := hH.1
    rw [hf2] at hfn2
    refine ⟨_, hg_33_13 W, _, (hq_r W hc16).2.2.2.2.2.1, ?_⟩
    have w23 : W.2.1 23 = U.2.1 23 := by rw [eqF_a e4 (by omega), t1.2.1 23 (by omega)]
    have w24 : W.2.1 24 = U.2.1 24 := by rw [eqF_a e4 (by omega), t1.2.1 24 (by omega)]
    rw [w23]
    refine ap_82 (d := d) (r := rnO (els (chd S)) 0 0 (sld S k)) hs ks (els (chd S)) g 0 0 0 (sld S k) _ W c3 fp hI (RL_prs hstW prW (List.nodup_cons.mp hfn2).2 (fun _ _ => trivial) hH.2.2.2.2.2.2) (List.nodup_cons.mp hfn2).2 (Ch_frame (fun k _ => by rw [w24]) hH.2.2.2.2.2.1.1) (by omega) (by omega) (fun e he => ⟨(hel e he).2, hlo e he⟩) rfl (fun y T2 hT2 => ?_) (fun y T2 c4 fp4 hT2 hl4 => ?_)
    · generalize rnO (els (chd S)) 0 0 (sld S k) = r at *
      refine r1 y _ ⟨fun j hj => ?_, fun j hj => hT2.2.1 j (by omega), fun j => by show sB (T2.2.1 17 j); rw [hT2.2.1 17 (by omega)]; exact hs j, hT2.2.2.1, ?_⟩ ?_ ?_ ?_
      · rw [show (sI (sI T2 17 (nI r.2.1)) 18 (nI r.2.2.1)).1 j = T2.1 j by simp [sI, va_up, show j ≠ 17 by omega, show j ≠ 18 by omega]]
        exact hT2.1 j (by omega)
      · obtain ⟨mm, q1, q2, q3⟩ := hT2.2.2.2
        exact ⟨mm, q1, by simp [sI, va_up]; exact q2, q3⟩
      · simp [sI, va_up]
      · simp [sI, va_up]
      · show stl T2 = stl S
        rw [stl, stl, hT2.2.1 17 (by omega)]
    · generalize rnO (els (chd S)) 0 0 (sld S k) = r at *
      obtain ⟨B1, B2, B3, B4, B5, B6, B7, B8, B9, B10, B11, B12, B13⟩ := hT2
      have hsz := (ok_sz B3).1
      rw [B4] at hsz
      have okT2 : okSt T2 := fun j => by rw [B2 17 (by omega)]; exact hs j
      have stT2 : stl T2 = stl S := by rw [stl, stl, B2 17 (by omega)]
      have s29 : ∀ i, sB (T2.2.1 29 i) := by obtain ⟨-, -, -, h⟩ := B3; exact h
      have hdl : dep 24 3 r.2.2.2.2 < 2147483648 := by
        have : ∀ (t k : Nat) (raw : List Nat), dep t k raw ≤ t := by
          intro t
          induction t with
          | zero => intro k raw; exact Nat.le_refl _
          | succ t ih =>
            intro k raw
            rw [dep]
            split
            · have hm : ∀ l : List El, mxl (l.map (fun e => dep t e.1 e.2.2)) ≤ t := by
                intro l
                induction l with
                | nil => exact Nat.zero_le _
                | cons e l ihl => rw [List.map_cons, mxl]; exact Nat.max_le.mpr ⟨ih _ _, ihl⟩
              have := hm (dcs raw.length (slice raw 4 (raw.length - 1)))
              omega
            · omega
        have := this 24 3 r.2.2.2.2
        omega
      have w257 : (2000 < r.2.2.2.2.length ∨ 16 < dep 24 3 r.2.2.2.2) → sm_W N (d + 5 + 1) mm_M_apply 257 [(0, .ref 33)] [] (hp T2) Q := by
        intro hor
        refine kM_apply_257 (sM_fail (d := d + 4) ⟨_, rfl, ?_⟩)
        refine r2 y hor _ ⟨fun j hj => ?_, fun j hj => B2 j (by omega), fun j => okT2 j, s29, ?_⟩ ?_ ?_ stT2
        · rw [show (sI (sI T2 17 (-1)) 18 (-1)).1 j = T2.1 j by simp [sI, va_up, show j ≠ 17 by omega, show j ≠ 18 by omega]]
          exact B1 j (by omega)
        · obtain ⟨mm, q1, q2, q3⟩ := B6
          exact ⟨mm, q1, by simp [sI, va_up]; exact q2, q3⟩
        · simp [sI, va_up]
        · simp [sI, va_up]
      refine kM_apply_82 ⟨fun _ => ⟨_, hg_33_19 T2, ?_⟩, fun q => absurd (by decide) q⟩
      rw [hsz]
      refine ⟨fun q => w257 (Or.inl ?_), fun q => ⟨_, hg_33_20 T2, ?_⟩⟩
      · rw [nI_gtl (by omega) (by omega)] at q
        exact q
      · rw [nI_gtl (by omega) (by omega)] at q
        have q' : ¬ 2000 < r.2.2.2.2.length := q
        rw [B5]
        refine ⟨fun q2 => ?_, fun q2 => w257 (Or.inr ?_)⟩
        · rw [nI_lel hdl (by omega)] at q2
          have hol : bytesOf (T2.2.1 29) 0 r.2.2.2.2.length = r.2.2.2.2 := by
            conv => rhs; rw [← B4]
            rw [ol_eq (by omega) hsz]
          refine ap_272 (d := d) okT2 hsz (by omega) hk hol (fun Z hZ okZ hj => ?_)
          obtain ⟨g2, rfl⟩ := hZ
          refine r3 y (by omega) q2 B12 _ ⟨fun j hj => B1 j (by omega), fun j hj => ?_, okZ, fun i => ?_, ?_⟩ (B1 17 (by omega)) (B1 18 (by omega)) (fun j => by rw [hj j, stT2])
          · rw [show (sA T2 17 g2).2.1 j = T2.2.1 j by simp [sA, va_up, show j ≠ 17 by omega]]
            exact B2 j (by omega)
          · rw [show (sA T2 17 g2).2.1 29 = T2.2.1 29 by simp [sA, va_up]]
            exact s29 i
          · obtain ⟨mm, q5, q6, q7⟩ := B6
            exact ⟨mm, q5, q6, fun j => by rw [show (sA T2 17 g2).2.1 30 = T2.2.1 30 by simp [sA, va_up]]; exact q7 j⟩
        · rw [nI_lel hdl (by omega)] at q2
          have q3 : ¬ dep 24 3 r.2.2.2.2 ≤ 16 := q2
          omega
end Ap2
