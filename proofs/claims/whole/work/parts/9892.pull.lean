/-! the class's editor: pullItems -/
section Pu
variable {N d : Nat} {Q : Option Value → sm_H → Prop} {T : sT} {gs : List Frm} {l1 l2 items : List El} {e a : El} {A6 B6 : List Nat}
theorem pl_64 {g2 : List Frm} {P0 B0 : List Nat} (hP0 : P0.length = off g2 + 4) (hnst : ∀ c, nst g2 c (szs g2 (encs items).length) = P0 ++ (c ++ B0)) (hg2 : g2.length ≤ 8) (hn0 : rnm 0 items = items) (hil : items.length < 50000) (hl6 : bl T 6 = A6 ++ (enc1 a ++ B6)) (wa : wfE a) (va : VD 24 a.1 a.2.2)
    (hQ : ∀ U, frE T U → EdO U → bl U 7 = plg g2 (encD (rnm 0 (items.filter (fun x => !sameV 24 x.1 x.2.2 a.1 a.2.2)))) → Q (some (.int (if rnm 0 (items.filter (fun x => !sameV 24 x.1 x.2.2 a.1 a.2.2)) = items then 0 else 1))) (hp U)) :
    ∀ (rest K : List El) (J : List Nat) (n i : Nat) (U : sT), frE T U → EdO U → HS U g2 → bl U 7 = P0 ++ ((encs (rnm 0 K) ++ (J ++ encs rest)) ++ B0) → (encs (rnm 0 K)).length + (J.length + (encs rest).length) = (encs items).length → K.length ≤ i → i + rest.length = items.length → rnm i rest = rest → (J = [] → K ++ rest = items) → n ≤ P0.length + (encs (rnm 0 K)).length + J.length → (∀ b ∈ rest, wfE b ∧ VD 24 b.1 b.2.2 ∧ b.1 < 256) → items.filter (fun x => !sameV 24 x.1 x.2.2 a.1 a.2.2) = K ++ rest.filter (fun x => !sameV 24 x.1 x.2.2 a.1 a.2.2) →
    sm_W N (d + 52 + 1) mm_E_pullItems 64 [(0, .ref 9), (1, .ref 23), (2, .int (nI A6.length)), (3, .int (nI (off g2 + 4 + (encs items).length))), (4, .int (nI (P0.length + (encs (rnm 0 K)).length + J.length))), (5, .int (nI (P0.length + (encs (rnm 0 K)).length))), (6, .int (nI K.length)), (7, .int (nI n))] [] (hp U) Q := by
  intro rest
  induction rest with
  | nil =>
    intro K J n i U uT uE uH u7 hlen hKi hir hrn hJ hn hv hfil
    have hc := bl_lenB uE.2.1
    rw [caps7] at hc
    have z := congrArg List.length u7
    simp only [encs_nil, List.length_append, List.length_nil] at z hlen
    rw [List.filter_nil, List.append_nil] at hfil
    have w135 : sm_W N (d + 52 + 1) mm_E_pullItems 135 [(0, .ref 9), (3, .int (nI (off g2 + 4 + (encs items).length))), (5, .int (nI (P0.length + (encs (rnm 0 K)).length)))] [] (hp U) Q := by
      refine kE_pullItems_135 ?_
      have e0 : (0 : Int32) = nI 0 := rfl
      rw [fE_pullItems_135, pk_sub (show P0.length + (encs (rnm 0 K)).length ≤ off g2 + 4 + (encs items).length by omega), show off g2 + 4 + (encs items).length - (P0.length + (encs (rnm 0 K)).length) = J.length by omega, show P0.length + (encs (rnm 0 K)).length = off g2 + 4 + (encs (rnm 0 K)).length by omega]
      have hl2 : bl U 7 = nst g2 (encs (rnm 0 K) ++ (J ++ [])) (szs g2 (encs (rnm 0 K) ++ (J ++ [])).length) := by
        have : (encs (rnm 0 K) ++ (J ++ [])).length = (encs items).length := by simp only [List.length_append, List.length_nil]; omega
        rw [this, hnst, u7]
        rfl
      have step : ∀ V, eqB 7 (nst g2 (encs (rnm 0 K) ++ ([] ++ [])) (szs g2 (encs (rnm 0 K) ++ ([] ++ [])).length)) U V → Q (some (.int (if J = [] then 0 else 1))) (hp V) := by
        intro V hV
        have h1 := hQ V (frE_tr uT (frE_eq (Or.inl rfl) hV)) (EdO_eq (Or.inl rfl) uE hV) (by rw [hV.2.2, hfil, plg_nst]; simp)
        rw [hfil] at h1
        by_cases cJ : J = []
        · have hK := hJ cJ
          rw [List.append_nil] at hK
          rw [if_pos cJ]
          rw [hK, if_pos hn0] at h1
          exact h1
        · have hne : ¬ rnm 0 K = items := fun y => by
            rw [y] at hlen
            exact cJ (List.length_eq_zero_iff.mp (by omega))
          rw [if_neg cJ]
          rw [if_neg hne] at h1
          exact h1
      rw [e0]
      refine sE_resize (d := d + 49) (c1 := encs (rnm 0 K)) (mid := J) (c2 := []) (m := 0) uE.2.1 uH hg2 hl2 (by omega) (fun V m2 hm2 hV => ⟨_, rfl, fun c => ?_, fun c => ?_⟩)
      · rw [nI_leI (by omega) (by omega)] at c
        have hm : m2 = [] := List.length_eq_zero_iff.mp hm2
        subst hm
        have := step V hV
        rw [if_pos (List.length_eq_zero_iff.mp (by omega))] at this
        exact this
      · rw [nI_leI (by omega) (by omega)] at c
        have hm : m2 = [] := List.length_eq_zero_iff.mp hm2
        subst hm
        have := step V hV
        rw [if_neg (fun y => by rw [y, List.length_nil] at hlen; omega)] at this
        exact this
    refine kE_pullItems_64 ⟨_, hg_9_0 U, _, hb_g1 (j := 7) U (by omega), fun _ => w135, fun _ => ⟨fun _ => w135, fun c => absurd ((nI_leI (by omega) (by omega)).mpr (by omega)) c⟩⟩
  | cons b rest ih =>
    intro K J n i U uT uE uH u7 hlen hKi hir hrn hJ hn hv hfil
    have hc := bl_lenB uE.2.1
    rw [caps7] at hc
    obtain ⟨wb, vb, hbk⟩ := hv b List.mem_cons_self
    have hee := enc1_len b
    rw [rnm] at hrn
    obtain ⟨hb1, hrn2⟩ := List.cons.inj hrn
    have hbn : b.2.1 = dg i := by rw [← hb1]
    have z := congrArg List.length u7
    simp only [encs_cons, List.length_append] at z hlen
    rw [List.length_cons] at hir
    have hlb : U.1 37 = nI (bl U 7).length := by
      obtain ⟨nn, a1, a2, a3⟩ := uE.2.1
      have a2' : U.1 37 = nI nn := a2
      rw [a2', bl_len a1 a2]
    have g0 : bl U 7 = (P0 ++ encs (rnm 0 K)) ++ (J ++ (enc1 b ++ (encs rest ++ B0))) := by rw [u7, encs_cons]; simp
    have g1 : bl U 7 = ((P0 ++ encs (rnm 0 K)) ++ J) ++ (enc1 b ++ (encs rest ++ B0)) := by rw [g0]; simp
    have hX : P0.length + (encs (rnm 0 K)).length + J.length = ((P0 ++ encs (rnm 0 K)) ++ J).length := by rw [List.length_append, List.length_append]
    have hP : P0.length + (encs (rnm 0 K)).length = (P0 ++ encs (rnm 0 K)).length := by rw [List.length_append]
    have u6 : bl U 6 = A6 ++ (enc1 a ++ B6) := by rw [frE_6 uT (Or.inl rfl)]; exact hl6
    refine kE_pullItems_64 ⟨_, hg_9_0 U, _, hb_g1 (j := 7) U (by omega), fun c => ?_, fun _ => ⟨fun c => ?_, fun _ => ⟨_, hg_9_0 U, ?_⟩⟩⟩
    · rw [show U.1 (30 + 7) = U.1 37 from rfl, hlb, nI_leI (by omega) (by omega)] at c
      omega
    · rw [nI_leI (by omega) (by omega)] at c
      omega
    · rw [hX]
      refine eB_ve (j := 7) (d := d + 50) (by omega) uE.2.1 g1 wb ⟨_, rfl, _, hg_9_0 U, ?_⟩
      refine sD_sameV (j := 7) (j2 := 6) (by omega) uE.2.1 (by omega) uE.1 24 d 0 _ _ b A6 B6 a _ (by omega) g1 u6 wb wa vb va ⟨_, rfl, fun c => ?_, fun c => kE_pullItems_125 ?_⟩
      · have hs : sameV 24 b.1 b.2.2 a.1 a.2.2 = false := by
          cases h : sameV 24 b.1 b.2.2 a.1 a.2.2 with
          | false => rfl
          | true => rw [h] at c; exact absurd c (by decide)
        have hd1 := dg_len K.length
        have hd2 := dg_len i
        have hd3 := nd_mono hKi
        have hrK : rnm 0 (K ++ [b]) = rnm 0 K ++ [(b.1, dg K.length, b.2.2)] := by rw [rnm_app, Nat.zero_add]; rfl
        have hrl : (encs (rnm 0 (K ++ [b]))).length = (encs (rnm 0 K)).length + (2 + (dg K.length).length + b.2.2.length) := by rw [hrK, encs_app, encs_cons, encs_nil, List.append_nil, List.length_append, enc1_len]
        rw [hP]
        refine sE_moveItem (d := d + 49) (e := b) (P := P0 ++ encs (rnm 0 K)) (J := J) (R := encs rest ++ B0) (n := K.length) uE g0 wb hbk (by omega) (by rw [hbn]; omega) (fun V J2 hJ2 vF vE v7 vI v16 => ⟨_, rfl, kE_pullItems_125 ?_⟩)
        rw [fE_pullItems_125, nI_1, nI_1]
        have hfil2 : items.filter (fun x => !sameV 24 x.1 x.2.2 a.1 a.2.2) = (K ++ [b]) ++ rest.filter (fun x => !sameV 24 x.1 x.2.2 a.1 a.2.2) := by
          rw [hfil, List.filter_cons_of_pos (by simp [hs]), List.append_assoc]
          rfl
        have := ih (K ++ [b]) J2 (n + 1) (i + 1) V (frE_tr uT vF) vE (HS_fr (vI 7 (by omega) (by omega)) v16 uH) (by rw [v7, hrK, encs_app, encs_cons, encs_nil]; simp) (by rw [hrl]; rw [hbn] at hJ2 hee; omega) (by rw [List.length_append, List.length_singleton]; omega) (by omega) hrn2 (fun y => by
          rw [y, List.length_nil, hbn] at hJ2
          rw [List.append_assoc]
          exact hJ (List.length_eq_zero_iff.mp (by omega))) (by rw [hrl]; omega) (fun x hx => hv x (List.mem_cons_of_mem _ hx)) hfil2
        rw [List.length_append, List.length_singleton, hrl] at this
        have q1 : P0.length + ((encs (rnm 0 K)).length + (2 + (dg K.length).length + b.2.2.length)) = ((P0 ++ encs (rnm 0 K)) ++ enc1 (b.1, dg K.length, b.2.2)).length := by
          rw [List.length_append (as := P0 ++ encs (rnm 0 K)), enc1_len, ← hP]
          show _ = P0.length + (encs (rnm 0 K)).length + (2 + (dg K.length).length + b.2.2.length)
          omega
        have q2 : P0.length + ((encs (rnm 0 K)).length + (2 + (dg K.length).length + b.2.2.length)) + J2.length = (((P0 ++ encs (rnm 0 K)) ++ J) ++ enc1 b).length := by
          rw [List.length_append (as := (P0 ++ encs (rnm 0 K)) ++ J), hee, ← hX]
          omega
        rw [q2, q1] at this
        exact this
      · have hs : sameV 24 b.1 b.2.2 a.1 a.2.2 = true := by
          cases h : sameV 24 b.1 b.2.2 a.1 a.2.2 with
          | true => rfl
          | false => rw [h] at c; exact absurd rfl c
        rw [fE_pullItems_125, nI_1]
        have hfil2 : items.filter (fun x => !sameV 24 x.1 x.2.2 a.1 a.2.2) = K ++ rest.filter (fun x => !sameV 24 x.1 x.2.2 a.1 a.2.2) := by
          rw [hfil, List.filter_cons_of_neg (by simp [hs])]
        have := ih K (J ++ enc1 b) (n + 1) (i + 1) U uT uE uH (by rw [u7, encs_cons]; simp) (by rw [List.length_append]; omega) (by omega) (by omega) hrn2 (fun y => by
          have h5 := congrArg List.length y
          rw [List.length_append, List.length_nil] at h5
          omega) (by rw [List.length_append]; omega) (fun x hx => hv x (List.mem_cons_of_mem _ hx)) hfil2
        have q2 : P0.length + (encs (rnm 0 K)).length + (J ++ enc1 b).length = (((P0 ++ encs (rnm 0 K)) ++ J) ++ enc1 b).length := by
          rw [List.length_append (as := (P0 ++ encs (rnm 0 K)) ++ J), ← hX, List.length_append]
          omega
        rw [q2] at this
        exact this
theorem sE_pull (hE : EdO T) (h7 : bl T 7 = plg gs (encD (l1 ++ e :: l2))) (hH : HS T gs) (hg : gs.length ≤ 7) (h9 : T.1 9 = nI (off gs + 4 + (encs l1).length)) (we : wfE e) (hek : e.1 < 256) (hit : e.1 = 4 → e.2.2 = encD items ∧ rnm 0 items = items ∧ ∀ b ∈ items, wfE b ∧ VD 24 b.1 b.2.2 ∧ b.1 < 256) (hl6 : bl T 6 = A6 ++ (enc1 a ++ B6)) (wa : wfE a) (va : VD 24 a.1 a.2.2) (hQ7 : e.1 ≠ 4 → Q (some (.int (-7))) (hp T)) (hQ : e.1 = 4 → ∀ U, frE T U → EdO U → bl U 7 = plg gs (encD (l1 ++ (4, e.2.1, encD (rnm 0 (items.filter (fun x => !sameV 24 x.1 x.2.2 a.1 a.2.2)))) :: l2)) → Q (some (.int (if rnm 0 (items.filter (fun x => !sameV 24 x.1 x.2.2 a.1 a.2.2)) = items then 0 else 1))) (hp U)) : sm_V N (d + 52 + 1) mm_E_pullItems 2 9 [.ref 23, .int (nI A6.length)] (hp T) Q := by
  have hlen := bl_lenB hE.2.1
  rw [caps7] at hlen
  obtain ⟨A, B, hA, hAB⟩ := nst_c gs (szs gs (encs (l1 ++ e :: l2)).length)
  have hl1 : bl T 7 = (A ++ encs l1) ++ (enc1 e ++ (encs l2 ++ B)) := by rw [h7, plg_nst, hAB, encs_app, encs_cons]; simp
  have hpos : off gs + 4 + (encs l1).length = (A ++ encs l1).length := by rw [List.length_append, hA]
  have hbe := eB_len hE.2.1 hl1
  rw [hpos] at h9
  refine cE_pullItems (hk_9 T) ⟨_, hg_9_0 T, _, hg_9_7 T, ?_⟩
  rw [h9]
  refine eB_kind (j := 7) (d := d + 51) (by omega) hE.2.1 hl1 ⟨_, rfl, fun c => ⟨_, hg_9_0 T, _, hg_9_7 T, ?_⟩, fun c => ?_⟩
  · rw [nI_eql (by omega) (by omega)] at c
    have e4 : e.1 = 4 := c
    obtain ⟨hraw, hrn, hwi⟩ := hit e4
    have hrl := encD_len items
    rw [← hraw] at hrl
    have hil := es_le items
    rw [h9]
    refine eB_vs (j := 7) (d := d + 51) (by omega) hE.2.1 hl1 we ⟨_, rfl, ?_⟩
    refine sE_enter (d := d + 51) hH.1 (by omega) (fun W w7 w8 w16 wI wA wL => ⟨rfl, _, hg_9_0 W, ?_⟩)
    have hoff : (A ++ encs l1).length + 2 + e.2.1.length = off (gs ++ [(l1, 4, e.2.1, l2)]) := by
      rw [off_snoc, ← hpos]
      simp only
      omega
    rw [hoff] at w16
    have wF : frE T W := ⟨fun i hi _ _ _ => wI i (by omega) (by omega), fun i _ _ _ hi => wA i hi, wL⟩
    have ok : ∀ j, j < 11 → okB T j → okB W j := fun j hj ho => by
      obtain ⟨n, q1, q2, q3⟩ := ho
      exact ⟨n, q1, by rw [wI _ (by omega) (by omega)]; exact q2, fun i => by rw [wA _ (by omega)]; exact q3 i⟩
    have wE : EdO W := EdO_fr wF hE (ok 7 (by omega) hE.2.1) (ok 9 (by omega) hE.2.2.2.1) (ok 10 (by omega) hE.2.2.2.2.1)
    have wH := HS_snoc (T := W) (f := (l1, 4, e.2.1, l2)) hH w7 w16
    have hpl : ∀ its : List El, plg (gs ++ [(l1, 4, e.2.1, l2)]) (encD its) = plg gs (encD (l1 ++ (4, e.2.1, encD its) :: l2)) := fun its => by rw [plg_app]; rfl
    have wb7 : bl W 7 = plg (gs ++ [(l1, 4, e.2.1, l2)]) (encD items) := by
      rw [hpl, ← hraw, ← e4, bl, wI _ (by omega) (by omega), wA _ (by omega)]
      exact h7
    have hgl : (gs ++ [(l1, 4, e.2.1, l2)]).length ≤ 8 := by rw [List.length_append, List.length_singleton]; omega
    have hQ4 := hQ e4
    have hQ5 : ∀ U, frE T U → EdO U → bl U 7 = plg (gs ++ [(l1, 4, e.2.1, l2)]) (encD (rnm 0 (items.filter (fun x => !sameV 24 x.1 x.2.2 a.1 a.2.2)))) → Q (some (.int (if rnm 0 (items.filter (fun x => !sameV 24 x.1 x.2.2 a.1 a.2.2)) = items then 0 else 1))) (hp U) := fun U uF uE u7 => hQ4 U uF uE (by rw [u7, hpl])
    generalize gs ++ [(l1, 4, e.2.1, l2)] = g2 at *
    refine sE_holder (d := d + 51) wH hgl ⟨_, rfl, ?_⟩
    obtain ⟨A0, B0, hA0, hl0⟩ := plg_at items g2
    rw [← hA0]
    refine eB_last (j := 7) (d := d + 50) (by omega) wE.2.1 (by rw [wb7]; exact hl0) ⟨_, rfl, ?_⟩
    rw [hA0]
    refine sE_holder (d := d + 51) wH hgl ⟨_, rfl, ?_⟩
    rw [nI_al]
    obtain ⟨P0, C0, hP0, hnst⟩ := nst_c g2 (szs g2 (encs items).length)
    have := pl_64 (N := N) (d := d) (Q := Q) (T := T) hP0 hnst hgl hrn (by omega) hl6 wa va hQ5 items [] [] 0 0 W wF wE wH (by rw [wb7, plg_nst, hnst]; rfl) (by simp [rnm, encs]) (by simp) (by simp) hrn (fun _ => rfl) (by omega) hwi (by simp)
    have q : P0.length + (encs (rnm 0 [])).length + ([] : List Nat).length = off g2 + 4 := by rw [hP0]; simp [rnm, encs]
    have q2 : P0.length + (encs (rnm 0 [])).length = off g2 + 4 := by rw [hP0]; simp [rnm, encs]
    rw [q, q2] at this
    exact this
  · rw [nI_eql (by omega) (by omega)] at c
    exact hQ7 c
end Pu
