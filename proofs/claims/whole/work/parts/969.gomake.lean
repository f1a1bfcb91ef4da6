/-! the reference: goMaking -/
theorem AtN_fr {S T : sT} {P : Nat → Prop} {R c c2 : Nat} {fs : List Frm} {p k u : Nat} {es : List El} {O : Nat → Prop} {ks f : List Nat} (h : AtN S P R c fs p k u es O ks f) (hf : frN S T (fun q => O q ∨ q ∈ p :: f)) (hc : c ≤ c2) : AtN T P R c2 fs p k u es O ks f := by
  obtain ⟨h1, h2, h3, h4, h5⟩ := h
  have hp1 := hf.2.2 p (Or.inr List.mem_cons_self)
  refine ⟨Hol_fr h1 ⟨frN_st hf, fun q hq => hf.2.2 q (Or.inl hq), hp1.2, hp1.1.2.2.2.2.2.2.1, hp1.1.2.2.2.2.2.2.2⟩, RH_fr (frN_st hf) h3 (fun i hi => (hf.2.2 i (Or.inr hi)).1) (fun i hi => (hf.2.2 i (Or.inr (List.mem_cons_of_mem _ hi))).2) h2, h3, h4, fun i hi => ⟨by have := (h5 i hi).1; omega, (h5 i hi).2⟩⟩
theorem AtN_le {S : sT} {P P2 : Nat → Prop} {R c : Nat} {fs : List Frm} {p k u : Nat} {es : List El} {O : Nat → Prop} {ks f : List Nat} (hP : ∀ q, P q → P2 q) (h : AtN S P2 R c fs p k u es O ks f) : AtN S P R c fs p k u es O ks f := ⟨h.1, h.2.1, h.2.2.1, h.2.2.2.1, fun i hi => ⟨(h.2.2.2.2 i hi).1, fun z => (h.2.2.2.2 i hi).2 (hP i z)⟩⟩
/-- a node is given a step's name and hung up behind a holder's children -/
theorem hang {S : sT} {P : Nat → Prop} {R c : Nat} {fs : List Frm} {p k u : Nat} {es : List El} {O : Nat → Prop} {ks f : List Nat} {n k2 s : Nat} {raw2 fn w : List Nat} (h : AtN S P R c fs p k u es O ks f) (hv : RV u S n k2 raw2 fn) (hfn : fn.Nodup) (hd : ∀ i ∈ fn, i < c ∧ ¬ P i ∧ ¬ O i ∧ i ∉ p :: f) (hw : StA S s w) (hz : ∀ b ∈ w, b ≠ 0) (hb : ∀ b ∈ w, b < 256) (h4 : k = 4 → w = dg es.length) :
    n ∉ ks ∧ Kids (nmS S n (S.2.1 31 s) (S.2.1 32 s)) p ks ∧ frN S (apS (nmS S n (S.2.1 31 s) (S.2.1 32 s)) p n ks) P ∧ (apS (nmS S n (S.2.1 31 s) (S.2.1 32 s)) p n ks).1 = S.1 ∧ AtN (apS (nmS S n (S.2.1 31 s) (S.2.1 32 s)) p n ks) P R c fs p k u (es ++ [(k2, w, raw2)]) O (ks ++ [n]) (f ++ fn) := by
  obtain ⟨h1, h2, h3, h5, h6⟩ := h
  obtain ⟨n1, n2⟩ := List.nodup_cons.mp h3
  obtain ⟨f4, hf4⟩ := RV_hd hv
  have hnn : n ∈ fn := by rw [hf4]; simp
  obtain ⟨d1, d2, d3, d4⟩ := hd n hnn
  have kin := RL_in h2.2.2.2.2.2.2
  have hpn : p ≠ n := fun z => d4 (by simp [z])
  have hfn2 : ∀ i ∈ f, i ≠ n := fun i hi z => d4 (List.mem_cons_of_mem _ (z ▸ hi))
  have hnk : n ∉ ks := fun z => d4 (List.mem_cons_of_mem _ (kin n z))
  have hpk : p ∉ ks := fun z => n1 (kin p z)
  have hU := nmS_fr S n (S.2.1 31 s) (S.2.1 32 s)
  have hNm := nmS_Nm (n := n) hw
  have hval := nmS_val S n (S.2.1 31 s) (S.2.1 32 s) n
  have hU1 : (nmS S n (S.2.1 31 s) (S.2.1 32 s)).1 = S.1 := rfl
  generalize nmS S n (S.2.1 31 s) (S.2.1 32 s) = U at *
  have hRU : RH u U p k es ks f := by
    refine RH_fr (frN_st hU) h3 (fun i hi => (hU.2.2 i ?_).1) (fun i hi => (hU.2.2 i (hfn2 i hi)).2) h2
    rcases List.mem_cons.mp hi with rfl | hi
    · exact hpn
    · exact hfn2 i hi
  have hvU : RV u U n k2 raw2 fn := RV_fr2 (frN_st hU) hfn hval (fun i hi hin => hU.2.2 i hin) hv
  have hR2 := RH_app (w := w) h3 hRU hvU hfn (fun i hi => (hd i hi).2.2.2) (by by_cases c4 : k = 4; rw [if_pos c4]; exact h4 c4; rw [if_neg c4]; exact hNm) hz hb
  have hT := apS_fr U p n ks
  have hT1 : (apS U p n ks).1 = U.1 := apS_i ..
  have p24 : (apS U p n ks).2.1 24 p = U.2.1 24 p := apS_24 _ _ _ _ hpn hpk
  have p19 : (apS U p n ks).2.1 19 p = U.2.1 19 p := by rw [apS_o _ _ _ _ (by omega) (by omega) (by omega)]
  have p20 : (apS U p n ks).2.1 20 p = U.2.1 20 p := by rw [apS_o _ _ _ _ (by omega) (by omega) (by omega)]
  refine ⟨hnk, hRU.2.2.2.2.2.1, frN_tr (frN_le hU (fun q hq z => d2 (z ▸ hq))) (frN_le hT (fun q hq => ⟨fun z => (h6 p (Or.inr List.mem_cons_self)).2 (z ▸ hq), fun z => d2 (z ▸ hq), fun z => (h6 q (Or.inr (List.mem_cons_of_mem _ (kin q z)))).2 hq⟩)), by rw [hT1, hU1], Hol_fr h1 ?_, hR2, nd_ap h3 hfn (fun i hi => (hd i hi).2.2.2), ?_, ?_⟩
  · have hOT : ∀ q, O q → q ≠ p ∧ q ≠ n ∧ q ∉ ks := fun q hq => ⟨fun z => h5 p List.mem_cons_self (z ▸ hq), fun z => d3 (z ▸ hq), fun z => h5 q (List.mem_cons_of_mem _ (kin q z)) hq⟩
    exact ⟨(frN_st hT).trans (frN_st hU), fun q hq => ⟨sOwn_tr (hU.2.2 q (hOT q hq).2.1).1 (hT.2.2 q (hOT q hq)).1, (hT.2.2 q (hOT q hq)).2.trans (hU.2.2 q (hOT q hq).2.1).2⟩, p24.trans (hU.2.2 p hpn).2, p19.trans (hU.2.2 p hpn).1.2.2.2.2.2.2.1, p20.trans (hU.2.2 p hpn).1.2.2.2.2.2.2.2⟩
  · intro i hi
    rcases List.mem_cons.mp hi with rfl | hi
    · exact h5 i List.mem_cons_self
    · rcases List.mem_append.mp hi with hi | hi
      · exact h5 i (List.mem_cons_of_mem _ hi)
      · exact (hd i hi).2.2.1
  · intro i hi
    rcases hi with hi | hi
    · exact h6 i (Or.inl hi)
    · rcases List.mem_cons.mp hi with rfl | hi
      · exact h6 i (Or.inr List.mem_cons_self)
      · rcases List.mem_append.mp hi with hi | hi
        · exact h6 i (Or.inr (List.mem_cons_of_mem _ hi))
        · exact ⟨(hd i hi).1, (hd i hi).2.1⟩
theorem wlk_f {mk : Bool} {w v : List Nat} {r : List (List Nat)} {k : Nat} {raw : List Nat} {l1 l2 : List El} {e : El} (hk : k = 3 ∨ k = 4) (hm : mk = true → mayG k (els raw) w = true) (hf : fsp w (els raw) = some (l1, e, l2)) : wlk mk (w :: v :: r) k raw = match wlk mk (v :: r) e.1 e.2.2 with
    | none => none
    | some y => some ((l1, e.1, w, l2) :: y.1, y.2) := by
  rw [wlk, if_pos ⟨hk, hm⟩, hf]
  dsimp only
  cases wlk mk (v :: r) e.1 e.2.2 <;> rfl
theorem wlk_n {w v : List Nat} {r : List (List Nat)} {k : Nat} {raw : List Nat} (hk : k = 3 ∨ k = 4) (hm : mayG k (els raw) w = true) (hf : fsp w (els raw) = none) : wlk true (w :: v :: r) k raw = match wlk true (v :: r) 3 (encD []) with
    | none => none
    | some y => some ((els raw, 3, w, []) :: y.1, y.2) := by
  rw [wlk, if_pos ⟨hk, fun _ => hm⟩, hf]
  dsimp only
  rw [if_pos rfl]
  cases wlk true (v :: r) 3 (encD []) <;> rfl
theorem wlk_0 {mk : Bool} {w : List Nat} {r : List (List Nat)} {k : Nat} {raw : List Nat} (h : ¬ ((k = 3 ∨ k = 4) ∧ (mk = true → mayG k (els raw) w = true))) : wlk mk (w :: r) k raw = none := by
  cases r with
  | nil => rw [wlk, if_neg h]
  | cons v r => rw [wlk, if_neg h]
theorem mayG_no {k : Nat} {es : List El} {w : List Nat} (hm : mayG k es w = true) (hf : fsp w es = none) : k = 4 → w = dg es.length := by
  intro c
  subst c
  simp [mayG, hf] at hm
  exact hm
section Gm
variable {N d : Nat} {Q : Option Value → sm_H → Prop}
theorem gm_4 {R tot : Nat} {P : Nat → Prop} (htot : tot ≤ 8) : ∀ (ws : List (List Nat)) (s : Nat) (S : sT) (fs : List Frm) (p k u : Nat) (raw : List Nat) (O : Nat → Prop) (f : List Nat) (c : Nat), ws ≠ [] → s + ws.length = tot → S.1 23 = nI tot → okSt S → (∀ i w, ws[i]? = some w → StA S (s + i) w ∧ (∀ b ∈ w, b ≠ 0) ∧ ∀ b ∈ w, b < 256) → AtV S P R c fs p k u raw O f → VD u k raw → ws.length + 1 ≤ u → raw.length < 100000 → S.1 19 = nI c → c + ws.length ≤ 6000 → (∀ q, P q → q < c) →
    (wlk true ws k raw = none → ∀ T, frN S T P → Q (some (.int (-1))) (hp T)) →
    (∀ gs k2 es, wlk true ws k raw = some (gs, k2, es) → ∀ T p2 u2 O2 ks2 f2 c2, frN S T P → AtN T P R c2 (fs ++ gs) p2 k2 u2 es O2 ks2 f2 → VD (u2 + 1) k2 (encD es) → (encD es).length < 100000 → T.1 19 = nI c2 → c ≤ c2 → c2 + 1 ≤ c + ws.length → u ≤ u2 + ws.length → u2 < u → Q (some (.int (nI p2))) (hp T)) →
    sm_W N (d + 3 + 1) mm_M_goMaking 4 [(0, .ref 33), (2, .int (nI p)), (3, .int (nI s))] [] (hp S) Q := by
  intro ws
  induction ws with
  | nil => intro s S fs p k u raw O f c hne; exact absurd rfl hne
  | cons w r ih =>
    intro s S fs p k u raw O f c _ hsl h23 hs hst hA hVD hu hl h19 hc hP h0 h1
    obtain ⟨hSt, hz, hb⟩ := hst 0 w rfl
    rw [Nat.add_zero] at hSt
    rw [List.length_cons] at hsl hu hc
    refine kM_goMaking_4 ⟨_, hg_33_24 S, fun q => ?_, fun _ => ?_⟩
    · rw [h23, nI_leI (by omega) (by omega)] at q
      omega
    by_cases hk : k = 3 ∨ k = 4
    · obtain ⟨v, rfl⟩ : ∃ v, u = v + 1 := ⟨u - 1, by omega⟩
      obtain ⟨ks, f2, hraw, hN⟩ := AtV_N hk hl hA
      obtain ⟨-, hnm, hwf, hel⟩ := VD_h hk hl hVD
      have hrl : 5 + (encs (els raw)).length = raw.length := by
        have := encD_len (els raw)
        rw [← hraw] at this
        omega
      have hel5 : (els raw).length < 100000 := by
        have := es_le (els raw)
        omega
      refine go_may (d := d) hN.2.1 hnm hel5 (by omega) hSt ⟨_, rfl, fun q => ?_, fun q => ⟨_, hg_33_24 S, fun q2 => ?_, fun q2 => ?_⟩⟩
      · have hm : ¬ mayG k (els raw) w = true := fun z => by
          rw [if_pos z] at q
          exact absurd q (by decide)
        exact h0 (wlk_0 (fun z => hm (z.2 rfl))) S (frN_rf S P)
      · have hm : mayG k (els raw) w = true := by
          by_cases z : mayG k (els raw) w = true
          · exact z
          · rw [if_neg z] at q
            exact absurd rfl q
        rw [h23, nI_sl (by omega), nI_eq (by omega) (by omega)] at q2
        have hr : r = [] := List.eq_nil_of_length_eq_zero (by have q3 : s = tot - 1 := q2; omega)
        subst hr
        exact h1 [] k (els raw) (by rw [wlk, if_pos ⟨hk, fun _ => hm⟩]) S p v O ks f2 c (frN_rf S P) (by rw [List.append_nil]; exact hN) (by rw [← hraw]; exact hVD) (by rw [← hraw]; exact hl) h19 (Nat.le_refl _) (by simp) (by simp) (by omega)
      · have hm : mayG k (els raw) w = true := by
          by_cases z : mayG k (els raw) w = true
          · exact z
          · rw [if_neg z] at q
            exact absurd rfl q
        rw [h23, nI_sl (by omega), nI_eq (by omega) (by omega)] at q2
        cases r with
        | nil => exact absurd (show s = tot - 1 by simp at hsl; omega) q2
        | cons v2 r =>
          have hst2 : ∀ (T : sT), frN S T P → ∀ i x, (v2 :: r)[i]? = some x → StA T (s + 1 + i) x ∧ (∀ b ∈ x, b ≠ 0) ∧ ∀ b ∈ x, b < 256 := by
            intro T hT i x hx
            obtain ⟨y1, y2⟩ := hst (i + 1) x hx
            rw [show s + (i + 1) = s + 1 + i by omega] at y1
            exact ⟨frN_StA hT y1, y2⟩
          rw [List.length_cons] at hsl hu hc
          refine go_meets (d := d) hs hN.2.1 hnm hel5 (by omega) hSt (fun hf => ⟨_, rfl, fun q3 => absurd q3 (by decide), fun _ => ?_⟩) (fun l1 e l2 ks1 q3 ks2 hf hks hkl hq6 => ⟨_, rfl, fun _ => ?_, fun q4 => absurd (nI_pos' (by omega)) q4⟩)
          · have hw2 := wlk_n (v := v2) (r := r) hk hm hf
            refine sM_make (d := d + 2) (by omega) h19 ⟨_, rfl, ?_⟩
            have e3 : (3 : Int32) = nI 3 := rfl
            rw [e3]
            have m1 := mkN_fr S c (nI 3)
            have m2 := mkN_RH (v - 1) S (n := c) (k := 3) (by omega) (Or.inl rfl)
            have m3 := mkN_19 S c (nI 3)
            generalize mkN S c (nI 3) = S1 at *
            have hN1 : AtN S1 P R (c + 1) fs p k v (els raw) O ks f2 := AtN_fr hN (frN_le m1 (fun q hq => by have := (hN.2.2.2.2 q hq).1; omega)) (by omega)
            have hRV1 : RV v S1 c 3 (encD []) [c] := by
              have := RH_RV m2
              rw [show v - 1 + 1 = v by omega] at this
              exact this
            have hPS1 : frN S S1 P := frN_le m1 (fun q hq => by have := hP q hq; omega)
            obtain ⟨g1, g2, g3, g4, g5⟩ := hang (s := s) (w := w) hN1 hRV1 (by simp) (fun i hi => by
              rw [List.mem_singleton.mp hi]
              exact ⟨by omega, fun z => by have := hP c z; omega, fun z => by have := (hN.2.2.2.2 c (Or.inl z)).1; omega, fun z => by have := (hN.2.2.2.2 c (Or.inr z)).1; omega⟩) (frN_StA hPS1 hSt) hz hb (mayG_no hm hf)
            refine sM_name (d := d + 2) (by omega) (by omega) ⟨rfl, ?_⟩
            refine sM_append (d := d + 2) (ks := ks) hN.2.1.1 (by omega) g2 g1 ⟨rfl, kM_goMaking_69 ?_⟩
            rw [fM_goMaking_69, nI_1]
            have hT := frN_tr hPS1 g3
            have hT19 : (apS (nmS S1 c (S1.2.1 31 s) (S1.2.1 32 s)) p c ks).1 19 = nI (c + 1) := by rw [g4]; exact m3
            have hT23 : (apS (nmS S1 c (S1.2.1 31 s) (S1.2.1 32 s)) p c ks).1 23 = nI tot := by rw [hT.1 23 (by omega)]; exact h23
            generalize hTT : apS (nmS S1 c (S1.2.1 31 s) (S1.2.1 32 s)) p c ks = T at *
            show sm_W N (d + 3 + 1) mm_M_goMaking 4 [(0, .ref 33), (2, .int (nI c)), (3, .int (nI (s + 1)))] [] (hp (apS (nmS S1 c (S1.2.1 31 s) (S1.2.1 32 s)) p c ks)) Q
            rw [hTT]
            obtain ⟨O2, f4, hV2⟩ := AtN_in g5 (RL_len hN.2.1.2.2.2.2.2.2)
            refine ih (s + 1) T (fs ++ [(els raw, 3, w, [])]) c 3 v (encD []) O2 f4 (c + 1) (by simp) (by rw [List.length_cons]; omega) hT23 (frN_ok hT hs) (hst2 T hT) hV2 ?_ (by rw [List.length_cons]; omega) (by rw [encD_len]; simp [encs]) hT19 (by rw [List.length_cons]; omega) (fun q hq => by have := hP q hq; omega) (fun z U hU => h0 (by rw [hw2, z]) U (frN_tr hT hU)) (fun gs k2 es z U p2 u2 O3 ks3 f3 c3 hU hA3 hV3 hl3 h193 hc1 hc2 hu3 hu4 => ?_)
            · rw [show v = v - 1 + 1 by omega]
              exact VD_0 _
            · rw [List.append_assoc] at hA3
              rw [List.length_cons] at hc2 hu3
              exact h1 ((els raw, 3, w, []) :: gs) k2 es (by rw [hw2, z]) U p2 u2 O3 ks3 f3 c3 (frN_tr hT hU) hA3 hV3 hl3 h193 (by omega) (by rw [List.length_cons, List.length_cons]; omega) (by rw [List.length_cons, List.length_cons]; omega) (by omega)
          · obtain ⟨he, hew, -⟩ := fsp_some hf
            have hw2 := wlk_f (mk := true) (v := v2) (r := r) hk (fun _ => hm) hf
            have hme : e ∈ els raw := by rw [he]; simp
            have hlen := el_len hme
            rw [he, hks] at hN
            obtain ⟨O2, f4, hV2⟩ := AtN_in hN hkl
            rw [hew] at hV2
            refine kM_goMaking_69 ?_
            rw [fM_goMaking_69, nI_1]
            refine ih (s + 1) S (fs ++ [(l1, e.1, w, l2)]) q3 e.1 v e.2.2 O2 f4 c (by simp) (by rw [List.length_cons]; omega) h23 hs (hst2 S (frN_rf S P)) hV2 (hel e hme).2.2 (by rw [List.length_cons]; omega) (by omega) h19 (by rw [List.length_cons]; omega) hP (fun z U hU => h0 (by rw [hw2, z]) U hU) (fun gs k2 es z U p2 u2 O3 ks3 f3 c3 hU hA3 hV3 hl3 h193 hc1 hc2 hu3 hu4 => ?_)
            rw [List.append_assoc] at hA3
            rw [List.length_cons] at hc2 hu3
            exact h1 ((l1, e.1, w, l2) :: gs) k2 es (by rw [hw2, z]) U p2 u2 O3 ks3 f3 c3 hU hA3 hV3 hl3 h193 hc1 (by rw [List.length_cons, List.length_cons]; omega) (by rw [List.length_cons, List.length_cons]; omega) (by omega)
    · obtain ⟨a1, a2, a3⟩ := RV_k hA.2.1
      refine go_may0 (d := d) a1 a2 a3 hk (by omega) hSt ⟨_, rfl, fun _ => h0 (wlk_0 (fun z => hk z.1)) S (frN_rf S P), fun q => absurd rfl q⟩
end Gm
