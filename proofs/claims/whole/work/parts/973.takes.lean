/-! the reference: takes -/
theorem rnm_rnm : ∀ (es : List El) (i j : Nat), rnm i (rnm j es) = rnm i es := by
  intro es
  induction es with
  | nil => intro i j; rfl
  | cons e es ih => intro i j; rw [rnm, rnm, rnm, ih]
theorem rnm_app : ∀ (a b : List El) (i : Nat), rnm i (a ++ b) = rnm i a ++ rnm (i + a.length) b := by
  intro a
  induction a with
  | nil => intro b i; rfl
  | cons e a ih =>
    intro b i
    rw [List.cons_append, rnm, rnm, ih, List.cons_append, List.length_cons, show i + 1 + a.length = i + (a.length + 1) by omega]
theorem rnm_enc : ∀ (es : List El) (i : Nat), (encs (rnm i es)).length ≤ (encs es).length + 5 * es.length := by
  intro es
  induction es with
  | nil => intro i; simp [rnm, encs]
  | cons e es ih =>
    intro i
    have := ih (i + 1)
    have h2 := dg_len i
    have h3 := nd_le i
    rw [rnm, encs_cons, encs_cons, List.length_append, List.length_append, enc1_len, enc1_len, List.length_cons]
    simp only
    omega
section Tk2
variable {N d : Nat} {Q : Option Value → sm_H → Prop}
theorem go_meets0 {S : sT} {p k s : Nat} {w : List Nat} (hs : okSt S) (hp1 : p < 6000) (hk : S.2.1 18 p = nI k) (hk2 : k < 256) (hk3 : ¬ (k = 3 ∨ k = 4)) (hs8 : s < 8) (hw : StA S s w) (hQ : Q (some (.int (-1))) (hp S)) : sm_V N (d + 3) mm_M_meets 5 33 [.int (nI p), .int (nI s)] (hp S) Q := by
  refine sM_meets (ks := []) (nms := []) hs hp1 hs8 hk hk2 hw (fun c => absurd c hk3) (fun c => absurd (Or.inl c) hk3) ?_
  rw [if_neg (fun c => hk3 (Or.inl c)), if_neg (fun c => hk3 (Or.inr c))]
  exact hQ
theorem tk_9 {S : sT} {P : Nat → Prop} {R c tot : Nat} {x2 x3 : Int32} (htot : tot ≤ 8) (h23 : S.1 23 = nI tot) (hs : okSt S) : ∀ (ws : List (List Nat)) (s : Nat) (fs : List Frm) (p k u : Nat) (raw : List Nat) (O : Nat → Prop) (f : List Nat) (par : Int32), ws ≠ [] → s + ws.length = tot → (∀ i w, ws[i]? = some w → StA S (s + i) w) → AtV S P R c fs p k u raw O f → VD u k raw → ws.length + 1 ≤ u → raw.length < 100000 →
    (wlk false ws k raw = none → ∀ pr : Int32, sm_W N (d + 3 + 1) mm_M_takes 43 [(0, .ref 33), (2, .int x2), (3, .int x3), (4, .int (-1)), (5, .int pr)] [] (hp S) Q) →
    (∀ gs k2 es, wlk false ws k raw = some (gs, k2, es) → ∀ p2 u2 O2 ks2 f2, AtN S P R c (fs ++ gs) p2 k2 u2 es O2 ks2 f2 → VD (u2 + 1) k2 (encD es) → (encD es).length < 100000 → u ≤ u2 + ws.length → u2 < u → (fsp (ws.getLastD []) es = none → sm_W N (d + 3 + 1) mm_M_takes 43 [(0, .ref 33), (2, .int x2), (3, .int x3), (4, .int (-1)), (5, .int (nI p2))] [] (hp S) Q) ∧ (∀ l1 e l2 ks1 q ks3, fsp (ws.getLastD []) es = some (l1, e, l2) → ks2 = ks1 ++ q :: ks3 → ks1.length = l1.length → q < 6000 → sm_W N (d + 3 + 1) mm_M_takes 43 [(0, .ref 33), (2, .int x2), (3, .int x3), (4, .int (nI q)), (5, .int (nI p2))] [] (hp S) Q)) →
    sm_W N (d + 3 + 1) mm_M_takes 9 [(0, .ref 33), (2, .int x2), (3, .int x3), (4, .int (nI p)), (5, .int par), (6, .int (nI s))] [] (hp S) Q := by
  have pos : ∀ k : Nat, k < 6000 → ¬ nI k < 0 := by
    intro k hk c
    rw [ti_lt, nI_t (by omega)] at c
    have : (0 : Int32).toInt = 0 := rfl
    omega
  intro ws
  induction ws with
  | nil => intro s fs p k u raw O f par hne; exact absurd rfl hne
  | cons w r ih =>
    intro s fs p k u raw O f par _ hsl hst hA hVD hu hl h0 h1
    have hSt := hst 0 w rfl
    rw [Nat.add_zero] at hSt
    rw [List.length_cons] at hsl hu
    have w43 : ∀ (x : Int32) (q : Int32) (s2 : Nat), (tot ≤ s2 ∨ x < 0) → s2 ≤ 9 → sm_W N (d + 3 + 1) mm_M_takes 43 [(0, .ref 33), (2, .int x2), (3, .int x3), (4, .int x), (5, .int q)] [] (hp S) Q → sm_W N (d + 3 + 1) mm_M_takes 9 [(0, .ref 33), (2, .int x2), (3, .int x3), (4, .int x), (5, .int q), (6, .int (nI s2))] [] (hp S) Q := by
      intro x q s2 hor hs2 hW
      refine kM_takes_9 ⟨_, hg_33_24 S, fun _ => hW, fun q1 => ⟨fun _ => hW, fun q2 => ?_⟩⟩
      rw [h23, nI_leI (by omega) (by omega)] at q1
      rcases hor with y | y
      · exact absurd y q1
      · exact absurd y q2
    have hp6 := (RV_k hA.2.1).1
    refine kM_takes_9 ⟨_, hg_33_24 S, fun q => ?_, fun _ => ⟨fun q => absurd q (pos p hp6), fun _ => ?_⟩⟩
    · rw [h23, nI_leI (by omega) (by omega)] at q
      omega
    by_cases hk : k = 3 ∨ k = 4
    · obtain ⟨v, rfl⟩ : ∃ v, u = v + 1 := ⟨u - 1, by omega⟩
      obtain ⟨ks, f2, hraw, hN⟩ := AtV_N hk hl hA
      obtain ⟨-, hnm, hwf, hel⟩ := VD_h hk hl hVD
      have hrl : 5 + (encs (els raw)).length = raw.length := by
        have := encD_len (els raw)
        rw [← hraw] at this
        omega
      have hel5 : (els raw).length < 100000 := by
        have := es_le (els raw)
        omega
      cases r with
      | nil =>
        obtain ⟨a1, a2⟩ := h1 [] k (els raw) (by rw [wlk, if_pos ⟨hk, fun z => absurd z (by decide)⟩]) p v O ks f2 (by rw [List.append_nil]; exact hN) (by rw [← hraw]; exact hVD) (by rw [← hraw]; exact hl) (by simp) (by omega)
        refine go_meets (d := d) hs hN.2.1 hnm hel5 (by omega) hSt (fun hf => ⟨_, rfl, ?_⟩) (fun l1 e l2 ks1 q ks2 hf hks hkl hq6 => ⟨_, rfl, ?_⟩)
        · rw [nI_1]
          exact w43 _ _ _ (Or.inl (by simp at hsl; omega)) (by omega) (a1 hf)
        · rw [nI_1]
          exact w43 _ _ _ (Or.inl (by simp at hsl; omega)) (by omega) (a2 l1 e l2 ks1 q ks2 hf hks hkl hq6)
      | cons v2 r =>
        rw [List.length_cons] at hsl hu
        have hlast : (w :: v2 :: r).getLastD [] = (v2 :: r).getLastD [] := by
          rw [List.getLastD_cons, List.getLastD_cons, List.getLastD_cons]
        refine go_meets (d := d) hs hN.2.1 hnm hel5 (by omega) hSt (fun hf => ⟨_, rfl, ?_⟩) (fun l1 e l2 ks1 q ks2 hf hks hkl hq6 => ⟨_, rfl, ?_⟩)
        · rw [nI_1]
          refine w43 _ _ _ (Or.inr (by decide)) (by omega) (h0 ?_ _)
          rw [wlk, if_pos ⟨hk, fun z => absurd z (by decide)⟩, hf]
          rfl
        · rw [nI_1]
          obtain ⟨he, hew, -⟩ := fsp_some hf
          have hw2 := wlk_f (mk := false) (v := v2) (r := r) hk (fun z => absurd z (by decide)) hf
          have hme : e ∈ els raw := by rw [he]; simp
          have hlen := el_len hme
          rw [he, hks] at hN
          obtain ⟨O2, f4, hV2⟩ := AtN_in hN hkl
          rw [hew] at hV2
          refine ih (s + 1) (fs ++ [(l1, e.1, w, l2)]) q e.1 v e.2.2 O2 f4 _ (by simp) (by rw [List.length_cons]; omega) (fun i x hx => ?_) hV2 (hel e hme).2.2 (by rw [List.length_cons]; omega) (by omega) (fun z => h0 (by rw [hw2, z])) (fun gs k2 es z p2 u2 O3 ks3 f3 hA3 hV3 hl3 hu3 hu4 => ?_)
          · have := hst (i + 1) x hx
            rw [show s + (i + 1) = s + 1 + i by omega] at this
            exact this
          · rw [List.append_assoc] at hA3
            rw [List.length_cons] at hu3
            have := h1 ((l1, e.1, w, l2) :: gs) k2 es (by rw [hw2, z]) p2 u2 O3 ks3 f3 hA3 hV3 hl3 (by rw [List.length_cons, List.length_cons]; omega) (by omega)
            rw [hlast] at this
            exact this
    · obtain ⟨a1, a2, a3⟩ := RV_k hA.2.1
      refine go_meets0 (d := d) hs a1 a2 a3 hk (by omega) hSt ⟨_, rfl, ?_⟩
      rw [nI_1]
      exact w43 _ _ _ (Or.inr (by decide)) (by omega) (h0 (wlk_0 (fun z => hk z.1)) _)
theorem tk_115 {S : sT} {P : Nat → Prop} {R c an q v : Nat} {a : El} {fs : List Frm} {O : Nat → Prop} {fa : List Nat} (hs : okSt S) (hv : v ≤ 24) (ha : RV 24 S an a.1 a.2.2 fa) (hfa : fa.Nodup) (la : a.2.2.length < 100000) (hP : ∀ i ∈ fa, P i) : ∀ (ks2 : List Nat) (rest K : List El) (ks1 : List Nat) (x : Int32) (T : sT) (f : List Nat), AtN T P R c fs q 4 v (rnm 0 (K ++ rest)) O (ks1 ++ ks2) f → ks1.length = K.length → ks2.length = rest.length → (encs rest).length < 100000 → Ch T x ks2 → frN S T P → T.1 = S.1 →
    (∀ U ks f, AtN U P R c fs q 4 v (rnm 0 (K ++ rest.filter (fun x => !sameV 24 x.1 x.2.2 a.1 a.2.2))) O ks f → frN S U P → U.1 = S.1 → Q (some (.int 0)) (hp U)) →
    sm_W N (d + 3 + 1) mm_M_takes 115 [(0, .ref 33), (2, .int (nI an)), (4, .int (nI q)), (6, .int x)] [] (hp T) Q := by
  intro ks2
  induction ks2 with
  | nil =>
    intro rest K ks1 x T f hA hk1 hk2 _ hx hT hT1 hQ
    cases rest with
    | cons e es => simp at hk2
    | nil =>
      have hx1 : x = -1 := hx
      subst hx1
      exact kM_takes_115 ⟨fun _ => hQ T _ _ hA hT hT1, fun y => absurd (by decide) y⟩
  | cons n ks2 ih =>
    intro rest K ks1 x T f hA hk1 hk2 hl hx hT hT1 hQ
    cases rest with
    | nil => simp at hk2
    | cons e rest =>
      obtain ⟨rfl, hn, hch⟩ := hx
      rw [encs_cons, List.length_append, enc1_len] at hl
      have pos : ¬ nI n < 0 := by
        intro y
        rw [ti_lt, nI_t (by omega)] at y
        have : (0 : Int32).toInt = 0 := rfl
        omega
      have hdec : rnm 0 (K ++ e :: rest) = rnm 0 K ++ (e.1, dg K.length, e.2.2) :: rnm (K.length + 1) rest := by
        rw [rnm_app, Nat.zero_add, rnm]
      have hA2 := hA
      rw [hdec] at hA2
      have hkl : ks1.length = (rnm 0 K).length := by rw [rnm_len]; exact hk1
      obtain ⟨f1, fe, f3, hf2, hqv, hmid⟩ := RH_mid2 hA2.2.2.1 hA2.2.1 hkl
      obtain ⟨n1, n2⟩ := List.nodup_cons.mp hA2.2.2.1
      have n2b := n2
      rw [hf2] at n2b
      have nfe : fe.Nodup := (List.nodup_append.mp (List.nodup_append.mp n2b).2.1).1
      have kin := RL_in hA2.2.1.2.2.2.2.2.2
      have hkn := RL_nd n2 hA2.2.1.2.2.2.2.2.2
      have haT : RV 24 T an a.1 a.2.2 fa := RV_frame (frN_st hT) hfa (fun i hi => (hT.2.2 i (hP i hi)).1) (fun i hi _ => (hT.2.2 i (hP i hi)).2) ha
      refine kM_takes_115 ⟨fun y => absurd y pos, fun _ => ⟨_, hg_33_14 T, _, (hq_r T hn).2.2.2.2.2.2.1, ?_⟩⟩
      refine sM_same (d := d) (t := 24) (frN_ok hT hs) (by omega) (RV_to hv hqv) haT nfe hfa (by show e.2.2.length < 100000; omega) la (fun U hU => ⟨_, rfl, fun y => kM_takes_147 ?_, fun y => ?_⟩)
      · have hsm : sameV 24 e.1 e.2.2 a.1 a.2.2 = false := by
          cases h : sameV 24 e.1 e.2.2 a.1 a.2.2 with
          | false => rfl
          | true => rw [h] at y; exact absurd y (by decide)
        rw [fM_takes_147]
        refine ih rest (K ++ [e]) (ks1 ++ [n]) _ U f ?_ (by simp [hk1]) (by simpa using hk2) (by omega) (Ch_frame (fun k _ => by rw [hU.2.1 24 (by omega) (by omega) (by omega)]) hch) (frN_tr hT (frQ_N hU P)) (by rw [hU.1]; exact hT1) (fun V ks f2 hV => ?_)
        · have h2 := AtN_fr hA (frQ_N hU _) (Nat.le_refl c)
          rw [List.append_assoc, List.append_assoc]
          exact h2
        · rw [List.append_assoc] at hV
          have hfi : (e :: rest).filter (fun x => !sameV 24 x.1 x.2.2 a.1 a.2.2) = e :: rest.filter (fun x => !sameV 24 x.1 x.2.2 a.1 a.2.2) := List.filter_cons_of_pos (by simp [hsm])
          have := hQ V ks f2
          rw [hfi] at this
          exact this hV
      · have hsm : sameV 24 e.1 e.2.2 a.1 a.2.2 = true := by
          cases h : sameV 24 e.1 e.2.2 a.1 a.2.2 with
          | true => rfl
          | false => rw [h] at y; exact absurd rfl y
        have hAU := AtN_fr hA2 (frQ_N hU _) (Nat.le_refl c)
        refine sM_remove (d := d + 2) hAU.2.1.1 hAU.2.1.2.2.2.2.2.1 hkn (fun V hW hK => ⟨rfl, kM_takes_147 ?_⟩)
        rw [fM_takes_147]
        obtain ⟨f4, hR4, hn4, hi4⟩ := RH_rem hAU.2.2.1 hAU.2.1 hkl hW hK
        have hsh : shf 4 (rnm 0 K).length (rnm (K.length + 1) rest) = rnm (0 + K.length) rest := by
          rw [shf, if_pos rfl, rnm_rnm, rnm_len, Nat.zero_add]
        rw [hsh, ← rnm_app] at hR4
        have kin1 : ∀ i ∈ ks1, i ∈ f := fun i hi => kin i (by simp [hi])
        have hVU : frN U V (fun i => i ≠ q ∧ i ∉ ks1) := ⟨fun k _ => by rw [hW.1], fun k hk => hW.2.2.1 k (by omega) (by omega) (by omega), fun i hi => ⟨frK_own hW hi.1, hW.2.2.2.2 i hi.2⟩⟩
        have hqk1 : q ∉ ks1 := fun z => n1 (kin1 q z)
        have hO4 : frO U V O q := ⟨frN_st hVU, fun i hi => hVU.2.2 i ⟨fun z => hA.2.2.2.1 q List.mem_cons_self (z ▸ hi), fun z => hA.2.2.2.1 i (List.mem_cons_of_mem _ (kin1 i z)) hi⟩, hW.2.2.2.2 q hqk1, by rw [hW.2.2.1 19 (by omega) (by omega) (by omega)], by rw [hW.2.2.1 20 (by omega) (by omega) (by omega)]⟩
        have hAV : AtN V P R c fs q 4 v (rnm 0 (K ++ rest)) O (ks1 ++ ks2) f4 := ⟨Hol_fr hAU.1 hO4, hR4, hn4, fun i hi => by
          rcases List.mem_cons.mp hi with rfl | hi
          · exact hA.2.2.2.1 i List.mem_cons_self
          · exact hA.2.2.2.1 i (List.mem_cons_of_mem _ (hi4 i hi)), fun i hi => by
          rcases hi with hi | hi
          · exact hA.2.2.2.2 i (Or.inl hi)
          · rcases List.mem_cons.mp hi with rfl | hi
            · exact hA.2.2.2.2 i (Or.inr List.mem_cons_self)
            · exact hA.2.2.2.2 i (Or.inr (List.mem_cons_of_mem _ (hi4 i hi)))⟩
        have hPV : frN U V P := frN_le hVU (fun i hi => ⟨fun z => (hA.2.2.2.2 q (Or.inr List.mem_cons_self)).2 (z ▸ hi), fun z => (hA.2.2.2.2 i (Or.inr (List.mem_cons_of_mem _ (kin1 i z)))).2 hi⟩)
        refine ih rest K ks1 _ V f4 hAV hk1 (by simpa using hk2) (by omega) (Ch_frame (S := T) (fun k hk => ?_) hch) (frN_tr hT (frN_tr (frQ_N hU P) hPV)) (by rw [hW.1, hU.1]; exact hT1) (fun W ks f2 hV2 => ?_)
        · rw [hW.2.2.2.2 k (fun z => (List.nodup_append.mp hkn).2.2 k z k (List.mem_cons_of_mem _ hk) rfl), hU.2.1 24 (by omega) (by omega) (by omega)]
        · have hfi : (e :: rest).filter (fun x => !sameV 24 x.1 x.2.2 a.1 a.2.2) = rest.filter (fun x => !sameV 24 x.1 x.2.2 a.1 a.2.2) := List.filter_cons_of_neg (by simp [hsm])
          have := hQ W ks f2
          rw [hfi] at this
          exact this hV2
theorem sM_takes {S : sT} {P : Nat → Prop} {R op c an : Nat} {a : El} {raw fp fa w : List Nat} {ws : List (List Nat)} (hs : okSt S) (hop : op = 2 ∨ op = 5) (hws : ws ≠ []) (hw8 : ws.length ≤ 8) (hlast : ws.getLastD [] = w) (h23 : S.1 23 = nI ws.length) (hst : ∀ i x, ws[i]? = some x → StA S i x) (hR : RV 24 S R 3 raw fp) (hfp : fp.Nodup) (hfc : ∀ i ∈ fp, i < c ∧ ¬ P i) (hVD : VD 24 3 raw) (hl : raw.length < 100000) (ha : RV 14 S an a.1 a.2.2 fa) (hfa : fa.Nodup) (hfac : ∀ i ∈ fa, i < c ∧ ¬ P i ∧ i ∉ fp) (la : a.2.2.length < 100000) (h19 : S.1 19 = nI c) (hc : c + 1 ≤ 6000) (hP : ∀ q, P q → q < c)
    (h6 : wlk false ws 3 raw = none → Q (some (.int 0)) (hp S))
    (h7 : ∀ gs k es, wlk false ws 3 raw = some (gs, k, es) → ∀ r, fnE op a k es w = r → r.1 ≠ 0 → ∀ T, frN S T P → Q (some (.int (nI r.1))) (hp T))
    (h0 : ∀ gs k es, wlk false ws 3 raw = some (gs, k, es) → ∀ r, fnE op a k es w = r → r.1 = 0 → ∀ T c2 fp2, frN S T P → T.1 19 = nI c2 → c ≤ c2 → c2 ≤ c + 1 → fp2.Nodup → (∀ i ∈ fp2, i < c2 ∧ ¬ P i) → RV 24 T R 3 (plg gs (encD r.2)) fp2 → Q (some (.int 0)) (hp T)) :
    sm_V N (d + 3 + 1) mm_M_takes 5 33 [.int (nI R), .int (nI an), .int (if op = 5 then 1 else 0)] (hp S) Q := by
  refine cM_takes (hk_33 S) ?_
  have w1 : ∀ pr : Int32, Q (some (.int 0)) (hp S) → sm_W N (d + 3 + 1) mm_M_takes 43 [(0, .ref 33), (2, .int (nI an)), (3, .int (if op = 5 then 1 else 0)), (4, .int (-1)), (5, .int pr)] [] (hp S) Q := fun pr hQ => kM_takes_43 ⟨fun y => absurd y (by decide), fun _ => hQ⟩
  refine tk_9 (d := d) (c := c) (P := fun q => P q ∨ q ∈ fa) hw8 h23 hs ws 0 [] R 3 24 raw (fun _ => False) fp _ hws (by omega) (fun i x hx => by rw [Nat.zero_add]; exact hst i x hx) ⟨Hol_rt S R 24, hR, hfp, fun _ _ z => z, fun i hi => ?_⟩ hVD (by omega) hl (fun z pr => w1 pr (h6 z)) (fun gs k2 es z p2 u2 O2 ks2 f2 hA hV hl2 hu hu2 => ⟨fun hf => ?_, fun l1 e l2 ks1 q ks3 hf hks hkl hq6 => ?_⟩)
  · rcases hi with hi | hi
    · exact absurd hi id
    · refine ⟨(hfc i hi).1, fun z => ?_⟩
      rcases z with z | z
      · exact (hfc i hi).2 z
      · exact (hfac i z).2.2 hi
  · rw [List.nil_append] at hA
    rw [hlast] at hf
    obtain ⟨fp2, y1, y2, y3⟩ := AtN_RV (AtN_le (P := P) (fun q hq => Or.inl hq) hA)
    refine w1 _ (h0 gs k2 es z (0, es) ?_ rfl S c fp2 (frN_rf S P) h19 (Nat.le_refl _) (by omega) y1 y3 y2)
    rw [fnE, hf]
    show (if op = 2 ∨ op = 5 then ((0 : Nat), es) else (0, es ++ [nwE op a w])) = _
    rw [if_pos hop]
  · rw [List.nil_append] at hA
    rw [hlast] at hf
    have hA1 : AtN S P R c gs p2 k2 u2 es O2 ks2 f2 := AtN_le (fun q hq => Or.inl hq) hA
    have hk := hA.2.1.2.2.1
    have hp6 := hA.2.1.1
    have hn1 := hA.2.2.1
    have hlen2 := hl2
    rw [encD_len] at hlen2
    have hwf := RL_wf (by omega) hA.2.1.2.2.2.2.2.2
    have hels : els (encD es) = es := els_encD hwf
    obtain ⟨-, hnm, -, hel⟩ := VD_h hk hl2 hV
    rw [hels] at hnm hel
    have hw1 : 1 ≤ ws.length := List.length_pos_iff.mpr hws
    obtain ⟨he, hew, -⟩ := fsp_some hf
    have hfn : fnE op a k2 es w = chE op a k2 l1 e l2 := by rw [fnE, hf]
    have hee : e ∈ es := by rw [he]; simp
    have hle := el_len hee
    have hkn := RL_nd (List.nodup_cons.mp hn1).2 hA.2.1.2.2.2.2.2.2
    have hA2 := hA
    rw [he, hks] at hA2
    have hR2 := hA2.2.1
    rw [hks] at hkn
    have kin := RL_in hR2.2.2.2.2.2.2
    have kin1 : ∀ i ∈ ks1, i ∈ f2 := fun i hi => kin i (by simp [hi])
    obtain ⟨f1, fe, f3, hf2, hqv, -⟩ := RH_mid2 hn1 hR2 hkl
    obtain ⟨-, hqk, hqk2⟩ := RV_k hqv
    obtain ⟨n1, n2⟩ := List.nodup_cons.mp hn1
    refine kM_takes_43 ⟨fun _ => ⟨fun y => ⟨_, hg_33_7 S, _, (hq_r S hp6).1, ?_⟩, fun y => ⟨_, hg_33_7 S, _, (hq_r S hq6).1, ?_⟩⟩, fun y => absurd (nI_pos' (by omega)) y⟩
    · have o2 : op = 2 := by
        rcases hop with o | o
        · exact o
        · rw [if_pos o] at y; exact absurd y (by decide)
      subst o2
      rw [hA.2.1.2.1]
      refine ⟨fun y3 => ?_, fun y3 => ?_⟩
      · rw [nI_eql (by omega) (by omega)] at y3
        have k3 : k2 = 3 := y3
        refine sM_remove (d := d + 2) hp6 hR2.2.2.2.2.2.1 hkn (fun U hW hK => ⟨rfl, ?_⟩)
        obtain ⟨f4, hR4, hn4, hi4⟩ := RH_rem hn1 hR2 hkl hW hK
        rw [shf, if_neg (by omega)] at hR4
        have hpk1 : p2 ∉ ks1 := fun y => n1 (kin1 p2 y)
        have hVU : frN S U (fun i => i ≠ p2 ∧ i ∉ ks1) := ⟨fun k _ => by rw [hW.1], fun k hk => hW.2.2.1 k (by omega) (by omega) (by omega), fun i hi => ⟨frK_own hW hi.1, hW.2.2.2.2 i hi.2⟩⟩
        have hO4 : frO S U O2 p2 := ⟨frN_st hVU, fun i hi => hVU.2.2 i ⟨fun y => hA.2.2.2.1 p2 List.mem_cons_self (y ▸ hi), fun y => hA.2.2.2.1 i (List.mem_cons_of_mem _ (kin1 i y)) hi⟩, hW.2.2.2.2 p2 hpk1, by rw [hW.2.2.1 19 (by omega) (by omega) (by omega)], by rw [hW.2.2.1 20 (by omega) (by omega) (by omega)]⟩
        have hsub : ∀ i ∈ p2 :: f4, i ∈ p2 :: f2 := fun i hi => by
          rcases List.mem_cons.mp hi with rfl | hi
          · exact List.mem_cons_self
          · exact List.mem_cons_of_mem _ (hi4 i hi)
        obtain ⟨fp2, y1, y2, y4⟩ := AtN_out hA hO4 hR4 hn4 (fun i hi => hA.2.2.2.1 i (hsub i hi))
        refine h0 gs k2 es z _ (by rw [hfn, chE, if_neg (by decide), if_pos rfl, if_pos k3]) rfl U c fp2 (frN_le hVU (fun i hi => ⟨fun y => (hA1.2.2.2.2 p2 (Or.inr List.mem_cons_self)).2 (y ▸ hi), fun y => (hA1.2.2.2.2 i (Or.inr (List.mem_cons_of_mem _ (kin1 i y)))).2 hi⟩)) (by rw [hW.1]; exact h19) (Nat.le_refl _) (by omega) y1 (fun i hi => ?_) y2
        rcases y4 i hi with y | y
        · exact hA1.2.2.2.2 i (Or.inl y)
        · exact hA1.2.2.2.2 i (Or.inr (hsub i y))
      · rw [nI_eql (by omega) (by omega)] at y3
        have k3 : ¬ k2 = 3 := y3
        refine sM_make (d := d + 2) (by omega) h19 ⟨_, rfl, ?_⟩
        have e10 : (10 : Int32) = nI 10 := rfl
        rw [e10]
        have m1 := mkN_fr S c (nI 10)
        have m3 := mkN_19 S c (nI 10)
        have m2 : RV u2 (mkN S c (nI 10)) c 10 [] [c] := by
          rw [show u2 = u2 - 1 + 1 by omega]
          exact ⟨by omega, by rw [mkN_18, pk_us], by simp, Or.inl ⟨rfl, by rw [mkN_23, pk_us], Or.inr (Or.inr (Or.inr (Or.inl ⟨rfl, rfl, by rw [mkN_L, pk_uLs]⟩)))⟩⟩
        generalize mkN S c (nI 10) = S1 at *
        have hcO : ∀ i, O2 i ∨ i ∈ p2 :: f2 → i ≠ c := fun i hi y => by have := (hA1.2.2.2.2 i hi).1; omega
        have hAS : AtN S1 (fun q => P q ∨ q ∈ fa) R (c + 1) gs p2 k2 u2 (l1 ++ e :: l2) O2 (ks1 ++ q :: ks3) f2 := AtN_fr hA2 (frN_le m1 hcO) (by omega)
        refine sM_replace (d := d + 2) hp6 (by omega) hAS.2.1.2.2.2.2.2.1 hkn (fun y => hcO c (Or.inr (List.mem_cons_of_mem _ (kin c y))) rfl) (fun U hW hK => ⟨rfl, ?_⟩)
        obtain ⟨f4, hR4, hn4, hi4⟩ := RH_rep hn1 hAS.2.1 hkl m2 (by simp) (fun i hi y => by rw [List.mem_singleton] at hi; exact hcO i (Or.inr y) hi) hW hK
        have hpc : p2 ≠ c := hcO p2 (Or.inr List.mem_cons_self)
        have hO4 : frO S1 U O2 p2 := ⟨by rw [stl, stl, hW.2.2.1 17 (by omega) (by omega) (by omega) (by omega) (by omega)], fun i hi => ⟨frW_own hW (fun y => hA.2.2.2.1 p2 List.mem_cons_self (y ▸ hi)) (hcO i (Or.inl hi)), hW.2.2.2.2.1 i (fun y => hA.2.2.2.1 i (List.mem_cons_of_mem _ (kin1 i y)) hi) (hcO i (Or.inl hi))⟩, hW.2.2.2.2.1 p2 (fun y => n1 (kin1 p2 y)) hpc, (hW.2.2.2.2.2.1 p2 hpc).1, (hW.2.2.2.2.2.1 p2 hpc).2⟩
        have hin4 : ∀ i ∈ p2 :: f4, i ∈ p2 :: f2 ∨ i = c := fun i hi => by
          rcases List.mem_cons.mp hi with rfl | hi
          · exact Or.inl List.mem_cons_self
          · rcases hi4 i hi with hi | hi
            · exact Or.inl (List.mem_cons_of_mem _ hi)
            · exact Or.inr (List.mem_singleton.mp hi)
        obtain ⟨fp2, y1, y2, y4⟩ := AtN_out hAS hO4 hR4 hn4 (fun i hi y => by
          rcases hin4 i hi with h | h
          · exact hA.2.2.2.1 i h y
          · exact hcO i (Or.inl y) h)
        have hPc : ¬ P c := fun y => by have := hP c y; omega
        refine h0 gs k2 es z _ (by rw [hfn, chE, if_neg (by decide), if_pos rfl, if_neg k3]) rfl U (c + 1) fp2 (frN_tr (frN_le m1 (fun i hi y => hPc (y ▸ hi))) ⟨fun k _ => by rw [hW.1], fun k hk => hW.2.2.1 k (by omega) (by omega) (by omega) (by omega) (by omega), fun i hi => ⟨frW_own hW (fun y => (hA1.2.2.2.2 p2 (Or.inr List.mem_cons_self)).2 (y ▸ hi)) (fun y => hPc (y ▸ hi)), hW.2.2.2.2.1 i (fun y => (hA1.2.2.2.2 i (Or.inr (List.mem_cons_of_mem _ (kin1 i y)))).2 hi) (fun y => hPc (y ▸ hi))⟩⟩) (by rw [hW.1]; exact m3) (by omega) (Nat.le_refl _) y1 (fun i hi => ?_) y2
        rcases y4 i hi with y | y
        · exact ⟨by have := (hA1.2.2.2.2 i (Or.inl y)).1; omega, (hA1.2.2.2.2 i (Or.inl y)).2⟩
        · rcases hin4 i y with h | h
          · exact ⟨by have := (hA1.2.2.2.2 i (Or.inr h)).1; omega, (hA1.2.2.2.2 i (Or.inr h)).2⟩
          · subst h
            exact ⟨by omega, hPc⟩
    · have o5 : op = 5 := by
        rcases hop with o | o
        · rw [if_neg (by omega)] at y; exact absurd rfl y
        · exact o
      subst o5
      rw [hqk]
      refine ⟨fun y3 => ⟨_, hg_33_13 S, _, (hq_r S hq6).2.2.2.2.2.1, ?_⟩, fun y3 => ?_⟩
      · rw [nI_eql (by omega) (by omega)] at y3
        have e4 : e.1 = 4 := y3
        obtain ⟨O3, f4, hV3⟩ := AtN_in hA2 hkl
        obtain ⟨v, rfl⟩ : ∃ v, u2 = v + 1 := ⟨u2 - 1, by omega⟩
        rw [e4] at hV3
        obtain ⟨ks4, f5, hraw4, hN4⟩ := AtV_N (Or.inr rfl) (by omega) hV3
        have hlr : 5 + (encs (els e.2.2)).length = e.2.2.length := by
          have := encD_len (els e.2.2)
          rw [← hraw4] at this
          omega
        have hve := (hel e hee).2.2
        rw [e4] at hve
        obtain ⟨-, hnm4, -, -⟩ := VD_h (Or.inr rfl) (by omega) hve
        have hrn := hnm4.2 rfl
        refine tk_115 (v := v) (P := fun q => P q ∨ q ∈ fa) hs (by omega) (RV_to (by omega) ha) hfa la (fun i hi => Or.inr hi) ks4 (els e.2.2) [] [] _ S f5 (by rw [List.nil_append, hrn]; exact hN4) rfl (RL_len hN4.2.1.2.2.2.2.2.2) (by omega) hN4.2.1.2.2.2.2.2.1.1 (frN_rf S _) rfl (fun U ks f hU hfU hU1 => ?_)
        obtain ⟨fp2, y1, y2, y4⟩ := AtN_RV (AtN_le (P := P) (fun q hq => Or.inl hq) hU)
        rw [plg_app] at y2
        refine h0 gs k2 es z (0, l1 ++ (4, e.2.1, encD (rnm 0 ((els e.2.2).filter (fun x => !sameV 24 x.1 x.2.2 a.1 a.2.2)))) :: l2) (by rw [hfn, chE, if_neg (by decide), if_neg (by decide), if_neg (by decide), if_neg (fun y => y e4), if_pos rfl]) rfl U c fp2 (frN_le hfU (fun q hq => Or.inl hq)) (by rw [hU1]; exact h19) (Nat.le_refl _) (by omega) y1 y4 y2
      · rw [nI_eql (by omega) (by omega)] at y3
        exact h7 gs k2 es z (7, l1 ++ e :: l2) (by rw [hfn, chE, if_neg (by decide), if_neg (by decide), if_neg (by decide), if_pos y3]) (Nat.succ_ne_zero _) S (frN_rf S P)
end Tk2
