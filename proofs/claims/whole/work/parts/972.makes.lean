/-! the reference: makes -/
theorem last_at {ws : List (List Nat)} (h : ws ≠ []) : ws[ws.length - 1]? = some (ws.getLastD []) := by
  rw [← List.getLast?_eq_getElem?, List.getLast?_eq_some_getLast h, List.getLastD_eq_getLast?, List.getLast?_eq_some_getLast h]
  rfl
theorem wlk_may : ∀ {ws : List (List Nat)} {k : Nat} {raw : List Nat} {gs : List Frm} {k2 : Nat} {es : List El}, wlk true ws k raw = some (gs, k2, es) → mayG k2 es (ws.getLastD []) = true := by
  intro ws
  induction ws with
  | nil => intro k raw gs k2 es h; cases h
  | cons w r ih =>
    intro k raw gs k2 es h
    cases r with
    | nil =>
      rw [wlk] at h
      split at h
      · rename_i c
        obtain ⟨-, h2⟩ := Prod.mk.inj (Option.some.inj h)
        obtain ⟨rfl, rfl⟩ := Prod.mk.inj h2
        exact c.2 rfl
      · cases h
    | cons v r =>
      have hl : (w :: v :: r).getLastD [] = (v :: r).getLastD [] := by
        rw [List.getLastD_cons, List.getLastD_cons, List.getLastD_cons]
      rw [hl]
      rw [wlk] at h
      split at h
      · split at h
        · split at h
          · cases h
          · rename_i y hy
            obtain ⟨-, h2⟩ := Prod.mk.inj (Option.some.inj h)
            obtain ⟨y1, y2, y3⟩ := y
            obtain ⟨rfl, rfl⟩ := Prod.mk.inj h2
            exact ih hy
        · split at h
          · split at h
            · cases h
            · rename_i y hy
              obtain ⟨-, h2⟩ := Prod.mk.inj (Option.some.inj h)
              obtain ⟨y1, y2, y3⟩ := y
              obtain ⟨rfl, rfl⟩ := Prod.mk.inj h2
              exact ih hy
          · cases h
      · cases h
theorem RH_mid2 {t : Nat} {S : sT} {p k q : Nat} {l1 l2 : List El} {e : El} {ks1 ks2 f : List Nat} (hnd : (p :: f).Nodup) (h : RH t S p k (l1 ++ e :: l2) (ks1 ++ q :: ks2) f) (hl : ks1.length = l1.length) : ∃ f1 fe f2, f = f1 ++ (fe ++ f2) ∧ RV t S q e.1 e.2.2 fe ∧
    ∀ T k2 raw2 f3, stl T = stl S → sOwn S T p → (∀ i, i ∈ f1 ∨ i ∈ f2 → sOwn S T i ∧ T.2.1 24 i = S.2.1 24 i) → T.2.1 24 q = S.2.1 24 q → T.2.1 19 q = S.2.1 19 q → T.2.1 20 q = S.2.1 20 q → RV t T q k2 raw2 f3 → RH t T p k (l1 ++ (k2, e.2.1, raw2) :: l2) (ks1 ++ q :: ks2) (f1 ++ (f3 ++ f2)) := by
  obtain ⟨m1, m2, m3, f1, fe, f2, hks, rfl, hlen, hq, c2, b5, b2, b3, hm⟩ := RH_mid hnd h
  obtain ⟨rfl, hks2⟩ := List.append_inj hks (by omega)
  obtain ⟨rfl, rfl⟩ := List.cons.inj hks2
  exact ⟨f1, fe, f2, rfl, hq, hm⟩
theorem RV_to {S : sT} {t u n k : Nat} {raw f : List Nat} (h : t ≤ u) (hv : RV t S n k raw f) : RV u S n k raw f := by
  have := RV_le (u := u - t) hv
  rw [show t + (u - t) = u by omega] at this
  exact this
section Mk
variable {N d : Nat} {Q : Option Value → sm_H → Prop}
theorem mk_159 {S : sT} {v an old : Nat} {a : El} {fa : List Nat} (hs : okSt S) (hv : v ≤ 24) (ha : RV 24 S an a.1 a.2.2 fa) (hfa : fa.Nodup) (la : a.2.2.length < 100000) : ∀ (ks : List Nat) (es : List El) (f : List Nat) (i : Nat) (x : Int32) (T : sT), frQ S T → RL (RV v S) S 4 i ks es f → f.Nodup → (encs es).length < 100000 → Ch S x ks →
    (es.any (fun x => sameV 24 x.1 x.2.2 a.1 a.2.2) = true → ∀ U, frQ S U → Q (some (.int 0)) (hp U)) → (es.any (fun x => sameV 24 x.1 x.2.2 a.1 a.2.2) = false → ∀ U, frQ S U → sm_W N (d + 4 + 1) mm_M_makes 194 [(0, .ref 33), (3, .int (nI an)), (5, .int (nI old))] [] (hp U) Q) →
    sm_W N (d + 4 + 1) mm_M_makes 159 [(0, .ref 33), (2, .int (nI 6)), (3, .int (nI an)), (5, .int (nI old)), (6, .int x)] [] (hp T) Q := by
  intro ks
  induction ks with
  | nil =>
    intro es f i x T hT hR _ _ hx q1 q0
    cases es with
    | cons e es => exact absurd hR (by simp [RL])
    | nil =>
      have hx1 : x = -1 := hx
      subst hx1
      exact kM_makes_159 ⟨fun _ => q0 rfl T hT, fun c => absurd (by decide) c⟩
  | cons n ks ih =>
    intro es f i x T hT hR hnd hl hx q1 q0
    cases es with
    | nil => exact absurd hR (by simp [RL])
    | cons e es =>
      obtain ⟨f1, f2, rfl, -, -, hv1, hR3⟩ := hR
      obtain ⟨rfl, hn, hch⟩ := hx
      obtain ⟨n1, n2, -⟩ := List.nodup_append.mp hnd
      rw [encs_cons, List.length_append, enc1_len] at hl
      rw [List.any_cons] at q1 q0
      have pos : ¬ nI n < 0 := by
        intro c
        rw [ti_lt, nI_t (by omega)] at c
        have : (0 : Int32).toInt = 0 := rfl
        omega
      refine kM_makes_159 ⟨fun c => absurd c pos, fun _ => ⟨fun _ => ?_, fun c => absurd rfl c⟩⟩
      refine sM_same (d := d + 1) (t := 24) (frQ_ok hT hs) (by omega) (frQ_RV hT n1 (RV_to hv hv1)) (frQ_RV hT hfa ha) n1 hfa (by omega) la (fun U hU => ⟨_, rfl, fun c => ⟨_, hg_33_14 U, _, (hq_r U hn).2.2.2.2.2.2.1, ?_⟩, fun c => ?_⟩)
      · have hsm : sameV 24 e.1 e.2.2 a.1 a.2.2 = false := by
          cases h : sameV 24 e.1 e.2.2 a.1 a.2.2 with
          | false => rfl
          | true => rw [h] at c; exact absurd c (by decide)
        rw [hsm, Bool.false_or] at q1 q0
        have hU2 := frQ_tr hT hU
        rw [hU2.2.1 24 (by omega) (by omega) (by omega)]
        exact ih es f2 (i + 1) _ U hU2 hR3 n2 (by omega) hch q1 q0
      · have hsm : sameV 24 e.1 e.2.2 a.1 a.2.2 = true := by
          cases h : sameV 24 e.1 e.2.2 a.1 a.2.2 with
          | true => rfl
          | false => rw [h] at c; exact absurd rfl c
        exact q1 (by rw [hsm]; rfl) U (frQ_tr hT hU)
theorem sM_makes {S : sT} {P : Nat → Prop} {R op c an : Nat} {a : El} {raw fp fa w : List Nat} {ws : List (List Nat)} (hs : okSt S) (hop : op = 1 ∨ op = 3 ∨ op = 4 ∨ op = 6) (hop3 : op = 3 → a.1 = 16 ∨ a.1 = 18) (hws : ws ≠ []) (hw8 : ws.length ≤ 8) (hlast : ws.getLastD [] = w) (h23 : S.1 23 = nI ws.length) (hst : ∀ i x, ws[i]? = some x → StA S i x ∧ (∀ b ∈ x, b ≠ 0) ∧ ∀ b ∈ x, b < 256)
    (hR : RV 24 S R 3 raw fp) (hfp : fp.Nodup) (hfc : ∀ i ∈ fp, i < c ∧ ¬ P i) (hVD : VD 24 3 raw) (hl : raw.length < 100000) (ha : RV 14 S an a.1 a.2.2 fa) (hfa : fa.Nodup) (hfac : ∀ i ∈ fa, i < c ∧ ¬ P i ∧ i ∉ fp) (la : a.2.2.length < 100000) (h19 : S.1 19 = nI c) (hc : c + ws.length ≤ 6000) (hP : ∀ q, P q → q < c)
    (h6 : wlk true ws 3 raw = none → ∀ T, frN S T P → Q (some (.int 6)) (hp T))
    (h7 : ∀ gs k es, wlk true ws 3 raw = some (gs, k, es) → ∀ r, fnE op a k es w = r → r.1 ≠ 0 → ∀ T, frN S T P → Q (some (.int (nI r.1))) (hp T))
    (h0 : ∀ gs k es, wlk true ws 3 raw = some (gs, k, es) → ∀ r, fnE op a k es w = r → r.1 = 0 → ∀ T c2 fp2, frN S T P → T.1 19 = nI c2 → c ≤ c2 → c2 ≤ c + ws.length → fp2.Nodup → (∀ i ∈ fp2, i < c2 ∧ ¬ P i) → RV 24 T R 3 (plg gs (encD r.2)) fp2 → Q (some (.int 0)) (hp T)) :
    sm_V N (d + 4 + 1) mm_M_makes 5 33 [.int (nI R), .int (nI op), .int (nI an)] (hp S) Q := by
  have hop9 : op < 9 := by omega
  refine cM_makes (hk_33 S) (cM_goMaking (hk_33 S) ?_)
  refine gm_4 (d := d) (P := fun q => P q ∨ q ∈ fa) hw8 ws 0 S [] R 3 24 raw (fun _ => False) fp c hws (by omega) h23 hs (fun i x hx => by rw [Nat.zero_add]; exact hst i x hx) ⟨Hol_rt S R 24, hR, hfp, fun _ _ z => z, fun i hi => ?_⟩ hVD (by omega) hl h19 hc (fun q hq => ?_) (fun z T hT => ⟨_, rfl, fun q => absurd q (by decide), fun _ => h6 z T (frN_le hT (fun q hq => Or.inl hq))⟩) (fun gs k2 es z T p2 u2 O2 ks2 f2 c2 hT hA hV hl2 h192 hc1 hc2 hu hu2 => ⟨_, rfl, fun _ => ⟨_, hg_33_24 T, ?_⟩, fun q => absurd (nI_pos' (by have := hA.2.1.1; omega)) q⟩)
  · rcases hi with hi | hi
    · exact absurd hi id
    · refine ⟨(hfc i hi).1, fun z => ?_⟩
      rcases z with z | z
      · exact (hfc i hi).2 z
      · exact (hfac i z).2.2 hi
  · rcases hq with hq | hq
    · exact hP q hq
    · exact (hfac q hq).1
  · rw [List.nil_append] at hA
    have hA1 : AtN T P R c2 gs p2 k2 u2 es O2 ks2 f2 := AtN_le (fun q hq => Or.inl hq) hA
    have hk := hA.2.1.2.2.1
    have hp6 := hA.2.1.1
    have hn1 := hA.2.2.1
    have hlen2 := hl2
    rw [encD_len] at hlen2
    have hwf := RL_wf (by omega) hA.2.1.2.2.2.2.2.2
    have hels : els (encD es) = es := els_encD hwf
    obtain ⟨-, hnm, -, hel⟩ := VD_h hk hl2 hV
    rw [hels] at hnm hel
    have hes5 : es.length < 100000 := by
      have := es_le es
      omega
    have hw1 : 1 ≤ ws.length := List.length_pos_iff.mpr hws
    obtain ⟨hSt0, hz, hb⟩ := hst (ws.length - 1) w (by rw [last_at hws, hlast])
    have hTP : frN S T P := frN_le hT (fun q hq => Or.inl hq)
    have hSt := frN_StA hT hSt0
    have okT := frN_ok hT hs
    have hmg : mayG k2 es w = true := by rw [← hlast]; exact wlk_may z
    have haT : RV 14 T an a.1 a.2.2 fa := RV_frame (frN_st hT) hfa (fun i hi => (hT.2.2 i (Or.inr hi)).1) (fun i hi _ => (hT.2.2 i (Or.inr hi)).2) ha
    have han6 := (RV_k haT).1
    obtain ⟨fa2, hfa2⟩ := RV_hd haT
    have hann : an ∈ fa := by rw [hfa2]; simp
    have hdis : ∀ i ∈ fa, i < c2 ∧ ¬ P i ∧ ¬ O2 i ∧ i ∉ p2 :: f2 := fun i hi => ⟨by have := (hfac i hi).1; omega, (hfac i hi).2.1, fun y => (hA.2.2.2.2 i (Or.inl y)).2 (Or.inr hi), fun y => (hA.2.2.2.2 i (Or.inr y)).2 (Or.inr hi)⟩
    have h23T : T.1 23 = nI ws.length := by rw [hT.1 23 (by omega)]; exact h23
    have e23 : nI ws.length - 1 = nI (ws.length - 1) := nI_sl hw1
    rw [h23T, e23]
    refine go_meets (d := d + 1) okT hA.2.1 hnm hes5 (by omega) hSt (fun hf => ⟨_, rfl, fun q => absurd q (by decide), fun _ => ?_⟩) (fun l1 e l2 ks1 q ks3 hf hks hkl hq6 => ⟨_, rfl, fun _ => ?_, fun q4 => absurd (nI_pos' (by omega)) q4⟩)
    · -- nothing is there
      have hfn : fnE op a k2 es w = (0, es ++ [nwE op a w]) := by
        rw [fnE, hf]
        show (if op = 2 ∨ op = 5 then ((0 : Nat), es) else (0, es ++ [nwE op a w])) = _
        rw [if_neg (by omega)]
      have w62 : ∀ (U : sT) (n k3 c3 : Nat) (raw3 fn : List Nat), frN T U P → U.1 19 = nI c3 → c2 ≤ c3 → c3 ≤ c2 + 1 → AtN U P R c3 gs p2 k2 u2 es O2 ks2 f2 → RV u2 U n k3 raw3 fn → fn.Nodup → (∀ i ∈ fn, i < c3 ∧ ¬ P i ∧ ¬ O2 i ∧ i ∉ p2 :: f2) → nwE op a w = (k3, w, raw3) → sm_W N (d + 4 + 1) mm_M_makes 62 [(0, .ref 33), (4, .int (nI p2)), (6, .int (nI n))] [] (hp U) Q := by
        intro U n k3 c3 raw3 fn hU hU19 hc3 hc4 hAU hv3 hfn3 hd3 hnw
        obtain ⟨g1, g2, g3, g4, g5⟩ := hang (s := ws.length - 1) (w := w) hAU hv3 hfn3 hd3 (frN_StA hU hSt) hz hb (mayG_no hmg hf)
        refine kM_makes_62 ⟨_, hg_33_24 U, ?_⟩
        rw [hU.1 23 (by omega), h23T, e23]
        refine sM_name (d := d + 3) (RV_k hv3).1 (by omega) ⟨rfl, ?_⟩
        refine sM_append (d := d + 3) (ks := ks2) hp6 (RV_k hv3).1 g2 g1 ⟨rfl, ?_⟩
        obtain ⟨fp2, y1, y2, y3⟩ := AtN_RV g5
        refine h0 gs k2 es z _ hfn rfl (apS (nmS U n (U.2.1 31 (ws.length - 1)) (U.2.1 32 (ws.length - 1))) p2 n ks2) c3 fp2 (frN_tr hTP (frN_tr hU g3)) (by rw [g4]; exact hU19) (by omega) (by omega) y1 y3 ?_
        rw [hnw]
        exact y2
      by_cases h46 : op = 4 ∨ op = 6
      · have hnw : nwE op a w = (4, w, encD [(a.1, dg 0, a.2.2)]) := by rw [nwE, if_pos h46]
        have w48 : sm_W N (d + 4 + 1) mm_M_makes 48 [(0, .ref 33), (3, .int (nI an)), (4, .int (nI p2))] [] (hp T) Q := by
          refine kM_makes_48 (sM_make (d := d + 3) (by omega) h192 ⟨_, rfl, ?_⟩)
          have e4 : (4 : Int32) = nI 4 := rfl
          rw [e4]
          have m1 := mkN_fr T c2 (nI 4)
          have m2 := mkN_RH (u2 - 1) T (n := c2) (k := 4) (by omega) (Or.inr rfl)
          have m3 := mkN_19 T c2 (nI 4)
          generalize mkN T c2 (nI 4) = S1 at *
          have ha1 : RV (u2 - 1) S1 an a.1 a.2.2 fa := RV_to (by omega) (RV_frame (frN_st m1) hfa (fun i hi => (m1.2.2 i (by have := (hdis i hi).1; omega)).1) (fun i hi _ => (m1.2.2 i (by have := (hdis i hi).1; omega)).2) haT)
          refine sM_append (d := d + 3) (ks := []) (by omega) han6 m2.2.2.2.2.2.1 (by simp) ⟨rfl, ?_⟩
          have r1 := RH_app (w := dg 0) (by simp) m2 ha1 hfa (fun i hi y => by have := (hdis i hi).1; rw [List.mem_singleton] at y; omega) (by rw [if_pos rfl]; rfl) (fun b hb => by have := dg_b 0 b hb; omega) (fun b hb => by have := dg_b 0 b hb; omega)
          have m4 := apS_fr S1 c2 an []
          have m5 : (apS S1 c2 an []).1 = S1.1 := apS_i ..
          generalize apS S1 c2 an [] = S2 at *
          have r2 := RH_RV r1
          rw [show u2 - 1 + 1 = u2 by omega] at r2
          have hpan : ¬ P an := (hdis an hann).2.1
          have hT2 : ∀ B : Nat → Prop, (∀ q, B q → q < c2 ∧ q ≠ an) → frN T S2 B := fun B hB => frN_tr (frN_le m1 (fun q hq => by have := (hB q hq).1; omega)) (frN_le m4 (fun q hq => ⟨by have := (hB q hq).1; omega, (hB q hq).2, by simp⟩))
          refine w62 S2 c2 4 (c2 + 1) _ _ (hT2 P (fun q hq => ⟨by have := hP q hq; omega, fun y => hpan (y ▸ hq)⟩)) (by rw [m5]; exact m3) (by omega) (Nat.le_refl _) (AtN_fr hA1 (hT2 _ (fun q hq => ⟨(hA1.2.2.2.2 q hq).1, fun y => ?_⟩)) (by omega)) r2 ?_ ?_ hnw
          · subst y
            rcases hq with hq | hq
            · exact (hdis q hann).2.2.1 hq
            · exact (hdis q hann).2.2.2 hq
          · refine List.nodup_cons.mpr ⟨fun y => ?_, by simpa using hfa⟩
            have := (hdis c2 (by simpa using y)).1
            omega
          · intro i hi
            rcases List.mem_cons.mp hi with rfl | hi
            · exact ⟨by omega, fun y => by have := hP _ y; omega, fun y => by have := (hA1.2.2.2.2 _ (Or.inl y)).1; omega, fun y => by have := (hA1.2.2.2.2 _ (Or.inr y)).1; omega⟩
            · have hi2 : i ∈ fa := by simpa using hi
              exact ⟨by have := (hdis i hi2).1; omega, (hdis i hi2).2⟩
        refine ⟨fun q => w48, fun q => ⟨fun _ => w48, fun q2 => ?_⟩⟩
        rw [nI_eql (by omega) (by omega)] at q q2
        exact absurd h46 (fun y => by rcases y with y | y; exact q y; exact q2 y)
      · refine ⟨fun q => ?_, fun _ => ⟨fun q => ?_, fun _ => ?_⟩⟩
        · rw [nI_eql (by omega) (by omega)] at q
          exact absurd (Or.inl q) h46
        · rw [nI_eql (by omega) (by omega)] at q
          exact absurd (Or.inr q) h46
        · exact w62 T an a.1 c2 a.2.2 fa (frN_rf T P) h192 (Nat.le_refl _) (by omega) hA1 (RV_to (by omega) haT) hfa hdis (by rw [nwE, if_neg h46])
    · -- something is there
      obtain ⟨he, hew, -⟩ := fsp_some hf
      have hfn : fnE op a k2 es w = chE op a k2 l1 e l2 := by rw [fnE, hf]
      have hee : e ∈ es := by rw [he]; simp
      have hle := el_len hee
      have hkn := RL_nd (List.nodup_cons.mp hn1).2 hA.2.1.2.2.2.2.2.2
      have hA2 := hA
      rw [he, hks] at hA2
      have hR2 := hA2.2.1
      rw [hks] at hkn
      have kin := RL_in hR2.2.2.2.2.2.2
      obtain ⟨f1, fe, f3, hf2, hqv, hmid⟩ := RH_mid2 hn1 hR2 hkl
      obtain ⟨-, hqk, hqk2⟩ := RV_k hqv
      obtain ⟨n1, n2⟩ := List.nodup_cons.mp hn1
      by_cases o1 : op = 1
      · subst o1
        refine ⟨fun _ => ?_, fun y => absurd rfl y⟩
        refine sM_replace (d := d + 3) hp6 han6 hR2.2.2.2.2.2.1 hkn (fun y => (hdis an hann).2.2.2 (List.mem_cons_of_mem _ (kin an y))) (fun U hW hK => ⟨rfl, kM_makes_98 ⟨fun _ => ?_, fun y => absurd rfl y⟩⟩)
        obtain ⟨f4, hR4, hn4, hi4⟩ := RH_rep hn1 hR2 hkl (RV_to (by omega) haT) hfa (fun i hi => (hdis i hi).2.2.2) hW hK
        have kin1 : ∀ i ∈ ks1, i ∈ f2 := fun i hi => kin i (by simp [hi])
        have hpn : p2 ≠ an := fun y => (hdis an hann).2.2.2 (by simp [← y])
        have hO4 : frO T U O2 p2 := ⟨by rw [stl, stl, hW.2.2.1 17 (by omega) (by omega) (by omega) (by omega) (by omega)], fun i hi => ⟨frW_own hW (fun y => hA.2.2.2.1 p2 List.mem_cons_self (y ▸ hi)) (fun y => (hdis an hann).2.2.1 (y ▸ hi)), hW.2.2.2.2.1 i (fun y => hA.2.2.2.1 i (List.mem_cons_of_mem _ (kin1 i y)) hi) (fun y => (hdis an hann).2.2.1 (y ▸ hi))⟩, hW.2.2.2.2.1 p2 (fun y => n1 (kin1 p2 y)) hpn, (hW.2.2.2.2.2.1 p2 hpn).1, (hW.2.2.2.2.2.1 p2 hpn).2⟩
        obtain ⟨fp2, y1, y2, y3⟩ := AtN_out hA hO4 hR4 hn4 (fun i hi y => by
          rcases List.mem_cons.mp hi with rfl | hi
          · exact hA.2.2.2.1 i List.mem_cons_self y
          · rcases hi4 i hi with hi | hi
            · exact hA.2.2.2.1 i (List.mem_cons_of_mem _ hi) y
            · exact (hdis i hi).2.2.1 y)
        have hin : ∀ i ∈ fp2, i < c2 ∧ ¬ P i := fun i hi => by
          rcases y3 i hi with y | y
          · exact hA1.2.2.2.2 i (Or.inl y)
          · rcases List.mem_cons.mp y with rfl | y
            · exact hA1.2.2.2.2 i (Or.inr List.mem_cons_self)
            · rcases hi4 i y with y | y
              · exact hA1.2.2.2.2 i (Or.inr (List.mem_cons_of_mem _ y))
              · exact ⟨(hdis i y).1, (hdis i y).2.1⟩
        refine h0 gs k2 es z _ (by rw [hfn, chE, if_pos rfl]) rfl U c2 fp2 (frN_tr hTP ⟨fun k _ => by rw [hW.1], fun k hk => hW.2.2.1 k (by omega) (by omega) (by omega) (by omega) (by omega), fun i hi => ⟨frW_own hW (fun y => (hA1.2.2.2.2 p2 (Or.inr List.mem_cons_self)).2 (y ▸ hi)) (fun y => (hdis an hann).2.1 (y ▸ hi)), hW.2.2.2.2.1 i (fun y => (hA1.2.2.2.2 i (Or.inr (List.mem_cons_of_mem _ (kin1 i y)))).2 hi) (fun y => (hdis an hann).2.1 (y ▸ hi))⟩⟩) (by rw [hW.1]; exact h192) hc1 (by omega) y1 hin y2
      · refine ⟨fun y => ?_, fun _ => ?_⟩
        · rw [nI_eql (by omega) (by omega)] at y
          exact absurd y o1
        have o1' : ¬ nI op = 1 := fun y => by
          rw [nI_eql (by omega) (by omega)] at y
          exact o1 y
        by_cases o3 : op = 3
        · subst o3
          refine kM_makes_98 ⟨fun y => absurd y o1', fun _ => ⟨fun _ => ⟨_, hg_33_7 T, _, (hq_r T hq6).1, ?_⟩, fun y => absurd rfl y⟩⟩
          rw [hqk]
          refine sM_isNumber (d := d + 3) hqk2 ⟨_, rfl, fun y => ?_, fun y => ?_⟩
          · have hnn : ¬ (e.1 = 16 ∨ e.1 = 18) := fun y2 => by
              rw [if_pos y2] at y
              exact absurd y (by decide)
            exact h7 gs k2 es z (7, l1 ++ e :: l2) (by rw [hfn, chE, if_neg (by decide), if_neg (by decide), if_pos rfl, if_neg hnn]) (Nat.succ_ne_zero _) T hTP
          · have hnn : e.1 = 16 ∨ e.1 = 18 := by
              by_cases y2 : e.1 = 16 ∨ e.1 = 18
              · exact y2
              · rw [if_neg y2] at y
                exact absurd rfl y
            have e2 := RV_num hqv (by omega)
            have e3 := RV_num haT (by have := hop3 rfl; omega)
            refine sM_add (d := d + 3) hq6 han6 hqk (RV_k haT).2.1 hqk2 (RV_k haT).2.2 (fun ho => ⟨_, rfl, ?_⟩) (fun ho => ⟨_, rfl, ?_⟩)
            · rw [e2, e3] at ho
              exact h7 gs k2 es z (8, l1 ++ e :: l2) (by rw [hfn, chE, if_neg (by decide), if_neg (by decide), if_pos rfl, if_pos hnn, if_pos (ovB_iff.mpr ho)]) (Nat.succ_ne_zero _) T hTP
            · rw [e2, e3] at ho ⊢
              generalize hsum : nvR e.1 e.2.2 + nvR a.1 a.2.2 = v at *
              generalize hkk : sumK e.1 a.1 v = kk at *
              have a18 : (sL (sA T 18 (upd (T.2.1 18) q (nI kk))) (vp_updL T.2.2 q v)).2.1 18 = upd (T.2.1 18) q (nI kk) := by simp [sL, sA, va_up]
              have aL : (sL (sA T 18 (upd (T.2.1 18) q (nI kk))) (vp_updL T.2.2 q v)).2.2 = vp_updL T.2.2 q v := by simp [sL]
              have aO : ∀ j, j ≠ 18 → (sL (sA T 18 (upd (T.2.1 18) q (nI kk))) (vp_updL T.2.2 q v)).2.1 j = T.2.1 j := fun j hj => by simp [sL, sA, va_up, hj]
              have a1 : (sL (sA T 18 (upd (T.2.1 18) q (nI kk))) (vp_updL T.2.2 q v)).1 = T.1 := rfl
              generalize sL (sA T 18 (upd (T.2.1 18) q (nI kk))) (vp_updL T.2.2 q v) = U at *
              have own : ∀ i, i ≠ q → sOwn T U i := fun i hi => ⟨by rw [a18, pk_un hi], by rw [aL, pk_uLn hi], by rw [aO 21 (by omega)], by rw [aO 22 (by omega)], by rw [aO 23 (by omega)], by rw [aO 25 (by omega)], by rw [aO 19 (by omega)], by rw [aO 20 (by omega)]⟩
              have x24 : ∀ i, U.2.1 24 i = T.2.1 24 i := fun i => by rw [aO 24 (by omega)]
              have hlf := RV_lf hqv (by omega)
              have hkv : kk = 16 ∨ kk = 18 := by rw [← hkk, sumK]; split <;> omega
              have hlv : leafV U q kk (numR kk v) := by
                refine ⟨by rw [aO 23 (by omega)]; exact hlf, ?_⟩
                rw [aL, pk_uLs]
                by_cases k16 : kk = 16
                · subst k16
                  refine Or.inl ⟨rfl, lw_len v 4, (nvR_lw4 ?_).symm⟩
                  rw [sumK] at hkk
                  split at hkk
                  · rename_i y2; exact y2.2.2
                  · exact absurd hkk (by decide)
                · have k18 : kk = 18 := by omega
                  subst k18
                  exact Or.inr (Or.inl ⟨rfl, lw_len v 8, (nvR_lw8 v).symm⟩)
              have hbn : ∀ b ∈ numR kk v, b < 256 := by
                unfold numR
                split
                · exact lw_b v 4
                · exact lw_b v 8
              have hvU : RV u2 U q kk (numR kk v) [q] := by
                rw [show u2 = u2 - 1 + 1 by omega]
                exact ⟨hq6, by rw [a18, pk_us], hbn, Or.inl ⟨rfl, hlv⟩⟩
              have hqf : q ∈ f2 := kin q (by simp)
              have hpq : p2 ≠ q := fun y => n1 (y ▸ hqf)
              obtain ⟨fe2, hfe2⟩ := RV_hd hqv
              have hqe : q ∈ fe := by rw [hfe2]; simp
              subst hf2
              obtain ⟨n3, n4, n5⟩ := List.nodup_append.mp n2
              obtain ⟨n6, n7, n8⟩ := List.nodup_append.mp n4
              have hst2 : stl U = stl T := by rw [stl, stl, aO 17 (by omega)]
              have hR4 := hmid U kk (numR kk v) [q] hst2 (own p2 hpq) (fun i hi => ⟨own i (fun y => by
                subst y
                rcases hi with hi | hi
                · exact n5 i hi i (by simp [hqe]) rfl
                · exact n8 i hqe i hi rfl), x24 i⟩) (x24 q) (by rw [aO 19 (by omega)]) (by rw [aO 20 (by omega)]) hvU
              have hsub : ∀ i ∈ p2 :: (f1 ++ ([q] ++ f3)), i ∈ p2 :: (f1 ++ (fe ++ f3)) := fun i hi => by
                simp only [List.mem_cons, List.mem_append, List.mem_nil_iff, or_false] at hi ⊢
                rcases hi with hi | hi | hi | hi
                · exact Or.inl hi
                · exact Or.inr (Or.inl hi)
                · exact Or.inr (Or.inr (Or.inl (hi ▸ hqe)))
                · exact Or.inr (Or.inr (Or.inr hi))
              have hn4 : (p2 :: (f1 ++ ([q] ++ f3))).Nodup := by
                refine List.nodup_cons.mpr ⟨fun y => n1 ?_, List.nodup_append.mpr ⟨n3, List.nodup_append.mpr ⟨by simp, n7, fun i hi j hj y => ?_⟩, fun i hi j hj y => ?_⟩⟩
                · have := hsub p2 (List.mem_cons_of_mem _ y)
                  rcases List.mem_append.mp y with y | y
                  · simp [y]
                  · rcases List.mem_append.mp y with y | y
                    · rw [List.mem_singleton] at y; exact absurd y hpq
                    · simp [y]
                · rw [List.mem_singleton] at hi
                  subst hi y
                  exact n8 i hqe i hj rfl
                · subst y
                  rcases List.mem_append.mp hj with hj | hj
                  · rw [List.mem_singleton] at hj
                    subst hj
                    exact n5 i hi i (by simp [hqe]) rfl
                  · exact n5 i hi i (by simp [hj]) rfl
              have hqO : ∀ i, O2 i → i ≠ q := fun i hi y => hA.2.2.2.1 q (List.mem_cons_of_mem _ hqf) (y ▸ hi)
              obtain ⟨fp2, y1, y2, y3⟩ := AtN_out (T := U) hA ⟨hst2, fun i hi => ⟨own i (hqO i hi), x24 i⟩, x24 p2, by rw [aO 19 (by omega)], by rw [aO 20 (by omega)]⟩ hR4 hn4 (fun i hi => hA.2.2.2.1 i (hsub i hi))
              refine h0 gs k2 es z _ (by rw [hfn, chE, if_neg (by decide), if_neg (by decide), if_pos rfl, if_pos hnn, hsum, if_neg (fun z => ho (ovB_iff.mp z)), hkk]) rfl U c2 fp2 (frN_tr hTP ⟨fun k _ => by rw [a1], fun k hk => aO k (by omega), fun i hi => ⟨own i (fun y => (hA1.2.2.2.2 q (Or.inr (List.mem_cons_of_mem _ hqf))).2 (y ▸ hi)), x24 i⟩⟩) (by rw [a1]; exact h192) hc1 (by omega) y1 (fun i hi => ?_) y2
              rcases y3 i hi with y | y
              · exact hA1.2.2.2.2 i (Or.inl y)
              · exact hA1.2.2.2.2 i (Or.inr (hsub i y))
        · have h46 : op = 4 ∨ op = 6 := by omega
          have o3' : ¬ nI op = 3 := fun y => by
            rw [nI_eql (by omega) (by omega)] at y
            exact o3 y
          refine kM_makes_98 ⟨fun y => absurd y o1', fun _ => ⟨fun y => absurd y o3', fun _ => ⟨_, hg_33_7 T, _, (hq_r T hq6).1, ?_⟩⟩⟩
          rw [hqk]
          refine ⟨fun y => ⟨_, hg_33_13 T, _, (hq_r T hq6).2.2.2.2.2.1, ?_⟩, fun y => ?_⟩
          · rw [nI_eql (by omega) (by omega)] at y
            have e4 : e.1 = 4 := y
            obtain ⟨O3, f4, hV3⟩ := AtN_in hA2 hkl
            obtain ⟨v, rfl⟩ : ∃ v, u2 = v + 1 := ⟨u2 - 1, by omega⟩
            rw [e4] at hV3
            obtain ⟨ks4, f5, hraw4, hN4⟩ := AtV_N (Or.inr rfl) (by omega) hV3
            have hN5 : AtN T P R c2 (gs ++ [(l1, 4, e.2.1, l2)]) q 4 v (els e.2.2) O3 ks4 f5 := AtN_le (fun q hq => Or.inl hq) hN4
            have hdis4 : ∀ i ∈ fa, ¬ O3 i ∧ i ∉ q :: f5 := fun i hi => ⟨fun y => (hN4.2.2.2.2 i (Or.inl y)).2 (Or.inr hi), fun y => (hN4.2.2.2.2 i (Or.inr y)).2 (Or.inr hi)⟩
            have hlr : 5 + (encs (els e.2.2)).length = e.2.2.length := by
              have := encD_len (els e.2.2)
              rw [← hraw4] at this
              omega
            have w194 : ¬ (op = 6 ∧ (els e.2.2).any (fun x => sameV 24 x.1 x.2.2 a.1 a.2.2) = true) → ∀ U, frQ T U → sm_W N (d + 4 + 1) mm_M_makes 194 [(0, .ref 33), (3, .int (nI an)), (5, .int (nI q))] [] (hp U) Q := by
              intro hno U hU
              have hNU : AtN U P R c2 (gs ++ [(l1, 4, e.2.1, l2)]) q 4 v (els e.2.2) O3 ks4 f5 := AtN_fr hN5 (frQ_N hU _) (Nat.le_refl _)
              have haU : RV v U an a.1 a.2.2 fa := RV_to (by omega) (frQ_RV hU hfa haT)
              have kin4 := RL_in hNU.2.1.2.2.2.2.2.2
              have hnk4 : an ∉ ks4 := fun y => (hdis4 an hann).2 (List.mem_cons_of_mem _ (kin4 an y))
              refine kM_makes_194 (sM_append (d := d + 3) (ks := ks4) hq6 han6 hNU.2.1.2.2.2.2.2.1 hnk4 ⟨rfl, ?_⟩)
              have r1 := RH_app (w := dg (els e.2.2).length) hNU.2.2.1 hNU.2.1 haU hfa (fun i hi => (hdis4 i hi).2) (by rw [if_pos rfl]) (fun b hb => by have := dg_b _ b hb; omega) (fun b hb => by have := dg_b _ b hb; omega)
              have hqn : q ≠ an := fun y => (hdis4 an hann).2 (by simp [← y])
              have hqk4 : q ∉ ks4 := fun y => (List.nodup_cons.mp hNU.2.2.1).1 (kin4 q y)
              have m4 := apS_fr U q an ks4
              have m5 : (apS U q an ks4).1 = U.1 := apS_i ..
              have m6 := apS_24 U q an ks4 hqn hqk4
              have m7 : (apS U q an ks4).2.1 19 = U.2.1 19 := apS_o _ _ _ _ (by omega) (by omega) (by omega)
              have m8 : (apS U q an ks4).2.1 20 = U.2.1 20 := apS_o _ _ _ _ (by omega) (by omega) (by omega)
              generalize apS U q an ks4 = V at *
              have hO4 : frO U V O3 q := ⟨frN_st m4, fun i hi => m4.2.2 i ⟨fun y => hN5.2.2.2.1 q List.mem_cons_self (y ▸ hi), fun y => (hdis4 an hann).1 (y ▸ hi), fun y => hN5.2.2.2.1 i (List.mem_cons_of_mem _ (kin4 i y)) hi⟩, m6, by rw [m7], by rw [m8]⟩
              obtain ⟨fp2, y1, y2, y3⟩ := AtN_out hNU hO4 r1 (nd_ap hNU.2.2.1 hfa (fun i hi => (hdis4 i hi).2)) (fun i hi y => by
                rcases List.mem_cons.mp hi with rfl | hi
                · exact hN5.2.2.2.1 i List.mem_cons_self y
                · rcases List.mem_append.mp hi with hi | hi
                  · exact hN5.2.2.2.1 i (List.mem_cons_of_mem _ hi) y
                  · exact (hdis4 i hi).1 y)
              rw [plg_app] at y2
              refine h0 gs k2 es z (0, l1 ++ (4, e.2.1, encD (els e.2.2 ++ [(a.1, dg (els e.2.2).length, a.2.2)])) :: l2) (by rw [hfn, chE, if_neg o1, if_neg (by omega), if_neg o3, if_neg (fun y => y e4), if_neg (by omega), if_neg hno]) rfl V c2 fp2 (frN_tr hTP (frN_tr (frQ_N hU P) (frN_le m4 (fun i hi => ⟨fun y => (hN5.2.2.2.2 q (Or.inr List.mem_cons_self)).2 (y ▸ hi), fun y => (hdis an hann).2.1 (y ▸ hi), fun y => (hN5.2.2.2.2 i (Or.inr (List.mem_cons_of_mem _ (kin4 i y)))).2 hi⟩)))) (by rw [m5, hU.1]; exact h192) hc1 (by omega) y1 (fun i hi => ?_) y2
              rcases y3 i hi with y | y
              · exact hN5.2.2.2.2 i (Or.inl y)
              · rcases List.mem_cons.mp y with rfl | y
                · exact hN5.2.2.2.2 i (Or.inr List.mem_cons_self)
                · rcases List.mem_append.mp y with y | y
                  · exact hN5.2.2.2.2 i (Or.inr (List.mem_cons_of_mem _ y))
                  · exact ⟨(hdis i y).1, (hdis i y).2.1⟩
            rcases h46 with o4 | o6
            · have w4 := w194 (fun y => by omega) T (frQ_rf T)
              refine kM_makes_159 ⟨fun _ => w4, fun _ => ⟨fun y => ?_, fun _ => w4⟩⟩
              rw [nI_eql (by omega) (by omega)] at y
              exact absurd y (show ¬ op = 6 by omega)
            · subst o6
              refine mk_159 (v := v) okT (by omega) (RV_to (by omega) haT) hfa la ks4 (els e.2.2) f5 0 _ T (frQ_rf T) hN5.2.1.2.2.2.2.2.2 (List.nodup_cons.mp hN5.2.2.1).2 (by omega) hN5.2.1.2.2.2.2.2.1.1 (fun y U hU => ?_) (fun y U hU => w194 (fun y2 => by rw [y] at y2; exact absurd y2.2 (by decide)) U hU)
              obtain ⟨fp2, y1, y2, y3⟩ := AtN_RV (AtN_fr (T := U) hA1 (frQ_N hU _) (Nat.le_refl c2))
              refine h0 gs k2 es z (0, l1 ++ e :: l2) (by rw [hfn, chE, if_neg o1, if_neg (by decide), if_neg o3, if_neg (fun y => y e4), if_neg (by decide), if_pos ⟨rfl, y⟩]) rfl U c2 fp2 (frN_tr hTP (frQ_N hU P)) (by rw [hU.1]; exact h192) hc1 (by omega) y1 y3 ?_
              rw [← he]
              exact y2
          · rw [nI_eql (by omega) (by omega)] at y
            exact h7 gs k2 es z (7, l1 ++ e :: l2) (by rw [hfn, chE, if_neg o1, if_neg (by omega), if_neg o3, if_pos y]) (Nat.succ_ne_zero _) T hTP
end Mk
