/-! the class's editor: reach -/
def frE (S T : sT) : Prop := (∀ k, (k < 7 ∨ 11 < k) → k ≠ 37 → k ≠ 39 → k ≠ 40 → T.1 k = S.1 k) ∧ (∀ k, k ≠ 7 → k ≠ 9 → k ≠ 10 → k ≠ 16 → T.2.1 k = S.2.1 k) ∧ T.2.2 = S.2.2
def EdO (S : sT) : Prop := okB S 6 ∧ okB S 7 ∧ okB S 8 ∧ okB S 9 ∧ okB S 10 ∧ bl S 8 = [5, 0, 0, 0, 0]
theorem frE_rf (S : sT) : frE S S := ⟨fun _ _ _ _ _ => rfl, fun _ _ _ _ _ => rfl, rfl⟩
theorem frE_tr {S T U : sT} (h1 : frE S T) (h2 : frE T U) : frE S U := ⟨fun k a b c e => (h2.1 k a b c e).trans (h1.1 k a b c e), fun k a b c e => (h2.2.1 k a b c e).trans (h1.2.1 k a b c e), h2.2.2.trans h1.2.2⟩
theorem frE_sI (S : sT) {k : Nat} (hk : 7 ≤ k ∧ k ≤ 11) (x : Int32) : frE S (sI S k x) := ⟨fun i a _ _ _ => by simp only [sI, va_up]; rw [if_neg (by omega)], fun _ _ _ _ _ => rfl, rfl⟩
theorem frE_eq {S T : sT} {j : Nat} {l : List Nat} (hj : j = 7 ∨ j = 9 ∨ j = 10) (h : eqB j l S T) : frE S T := ⟨fun k _ a b c => eqB_i h (by omega), fun k a b c _ => eqB_a h (by omega), eqB_l h⟩
theorem frE_6 {S T : sT} (h : frE S T) {j : Nat} (hj : j = 6 ∨ j = 8) : bl T j = bl S j := by rw [bl, bl, h.1 _ (by omega) (by omega) (by omega) (by omega), h.2.1 _ (by omega) (by omega) (by omega) (by omega)]
theorem frE_k {S T : sT} (h : frE S T) {j : Nat} (hj : j = 6 ∨ j = 8) (hw : okB S j) : okB T j := by
  obtain ⟨n, a, b, c⟩ := hw
  exact ⟨n, a, by rw [h.1 _ (by omega) (by omega) (by omega) (by omega)]; exact b, fun i => by rw [h.2.1 _ (by omega) (by omega) (by omega) (by omega)]; exact c i⟩
theorem EdO_fr {S T : sT} (h : frE S T) (hE : EdO S) (h7 : okB T 7) (h9 : okB T 9) (h10 : okB T 10) : EdO T := ⟨frE_k h (Or.inl rfl) hE.1, h7, frE_k h (Or.inr rfl) hE.2.2.1, h9, h10, by rw [frE_6 h (Or.inr rfl)]; exact hE.2.2.2.2.2⟩
theorem EdO_sI {S : sT} (hE : EdO S) {k : Nat} (hk : 7 ≤ k ∧ k ≤ 11) (x : Int32) : EdO (sI S k x) := EdO_fr (frE_sI S hk x) hE (okB_sI (by omega) hE.2.1) (okB_sI (by omega) hE.2.2.2.1) (okB_sI (by omega) hE.2.2.2.2.1)
theorem EdO_eq {S T : sT} {j : Nat} {l : List Nat} (hj : j = 7 ∨ j = 9 ∨ j = 10) (hE : EdO S) (h : eqB j l S T) : EdO T := EdO_fr (frE_eq hj h) hE (eqB_ok h hE.2.1) (eqB_ok h hE.2.2.2.1) (eqB_ok h hE.2.2.2.2.1)
theorem off_snoc (f : Frm) : ∀ fs : List Frm, off (fs ++ [f]) = off fs + (6 + (encs f.1).length + f.2.2.1.length) := by
  intro fs
  induction fs with
  | nil => simp [off]
  | cons g fs ih =>
    rw [List.cons_append, off, off, ih]
    omega
theorem HS_snoc {S T : sT} {fs : List Frm} {f : Frm} (h : HS S fs) (h7 : T.1 7 = nI (fs.length + 1 + 1)) (h16 : T.2.1 16 = upd (S.2.1 16) (fs.length + 1) (nI (off (fs ++ [f])))) : HS T (fs ++ [f]) := by
  refine ⟨by rw [List.length_append]; exact h7, fun n hn => ?_⟩
  rw [List.length_append, List.length_singleton] at hn
  rw [h16]
  by_cases c : n = fs.length + 1
  · subst c
    rw [pk_us, List.take_of_length_le (by simp)]
  · rw [pk_un c, List.take_append_of_le_length (by omega)]
    exact h.2 n (by omega)
section Rc
variable {N d : Nat} {Q : Option Value → sm_H → Prop}
theorem rc_21 {S : sT} {e : Nat} {mk : Bool} {raw : List Nat} (he : e ≤ (bl S 6).length) (he2 : (bl S 6).length ≤ 2000) : ∀ (f x : Nat) (fs : List Frm) (k v : Nat) (es : List El) (T : sT), 1 ≤ x → x ≤ e → e - x ≤ f → (∀ b ∈ slice (bl S 6) x e, b ≠ 0) → frE S T → EdO T → bl T 7 = plg fs (encD es) → HS T fs → T.1 8 = nI k → (k = 3 ∨ k = 4) → T.1 11 = nI (x - 1) → (∀ a ∈ es, wfE a ∧ VD v a.1 a.2.2) → (stpF f (slice (bl S 6) x e)).length ≤ v → (∀ w ∈ stpF f (slice (bl S 6) x e), w ≠ []) → fs.length + (stpF f (slice (bl S 6) x e)).length ≤ 8 → (plg fs (encD es)).length + 7 * (stpF f (slice (bl S 6) x e)).length + lsum (stpF f (slice (bl S 6) x e)) ≤ 10000 → (mk = false → plg fs (encD es) = raw) →
    (wlk mk (stpF f (slice (bl S 6) x e)) k (encD es) = none → ∀ U, frE S U → EdO U → (mk = false → bl U 7 = raw) → Q (some (.int 0)) (hp U)) →
    (∀ gs k2 es2, wlk mk (stpF f (slice (bl S 6) x e)) k (encD es) = some (gs, k2, es2) → mk = false → fsp ((stpF f (slice (bl S 6) x e)).getLastD []) es2 = none → ∀ U, frE S U → EdO U → bl U 7 = raw → Q (some (.int 0)) (hp U)) →
    (∀ gs k2 es2, wlk mk (stpF f (slice (bl S 6) x e)) k (encD es) = some (gs, k2, es2) → (mk = true ∨ fsp ((stpF f (slice (bl S 6) x e)).getLastD []) es2 ≠ none) → ∀ U x2 y2, frE S U → EdO U → bl U 7 = plg (fs ++ gs) (encD es2) → HS U (fs ++ gs) → (fs ++ gs).length + 1 ≤ 8 → U.1 8 = nI k2 → (fsp ((stpF f (slice (bl S 6) x e)).getLastD []) es2 = none → U.1 9 = -1) → (∀ l1 a l2, fsp ((stpF f (slice (bl S 6) x e)).getLastD []) es2 = some (l1, a, l2) → U.1 9 = nI (off (fs ++ gs) + 4 + (encs l1).length)) → U.1 10 = nI x2 → U.1 11 = nI y2 → x2 ≤ y2 → y2 ≤ (bl S 6).length → slice (bl S 6) x2 y2 = (stpF f (slice (bl S 6) x e)).getLastD [] → Q (some (.int 1)) (hp U)) →
    sm_W N (d + 4 + 1) mm_E_reach 21 [(0, .ref 9), (1, .ref 23), (3, .int (nI e)), (4, .int (if mk then 1 else 0)), (5, .int (nI fs.length))] [] (hp T) Q := by
  intro f
  induction f with
  | zero =>
    intro x fs k v es T h1 hx hf _ _ _ _ _ _ _ _ _ _ hne
    have : x = e := by omega
    subst this
    rw [sl_nil (Nat.le_refl _)] at hne
    exact absurd rfl (hne [] (by simp [stpF]))
  | succ f ih =>
    intro x fs k v es T h1 hx hf hnz hT hE hb7 hH h8 hk h11 hes hv hne hfl hcap hraw hN hM hY
    have hL0 : slice (bl S 6) x e = slice (bl S 6) x e := rfl
    generalize hL : slice (bl S 6) x e = l at *
    have hll : l.length = e - x := by rw [← hL, slice_len (by omega)]
    have htw := tw46_le l
    have hws0 : stpF (f + 1) l = if (tw46 l).length < l.length then tw46 l :: stpF f (l.drop ((tw46 l).length + 1)) else [l] := rfl
    generalize hws : stpF (f + 1) l = ws at *
    have hw1 : 1 ≤ ws.length := by rw [← hws]; exact stpF_ne _ _
    have b6 : bl T 6 = bl S 6 := frE_6 hT (Or.inl rfl)
    have hel := els_encD (es := es) (fun a ha => (hes a ha).1)
    have hwsl : slice (bl S 6) x (x + (tw46 l).length) = tw46 l := by
      have := tw46_take l
      rw [← hL, sl_take (by rw [hL]; omega), hL] at this
      exact this.symm
    -- the step
    refine kE_reach_21 ⟨fun c => ?_, fun _ => ⟨_, hg_9_9 T, fun c => ?_, fun _ => ⟨_, hg_9_9 T, _, hu_9_8 T _, ?_⟩⟩⟩
    · rw [nI_gel (by omega) (by omega)] at c
      exact absurd (show 8 ≤ fs.length from c) (by omega)
    · rw [h11, nI_leI (by omega) (by omega)] at c
      omega
    rw [h11, nI_1, show x - 1 + 1 = x by omega]
    have a10 : (sI T 10 (nI x)).1 10 = nI x := by simp [sI, va_up]
    have aI : ∀ i, i ≠ 10 → (sI T 10 (nI x)).1 i = T.1 i := fun i hi => by simp [sI, va_up, hi]
    have aF := frE_sI T (k := 10) (by omega) (nI x)
    have aE := EdO_sI hE (k := 10) (by omega) (nI x)
    have a7 : bl (sI T 10 (nI x)) 7 = bl T 7 := bl_sI (by omega)
    have aH : HS (sI T 10 (nI x)) fs := HS_sI (by omega) hH
    generalize sI T 10 (nI x) = T1 at *
    have a6 : bl T1 6 = bl S 6 := by rw [frE_6 aF (Or.inl rfl), b6]
    refine ⟨_, hg_9_8 T1, ?_⟩
    rw [a10]
    refine sE_stepEnd (j := 6) (d := d + 2) (by omega) aE.1 hx (by rw [a6]; exact he) ⟨_, rfl, _, hu_9_9 T1 _, ?_⟩
    rw [a6, hL]
    generalize hy : x + (tw46 l).length = y at *
    have c11 : (sI T1 11 (nI y)).1 11 = nI y := by simp [sI, va_up]
    have cI : ∀ i, i ≠ 11 → (sI T1 11 (nI y)).1 i = T1.1 i := fun i hi => by simp [sI, va_up, hi]
    have cF := frE_sI T1 (k := 11) (by omega) (nI y)
    have cE := EdO_sI aE (k := 11) (by omega) (nI y)
    have c7 : bl (sI T1 11 (nI y)) 7 = plg fs (encD es) := by rw [bl_sI (by omega), a7]; exact hb7
    have cH : HS (sI T1 11 (nI y)) fs := HS_sI (by omega) aH
    generalize sI T1 11 (nI y) = T2 at *
    have c6 : bl T2 6 = bl S 6 := by rw [frE_6 cF (Or.inl rfl), a6]
    have cT : frE S T2 := frE_tr hT (frE_tr aF cF)
    have c10 : T2.1 10 = nI x := by rw [cI 10 (by omega)]; exact a10
    have c8 : T2.1 8 = nI k := by rw [cI 8 (by omega), aI 8 (by omega)]; exact h8
    have hyl : y ≤ e := by omega
    -- behind the step found or free
    have w86 : ∀ U, frE S U → EdO U → bl U 7 = plg fs (encD es) → HS U fs → U.1 8 = nI k → U.1 10 = nI x → U.1 11 = nI y → (mk = true → mayG k es (tw46 l) = true) → (mk = true ∨ fsp (tw46 l) es ≠ none) → (fsp (tw46 l) es = none → U.1 9 = -1) → (∀ l1 a l2, fsp (tw46 l) es = some (l1, a, l2) → U.1 9 = nI (off fs + 4 + (encs l1).length)) → sm_W N (d + 4 + 1) mm_E_reach 86 [(0, .ref 9), (1, .ref 23), (3, .int (nI e)), (4, .int (if mk then 1 else 0)), (5, .int (nI fs.length))] [] (hp U) Q := by
      intro U uT uE u7 uH u8 u10 u11 hmay hmf hn9 hs9
      refine kE_reach_86 ⟨_, hg_9_9 U, ?_⟩
      rw [u11]
      refine ⟨fun c => ?_, fun c => ?_⟩
      · -- the last step
        rw [nI_leI (by omega) (by omega)] at c
        have hye : y = e := by omega
        have htl : ¬ (tw46 l).length < l.length := by omega
        have hfull : tw46 l = l := by
          have := tw46_take l
          rw [List.take_of_length_le (by omega)] at this
          exact this
        rw [if_neg htl] at hws0
        have hw2 : wlk mk ws k (encD es) = some ([], k, es) := by
          rw [hws0, wlk, hel, if_pos ⟨hk, fun z => by rw [← hfull]; exact hmay z⟩]
        have hla : ws.getLastD [] = tw46 l := by rw [hws0, hfull]; rfl
        have hq : Q (some (.int 1)) (hp U) := by
          rw [hla] at hY
          refine hY [] k es hw2 hmf U x y uT uE (by rw [List.append_nil]; exact u7) (by rw [List.append_nil]; exact uH) (by rw [List.append_nil]; omega) u8 hn9 (by rw [List.append_nil]; exact hs9) u10 u11 (by omega) (by omega) hwsl
        refine kE_reach_159 ?_
        rw [fE_reach_159, nI_1]
        refine kE_reach_21 ⟨fun _ => hq, fun _ => ⟨_, hg_9_9 U, fun _ => hq, fun c2 => absurd ?_ c2⟩⟩
        rw [u11, hye]
        exact (nI_leI (by omega) (by omega)).mpr (Nat.le_refl _)
      · rw [nI_leI (by omega) (by omega)] at c
        have htl : (tw46 l).length < l.length := by omega
        rw [if_pos htl] at hws0
        have hsl : l.drop ((tw46 l).length + 1) = slice (bl S 6) (y + 1) e := by rw [← hL, sl_drop, hL, ← hy, Nat.add_assoc]
        rw [hsl] at hws0
        have hrl := stpF_ne f (slice (bl S 6) (y + 1) e)
        obtain ⟨v2, r, hvr⟩ : ∃ v2 r, stpF f (slice (bl S 6) (y + 1) e) = v2 :: r := by
          cases h : stpF f (slice (bl S 6) (y + 1) e) with
          | nil => rw [h] at hrl; simp at hrl
          | cons v2 r => exact ⟨v2, r, rfl⟩
        have hla : ws.getLastD [] = (stpF f (slice (bl S 6) (y + 1) e)).getLastD [] := by
          rw [hws0, hvr, List.getLastD_cons, List.getLastD_cons, List.getLastD_cons]
        have hlw : ws.length = (stpF f (slice (bl S 6) (y + 1) e)).length + 1 := by rw [hws0]; rfl
        have hsw : lsum ws = (tw46 l).length + lsum (stpF f (slice (bl S 6) (y + 1) e)) := by rw [hws0]; rfl
        have hne2 : ∀ w ∈ stpF f (slice (bl S 6) (y + 1) e), w ≠ [] := fun w hw => hne w (by rw [hws0]; exact List.mem_cons_of_mem _ hw)
        rw [hla] at hM hY
        -- going into a holder
        have w114 : ∀ (V : sT) (l1 l2 : List El) (a : El) (es0 : List El) (v' : Nat), frE S V → EdO V → bl V 7 = plg fs (encD (l1 ++ (a.1, tw46 l, a.2.2) :: l2)) → a.2.1 = tw46 l → HS V fs → V.1 9 = nI (off fs + 4 + (encs l1).length) → V.1 11 = nI y → wfE a → a.1 < 256 → ((a.1 = 3 ∨ a.1 = 4) → a.2.2 = encD es0 ∧ (∀ b ∈ es0, wfE b ∧ VD v' b.1 b.2.2)) → (stpF f (slice (bl S 6) (y + 1) e)).length ≤ v' → (plg fs (encD (l1 ++ (a.1, tw46 l, a.2.2) :: l2))).length + 7 * (stpF f (slice (bl S 6) (y + 1) e)).length + lsum (stpF f (slice (bl S 6) (y + 1) e)) ≤ 10000 → (mk = false → bl V 7 = raw) → (wlk mk ws k (encD es) = match wlk mk (stpF f (slice (bl S 6) (y + 1) e)) a.1 a.2.2 with | none => none | some q => some ((l1, a.1, tw46 l, l2) :: q.1, q.2)) → sm_W N (d + 4 + 1) mm_E_reach 114 [(0, .ref 9), (1, .ref 23), (3, .int (nI e)), (4, .int (if mk then 1 else 0)), (5, .int (nI fs.length))] [] (hp V) Q := by
          intro V l1 l2 a es0 v' vT vE v7 han vH v9 v11 wa hak hah hv' hcap2 hraw2 hwlk
          have hae : (a.1, tw46 l, a.2.2) = a := by rw [← han]
          rw [hae] at v7 hcap2
          obtain ⟨A, B, hA, hAB⟩ := nst_c fs (szs fs (encs (l1 ++ a :: l2)).length)
          have hl1 : bl V 7 = (A ++ encs l1) ++ (enc1 a ++ (encs l2 ++ B)) := by rw [v7, plg_nst, hAB, encs_app, encs_cons]; simp
          have hpos : off fs + 4 + (encs l1).length = (A ++ encs l1).length := by rw [List.length_append, hA]
          rw [hpos] at v9
          refine kE_reach_114 ⟨_, hg_9_0 V, _, hg_9_7 V, ?_⟩
          rw [v9]
          refine eB_kind (j := 7) (d := d + 3) (by omega) vE.2.1 hl1 ⟨_, rfl, sD_isHolder (d := d + 3) hak ⟨_, rfl, fun c2 => ?_, fun c2 => ?_⟩⟩
          · have hnh : ¬ (a.1 = 3 ∨ a.1 = 4) := fun z => by
              rw [if_pos z] at c2
              exact absurd c2 (by decide)
            have hwn : wlk mk (stpF f (slice (bl S 6) (y + 1) e)) a.1 a.2.2 = none := by
              rw [hvr]
              exact wlk_0 (fun z => hnh z.1)
            rw [hwn] at hwlk
            exact hN hwlk V vT vE hraw2
          · have hh : a.1 = 3 ∨ a.1 = 4 := by
              by_cases z : a.1 = 3 ∨ a.1 = 4
              · exact z
              · rw [if_neg z] at c2
                exact absurd rfl c2
            obtain ⟨ha2, hes0⟩ := hah hh
            refine ⟨_, hg_9_0 V, _, hg_9_7 V, ?_⟩
            rw [v9]
            refine eB_vs (j := 7) (d := d + 3) (by omega) vE.2.1 hl1 wa ⟨_, rfl, _, hg_9_0 V, _, hg_9_7 V, ?_⟩
            rw [v9]
            refine eB_kind (j := 7) (d := d + 3) (by omega) vE.2.1 hl1 ⟨_, rfl, ?_⟩
            refine sE_enter (d := d + 3) vH.1 (by omega) (fun W w7 w8 w16 wI wA wL => ⟨rfl, kE_reach_159 ?_⟩)
            rw [fE_reach_159, nI_1]
            have hoff : (A ++ encs l1).length + 2 + a.2.1.length = off (fs ++ [(l1, a.1, tw46 l, l2)]) := by
              rw [off_snoc, ← hpos, han]
              simp only
              omega
            rw [hoff] at w16
            have wF : frE V W := ⟨fun i hi _ _ _ => wI i (by omega) (by omega), fun i _ _ _ hi => wA i hi, wL⟩
            have wT := frE_tr vT wF
            have ok : ∀ j, j < 11 → okB V j → okB W j := fun j hj ho => by
              obtain ⟨n, q1, q2, q3⟩ := ho
              exact ⟨n, q1, by rw [wI _ (by omega) (by omega)]; exact q2, fun i => by rw [wA _ (by omega)]; exact q3 i⟩
            have wE : EdO W := EdO_fr wF vE (ok 7 (by omega) vE.2.1) (ok 9 (by omega) vE.2.2.2.1) (ok 10 (by omega) vE.2.2.2.2.1)
            have wb7 : bl W 7 = bl V 7 := by rw [bl, bl, wI _ (by omega) (by omega), wA _ (by omega)]
            have wH := HS_snoc (T := W) (f := (l1, a.1, tw46 l, l2)) vH w7 w16
            have hpl : plg (fs ++ [(l1, a.1, tw46 l, l2)]) (encD es0) = plg fs (encD (l1 ++ a :: l2)) := by
              rw [plg_app]
              show plg fs (encD (l1 ++ (a.1, tw46 l, encD es0) :: l2)) = _
              rw [← ha2, hae]
            have hlf : fs.length + 1 = (fs ++ [(l1, a.1, tw46 l, l2)]).length := by rw [List.length_append]; rfl
            rw [hlf]
            refine ih (y + 1) (fs ++ [(l1, a.1, tw46 l, l2)]) a.1 v' es0 W (by omega) (by omega) (by omega) (fun b hb => hnz b (by rw [← hsl] at hb; exact List.mem_of_mem_drop hb)) wT wE (by rw [hpl, wb7]; exact v7) wH w8 hh (by rw [wI 11 (by omega) (by omega)]; exact v11) hes0 hv' hne2 (by rw [← hlf]; omega) (by rw [hpl]; exact hcap2) (fun z => by rw [hpl, ← v7]; exact hraw2 z) (fun z X xT xE x7 => ?_) (fun gs k2 e2 z hmk hfn X xT xE x7 => ?_) (fun gs k2 e2 z hor X x2 y2 xT xE x7 xH xl x8 xn xs x10 x11 xa xb xc => ?_)
            · rw [← ha2] at z
              rw [z] at hwlk
              exact hN hwlk X xT xE x7
            · rw [← ha2] at z
              rw [z] at hwlk
              exact hM _ k2 e2 hwlk hmk hfn X xT xE x7
            · rw [← ha2] at z
              rw [z] at hwlk
              rw [List.append_assoc] at x7 xH xl xs
              exact hY _ k2 e2 hwlk hor X x2 y2 xT xE x7 xH xl x8 xn xs x10 x11 xa xb xc
        refine ⟨_, hg_9_7 U, fun c9 => ⟨_, hg_9_2 U, ?_⟩, fun c9 => ?_⟩
        · -- a new document
          have hfn : fsp (tw46 l) es = none := by
            cases h : fsp (tw46 l) es with
            | none => rfl
            | some q =>
              obtain ⟨l1, a, l2⟩ := q
              have h9 := hs9 l1 a l2 h
              rw [h9] at c9
              have hbl := bl_lenB uE.2.1
              rw [caps7, u7] at hbl
              obtain ⟨q1, -, -⟩ := fsp_some h
              obtain ⟨A, B, hA, hAB⟩ := nst_c fs (szs fs (encs es).length)
              rw [plg_nst, hAB, List.length_append, hA, List.length_append, q1, encs_app, List.length_append] at hbl
              exact absurd c9 (nI_m1 (by omega))
          have hmk : mk = true := by
            rcases hmf with z | z
            · exact z
            · exact absurd hfn z
          have e5 : ([5, 0, 0, 0, 0] : List Nat) = encD [] := by decide
          refine sE_addElement (d := d) (k := 3) (jn := 6) (js := 8) (x := x) (y := y) (a := 0) (b := 5) (w := tw46 l) (v := [5, 0, 0, 0, 0]) uE.2.1 (by omega) uE.1 (by omega) (by omega) uE.2.2.1 (by omega) uH (by omega) u7 (by omega) u10 u11 (by omega) (by rw [frE_6 uT (Or.inl rfl)]; omega) (by rw [frE_6 uT (Or.inl rfl)]; exact hwsl) (by omega) (by rw [uE.2.2.2.2.2]; decide) (by rw [uE.2.2.2.2.2]; decide) (by rw [u7]; show _ + (2 + (tw46 l).length + 5) ≤ 10000; omega) (fun V hV => ⟨rfl, ?_⟩)
          have vF := frE_tr (frE_sI U (k := 9) (by omega) (nI (off fs + 4 + (encs es).length))) (frE_eq (Or.inl rfl) hV)
          have vE := EdO_eq (Or.inl rfl) (EdO_sI uE (k := 9) (by omega) (nI (off fs + 4 + (encs es).length))) hV
          have vI : ∀ i, i ≠ 9 → i ≠ 37 → V.1 i = U.1 i := fun i h1 h2 => by
            rw [eqB_i hV (by omega)]
            simp only [sI, va_up]
            rw [if_neg h1]
          have v9 : V.1 9 = nI (off fs + 4 + (encs es).length) := by rw [eqB_i hV (by omega)]; simp [sI, va_up]
          have v16 : V.2.1 16 = U.2.1 16 := by rw [eqB_a hV (by omega)]; rfl
          rw [e5] at hV
          have hmm := hmay hmk
          subst hmk
          refine w114 V es [] (3, tw46 l, encD []) [] v (frE_tr uT vF) vE hV.2.2 rfl (HS_fr (vI 7 (by omega) (by omega)) v16 uH) v9 (by rw [vI 11 (by omega) (by omega)]; exact u11) ⟨fun b hb => ?_, show vlen 3 (encD []) = (encD []).length by decide, fun _ => show 4 ≤ (encD []).length by decide⟩ (show 3 < 256 by omega) (fun _ => ⟨rfl, fun b hb => absurd hb (by simp)⟩) (by omega) ?_ (fun z => absurd z (by decide)) ?_
          · have hb2 : b ∈ tw46 l := hb
            rw [tw46_take] at hb2
            exact hnz b (List.mem_of_mem_take hb2)
          · obtain ⟨A, B, hA, hAB⟩ := nst_c fs (szs fs (encs es).length)
            have hq1 := szs_hd fs (es ++ [(3, tw46 l, encD [])])
            have hq2 := szs_hd fs es
            have hq3 := szs_add fs (encs es).length (encs (es ++ [(3, tw46 l, encD [])])).length 0 (by omega)
            rw [hq1, hq2] at hq3
            have hq4 : (encs (es ++ [(3, tw46 l, encD [])])).length = (encs es).length + (2 + (tw46 l).length + 5) := by rw [encs_app, encs_cons, encs_nil, List.append_nil, List.length_append, enc1_len]; rfl
            show (plg fs (encD (es ++ [(3, tw46 l, encD [])]))).length + 7 * (stpF f (slice (bl S 6) (y + 1) e)).length + lsum (stpF f (slice (bl S 6) (y + 1) e)) ≤ 10000
            omega
          · have := wlk_n (v := v2) (r := r) (raw := encD es) hk (by rw [hel]; exact hmm) (by rw [hel]; exact hfn)
            rw [hws0, hvr, this, hel]
            show _ = match wlk true (v2 :: r) 3 (encD []) with
              | none => none
              | some q => some ((es, 3, tw46 l, []) :: q.1, q.2)
            cases wlk true (v2 :: r) 3 (encD []) <;> rfl
        · have hfn : ∃ l1 a l2, fsp (tw46 l) es = some (l1, a, l2) := by
            cases h : fsp (tw46 l) es with
            | none => exact absurd (hn9 h) c9
            | some q => obtain ⟨l1, a, l2⟩ := q; exact ⟨l1, a, l2, rfl⟩
          obtain ⟨l1, a, l2, hfn⟩ := hfn
          obtain ⟨q1, q2, -⟩ := fsp_some hfn
          have hae : (a.1, tw46 l, a.2.2) = a := by rw [← q2]
          obtain ⟨wa, va⟩ := hes a (by rw [q1]; simp)
          obtain ⟨v', rfl⟩ : ∃ v', v = v' + 1 := ⟨v - 1, by omega⟩
          have hlr : a.2.2.length < 100000 := by
            have hbl := bl_lenB uE.2.1
            rw [caps7, u7] at hbl
            obtain ⟨A0, B0, -, z2⟩ := plg_at es fs
            rw [z2, List.length_append, List.length_append, encD_len] at hbl
            have := el_len (show a ∈ es by rw [q1]; simp)
            omega
          refine w114 U l1 l2 a (els a.2.2) v' uT uE (by rw [hae, ← q1]; exact u7) q2 uH (hs9 l1 a l2 hfn) u11 wa (VD_k va) (fun hh => ?_) (by omega) (by rw [hae, ← q1]; omega) (fun z => by rw [u7]; exact hraw z) ?_
          · obtain ⟨z1, z2, z3, z4⟩ := VD_h hh hlr va
            exact ⟨z1, fun b hb => ⟨z3 b hb, (z4 b hb).2.2⟩⟩
          · have := wlk_f (mk := mk) (v := v2) (r := r) (raw := encD es) hk (fun z => by rw [hel]; exact hmay z) (by rw [hel]; exact hfn)
            rw [hws0, hvr, this]
            cases wlk mk (v2 :: r) a.1 a.2.2 <;> rfl
    have wnone : ∀ U, frE S U → EdO U → (mk = false → bl U 7 = raw) → fsp (tw46 l) es = none → (mk = true → ¬ mayG k es (tw46 l) = true) → Q (some (.int 0)) (hp U) := by
      intro U uT uE u7 hfn hmay
      by_cases hmk : mk = true
      · refine hN ?_ U uT uE u7
        have hwe : ∃ r, ws = tw46 l :: r := by
          by_cases htl : (tw46 l).length < l.length
          · rw [if_pos htl] at hws0
            exact ⟨_, hws0⟩
          · rw [if_neg htl] at hws0
            have := tw46_take l
            rw [List.take_of_length_le (by omega)] at this
            rw [this]
            exact ⟨[], hws0⟩
        obtain ⟨r, hwe⟩ := hwe
        rw [hwe]
        exact wlk_0 (fun z => hmay hmk (by have := z.2 hmk; rw [hel] at this; exact this))
      · have hmk2 : mk = false := by simpa using hmk
        by_cases htl : (tw46 l).length < l.length
        · rw [if_pos htl] at hws0
          refine hN ?_ U uT uE u7
          have hrl := stpF_ne f (l.drop ((tw46 l).length + 1))
          obtain ⟨v2, r, hvr⟩ : ∃ v2 r, stpF f (l.drop ((tw46 l).length + 1)) = v2 :: r := by
            cases h : stpF f (l.drop ((tw46 l).length + 1)) with
            | nil => rw [h] at hrl; simp at hrl
            | cons v2 r => exact ⟨v2, r, rfl⟩
          rw [hws0, hvr, wlk, hel, if_pos ⟨hk, fun z => absurd z hmk⟩, hfn, hmk2]
          rfl
        · rw [if_neg htl] at hws0
          have hfull : tw46 l = l := by
            have := tw46_take l
            rw [List.take_of_length_le (by omega)] at this
            exact this
          refine hM [] k es ?_ hmk2 ?_ U uT uE (u7 hmk2)
          · rw [hws0, wlk, hel, if_pos ⟨hk, fun z => absurd z hmk⟩]
          · rw [hws0, ← hfull]
            exact hfn
    refine sE_findStep (d := d + 1) (w := tw46 l) cE.1 cE.2.1 cE.2.2.2.1 cH (by omega) c7 (fun a ha => (hes a ha).1) c8 hk c10 c11 (by omega) (by rw [c6]; omega) (by rw [c6]; exact hwsl) (fun l1 a l2 hfn => ⟨_, rfl, _, hg_9_7 _, ?_⟩) (fun hfn k3 => ⟨_, rfl, _, hg_9_7 _, ?_⟩) (fun hfn k4 U hU => ⟨_, rfl, _, hg_9_7 _, ?_⟩)
    · have s9 : (sI T2 9 (nI (off fs + 4 + (encs l1).length))).1 9 = nI (off fs + 4 + (encs l1).length) := by simp [sI, va_up]
      have sI' : ∀ i, i ≠ 9 → (sI T2 9 (nI (off fs + 4 + (encs l1).length))).1 i = T2.1 i := fun i hi => by simp [sI, va_up, hi]
      have hbl := bl_lenB cE.2.1
      rw [caps7, c7] at hbl
      obtain ⟨q1, -, -⟩ := fsp_some hfn
      have hsm : off fs + 4 + (encs l1).length < 20000 := by
        obtain ⟨A, B, hA, hAB⟩ := nst_c fs (szs fs (encs es).length)
        rw [plg_nst, hAB, List.length_append, hA, List.length_append, q1, encs_app, List.length_append] at hbl
        omega
      have w := w86 (sI T2 9 (nI (off fs + 4 + (encs l1).length))) (frE_tr cT (frE_sI T2 (by omega) _)) (EdO_sI cE (by omega) _) (by rw [bl_sI (by omega)]; exact c7) (HS_sI (by omega) cH) (by rw [sI' 8 (by omega)]; exact c8) (by rw [sI' 10 (by omega)]; exact c10) (by rw [sI' 11 (by omega)]; exact c11) (fun _ => by rcases hk with rfl | rfl <;> simp [mayG, hfn]) (Or.inr (by rw [hfn]; simp)) (fun z => by rw [hfn] at z; cases z) (fun m1 b m2 z => by rw [hfn] at z; cases z; exact s9)
      rw [s9]
      exact ⟨fun c => absurd c (nI_m1 (by omega)), fun _ => w⟩
    · have s9 : (sI T2 9 (-1)).1 9 = -1 := by simp [sI, va_up]
      have sI' : ∀ i, i ≠ 9 → (sI T2 9 (-1)).1 i = T2.1 i := fun i hi => by simp [sI, va_up, hi]
      have sF := frE_tr cT (frE_sI T2 (k := 9) (by omega) (-1))
      have sE := EdO_sI cE (k := 9) (by omega) (-1)
      have s7 : bl (sI T2 9 (-1)) 7 = plg fs (encD es) := by rw [bl_sI (by omega)]; exact c7
      rw [s9]
      refine ⟨fun _ => ⟨fun c => ?_, fun c => ⟨fun c2 => absurd c2 (by decide), fun _ => ?_⟩⟩, fun c => absurd rfl c⟩
      · have hmk : ¬ mk = true := fun z => by rw [if_pos z] at c; exact absurd c (by decide)
        exact wnone _ sF sE (fun z => by rw [s7]; exact hraw z) hfn (fun z => absurd z hmk)
      · have hmk : mk = true := by
          by_cases z : mk = true
          · exact z
          · rw [if_neg z] at c
            exact absurd rfl c
        exact w86 _ sF sE s7 (HS_sI (by omega) cH) (by rw [sI' 8 (by omega)]; exact c8) (by rw [sI' 10 (by omega)]; exact c10) (by rw [sI' 11 (by omega)]; exact c11) (fun _ => by subst k3; simp [mayG]) (Or.inl hmk) (fun _ => s9) (fun m1 b m2 z => by rw [hfn] at z; cases z)
    · have s9 : U.1 9 = -1 := by rw [eqB_i hU (by omega)]; simp [sI, va_up]
      have sI' : ∀ i, i ≠ 9 → i ≠ 39 → U.1 i = T2.1 i := fun i hi h2 => by rw [eqB_i hU (by omega)]; simp [sI, va_up, hi]
      have sF := frE_tr cT (frE_tr (frE_sI T2 (k := 9) (by omega) (-1)) (frE_eq (Or.inr (Or.inl rfl)) hU))
      have sE := EdO_eq (Or.inr (Or.inl rfl)) (EdO_sI cE (k := 9) (by omega) (-1)) hU
      have s7 : bl U 7 = plg fs (encD es) := by rw [eqB_bl hU (by omega), bl_sI (by omega)]; exact c7
      have s16 : U.2.1 16 = T2.2.1 16 := by rw [eqB_a hU (by omega)]; rfl
      rw [s9]
      refine ⟨fun _ => ⟨fun c => ?_, fun c => ⟨fun c2 => ?_, fun c2 => ?_⟩⟩, fun c => absurd rfl c⟩
      · have hmk : ¬ mk = true := fun z => by rw [if_pos z] at c; exact absurd c (by decide)
        exact wnone _ sF sE (fun z => by rw [s7]; exact hraw z) hfn (fun z => absurd z hmk)
      · have hnd : ¬ tw46 l = dg es.length := fun z => by rw [if_pos z] at c2; exact absurd c2 (by decide)
        exact wnone _ sF sE (fun z => by rw [s7]; exact hraw z) hfn (fun _ z => by subst k4; simp [mayG, hfn, hnd] at z)
      · have hmk : mk = true := by
          by_cases z : mk = true
          · exact z
          · rw [if_neg z] at c
            exact absurd rfl c
        have hnd : tw46 l = dg es.length := by
          by_cases z : tw46 l = dg es.length
          · exact z
          · rw [if_neg z] at c2
            exact absurd rfl c2
        exact w86 _ sF sE s7 (HS_fr (sI' 7 (by omega) (by omega)) s16 cH) (by rw [sI' 8 (by omega) (by omega)]; exact c8) (by rw [sI' 10 (by omega) (by omega)]; exact c10) (by rw [sI' 11 (by omega) (by omega)]; exact c11) (fun _ => by subst k4; simp [mayG, hnd]) (Or.inl hmk) (fun _ => s9) (fun m1 b m2 z => by rw [hfn] at z; cases z)
end Rc
