/-! what a path leaves as it was; reach from its beginning -/
theorem wlk_nil : ∀ {ws : List (List Nat)} {gs : List Frm} {k2 : Nat} {es : List El}, wlk true ws 3 (encD []) = some (gs, k2, es) → es = [] := by
  intro ws
  have hel : els (encD []) = [] := els_encD (fun e he => absurd he (by simp))
  induction ws with
  | nil => intro gs k2 es h; cases h
  | cons w r ih =>
    intro gs k2 es h
    cases r with
    | nil =>
      rw [wlk] at h
      split at h
      · obtain ⟨-, h2⟩ := Prod.mk.inj (Option.some.inj h)
        obtain ⟨-, h3⟩ := Prod.mk.inj h2
        rw [← h3, hel]
      · cases h
    | cons v r =>
      have hc : (3 = 3 ∨ 3 = 4) ∧ (true = true → mayG 3 (els (encD [])) w = true) := ⟨Or.inl rfl, fun _ => by simp [mayG]⟩
      have hf : fsp w (els (encD [])) = none := by rw [hel]; rfl
      rw [wlk_n hc.1 (hc.2 rfl) hf] at h
      cases hy : wlk true (v :: r) 3 (encD []) with
      | none => rw [hy] at h; cases h
      | some y =>
        obtain ⟨y1, y2, y3⟩ := y
        rw [hy] at h
        have h2 : some ((els (encD []), 3, w, []) :: y1, y2, y3) = some (gs, k2, es) := h
        obtain ⟨-, h3⟩ := Prod.mk.inj (Option.some.inj h2)
        obtain ⟨-, rfl⟩ := Prod.mk.inj h3
        exact ih hy
theorem wlk_ge {mk : Bool} : ∀ (ws : List (List Nat)) (k : Nat) (raw : List Nat) (u : Nat) (gs : List Frm) (k2 : Nat) (es : List El), wlk mk ws k raw = some (gs, k2, es) → VD u k raw → ws.length ≤ u → raw.length < 100000 → raw.length ≤ (plg gs (encD es)).length ∧ (fsp (ws.getLastD []) es ≠ none → plg gs (encD es) = raw) := by
  intro ws
  induction ws with
  | nil => intro k raw u gs k2 es h; cases h
  | cons w r ih =>
    intro k raw u gs k2 es h hv hu hl
    by_cases hc : (k = 3 ∨ k = 4) ∧ (mk = true → mayG k (els raw) w = true)
    · obtain ⟨v, rfl⟩ : ∃ v, u = v + 1 := ⟨u - 1, by rw [List.length_cons] at hu; omega⟩
      obtain ⟨hraw, hnm, hwf, hel⟩ := VD_h hc.1 hl hv
      have hrl : 5 + (encs (els raw)).length = raw.length := by
        have := encD_len (els raw)
        rw [← hraw] at this
        omega
      cases r with
      | nil =>
        rw [wlk, if_pos hc] at h
        obtain ⟨rfl, h2⟩ := Prod.mk.inj (Option.some.inj h)
        obtain ⟨rfl, rfl⟩ := Prod.mk.inj h2
        exact ⟨by rw [plg, ← hraw]; exact Nat.le_refl _, fun _ => hraw.symm⟩
      | cons v2 r =>
        have hlast : (w :: v2 :: r).getLastD [] = (v2 :: r).getLastD [] := by
          rw [List.getLastD_cons, List.getLastD_cons, List.getLastD_cons]
        rw [hlast]
        rw [List.length_cons] at hu
        cases hf : fsp w (els raw) with
        | some x =>
          obtain ⟨l1, e, l2⟩ := x
          obtain ⟨he, hew, -⟩ := fsp_some hf
          rw [wlk_f hc.1 hc.2 hf] at h
          cases hy : wlk mk (v2 :: r) e.1 e.2.2 with
          | none => rw [hy] at h; cases h
          | some y =>
            obtain ⟨y1, y2, y3⟩ := y
            rw [hy] at h
            have h2 : some ((l1, e.1, w, l2) :: y1, y2, y3) = some (gs, k2, es) := h
            obtain ⟨rfl, h3⟩ := Prod.mk.inj (Option.some.inj h2)
            obtain ⟨rfl, rfl⟩ := Prod.mk.inj h3
            have hme : e ∈ els raw := by rw [he]; simp
            have hle := el_len hme
            obtain ⟨g1, g2⟩ := ih e.1 e.2.2 v y1 y2 y3 hy (hel e hme).2.2 (by omega) (by omega)
            have hr2 : raw.length = 5 + ((encs l1).length + (2 + w.length + e.2.2.length + (encs l2).length)) := by
              rw [← hrl, he, encs_app, encs_cons, List.length_append, List.length_append, enc1_len, hew]
            refine ⟨?_, fun hn => ?_⟩
            · rw [plg, encD_len, encs_app, encs_cons, List.length_append, List.length_append, enc1_len]
              simp only
              omega
            · rw [plg, g2 hn, ← hew]
              rw [he] at hraw
              exact hraw.symm
        | none =>
          cases mk with
          | false =>
            rw [wlk, if_pos hc, hf] at h
            have h2 : (if false = true then (match wlk false (v2 :: r) 3 (encD []) with
              | none => none
              | some y => some ((els raw, 3, w, ([] : List El)) :: y.1, y.2)) else none) = some (gs, k2, es) := h
            rw [if_neg (by decide)] at h2
            cases h2
          | true =>
            have hm := hc.2 rfl
            rw [wlk_n hc.1 hm hf] at h
            cases hy : wlk true (v2 :: r) 3 (encD []) with
            | none => rw [hy] at h; cases h
            | some y =>
              obtain ⟨y1, y2, y3⟩ := y
              rw [hy] at h
              have h2 : some ((els raw, 3, w, []) :: y1, y2, y3) = some (gs, k2, es) := h
              obtain ⟨rfl, h3⟩ := Prod.mk.inj (Option.some.inj h2)
              obtain ⟨rfl, rfl⟩ := Prod.mk.inj h3
              have hnil := wlk_nil hy
              subst hnil
              refine ⟨?_, fun hn => absurd rfl hn⟩
              rw [plg, encD_len, encs_app, List.length_append]
              show raw.length ≤ 5 + ((encs (els raw)).length + _)
              omega
    · rw [wlk_0 hc] at h
      cases h
theorem encD_inj {a b : List El} (h : encD a = encD b) : encs a = encs b := by
  rw [encD, encD] at h
  have h2 := (List.append_inj h (by rw [le4_len, le4_len])).2
  exact List.append_cancel_right h2
theorem plg_inj {r1 r2 : List Nat} : ∀ {gs : List Frm}, plg gs r1 = plg gs r2 → r1 = r2 := by
  intro gs
  induction gs with
  | nil => intro h; exact h
  | cons f gs ih =>
    intro h
    have h2 := encD_inj h
    rw [encs_app, encs_app, encs_cons, encs_cons] at h2
    have h3 := List.append_cancel_left h2
    have h4 := List.append_cancel_right h3
    rw [enc1, enc1] at h4
    have h5 := List.append_cancel_left (List.cons.inj h4).2
    exact ih (List.cons.inj h5).2
theorem rep_eq {gs : List Frm} {l1 l2 : List El} {e e2 : El} (hn : e2.2.1 = e.2.1) : plg gs (encD (l1 ++ e2 :: l2)) = plg gs (encD (l1 ++ e :: l2)) ↔ (e2.1 = e.1 ∧ e2.2.2 = e.2.2) := by
  constructor
  · intro h
    have h2 := encD_inj (plg_inj h)
    rw [encs_app, encs_app, encs_cons, encs_cons] at h2
    have h4 := List.append_cancel_right (List.append_cancel_left h2)
    rw [enc1, enc1, hn] at h4
    obtain ⟨h5, h6⟩ := List.cons.inj h4
    exact ⟨h5, (List.cons.inj (List.append_cancel_left h6)).2⟩
  · intro h
    have : e2 = e := by
      obtain ⟨a1, a2, a3⟩ := e2
      obtain ⟨b1, b2, b3⟩ := e
      obtain ⟨rfl, rfl⟩ := h
      cases hn
      rfl
    rw [this]
theorem plg_len {gs : List Frm} {es es2 : List El} : (plg gs (encD es2)).length + (encs es).length = (plg gs (encD es)).length + (encs es2).length := by
  have q1 := szs_hd gs es2
  have q2 := szs_hd gs es
  have q3 := szs_add gs (encs es).length (encs es2).length 0 (by omega)
  rw [q1, q2] at q3
  exact q3
section Rc2
variable {N d : Nat} {Q : Option Value → sm_H → Prop}
theorem sE_reach {S : sT} {mk : Bool} {raw A6 B6 : List Nat} {a : El} (hE : EdO S) (h7 : bl S 7 = raw) (hv : VD 24 3 raw) (hl6 : bl S 6 = A6 ++ (enc1 a ++ B6)) (wa : wfE a) (hsp : spOK a.2.1) (hcap : raw.length + 7 * (stp a.2.1).length + lsum (stp a.2.1) ≤ 10000)
    (hN : wlk mk (stp a.2.1) 3 raw = none → ∀ U, frE S U → EdO U → (mk = false → bl U 7 = raw) → Q (some (.int 0)) (hp U))
    (hM : ∀ gs k2 es2, wlk mk (stp a.2.1) 3 raw = some (gs, k2, es2) → mk = false → fsp ((stp a.2.1).getLastD []) es2 = none → ∀ U, frE S U → EdO U → bl U 7 = raw → Q (some (.int 0)) (hp U))
    (hY : ∀ gs k2 es2, wlk mk (stp a.2.1) 3 raw = some (gs, k2, es2) → (mk = true ∨ fsp ((stp a.2.1).getLastD []) es2 ≠ none) → ∀ U x2 y2, frE S U → EdO U → bl U 7 = plg gs (encD es2) → HS U gs → gs.length + 1 ≤ 8 → U.1 8 = nI k2 → (fsp ((stp a.2.1).getLastD []) es2 = none → U.1 9 = -1) → (∀ l1 b l2, fsp ((stp a.2.1).getLastD []) es2 = some (l1, b, l2) → U.1 9 = nI (off gs + 4 + (encs l1).length)) → U.1 10 = nI x2 → U.1 11 = nI y2 → x2 ≤ y2 → y2 ≤ (bl S 6).length → slice (bl S 6) x2 y2 = (stp a.2.1).getLastD [] → Q (some (.int 1)) (hp U)) :
    sm_V N (d + 4 + 1) mm_E_reach 2 9 [.ref 23, .int (nI (A6.length + 1)), .int (nI (A6.length + 1 + a.2.1.length)), .int (if mk then 1 else 0)] (hp S) Q := by
  have hb6 := eB_len hE.1 hl6
  have hc6 := bl_lenB hE.1
  rw [caps6] at hc6
  have hnm := eB_nm hl6
  obtain ⟨r1, r2, r3, r4⟩ := VD_h (Or.inl rfl) (by omega) hv
  refine cE_reach (hk_9 S) ⟨_, hu_9_5 S _, ?_⟩
  have i7 : (sI S 7 0).1 7 = nI 0 := by simp [sI, va_up]; rfl
  have iF := frE_sI S (k := 7) (by omega) 0
  have iE := EdO_sI hE (k := 7) (by omega) 0
  have ib : bl (sI S 7 0) 7 = raw := by rw [bl_sI (by omega)]; exact h7
  generalize sI S 7 0 = S1 at *
  have e3 : (3 : Int32) = nI 3 := rfl
  have e0 : (0 : Int32) = nI 0 := rfl
  rw [e3]
  refine sE_enter (d := d + 3) i7 (by omega) (fun W w7 w8 w16 wI wA wL => ⟨rfl, _, hu_9_9 W _, ?_⟩)
  rw [nI_sl (show 1 ≤ A6.length + 1 by omega)]
  have wF : frE S1 W := ⟨fun i hi _ _ _ => wI i (by omega) (by omega), fun i _ _ _ hi => wA i hi, wL⟩
  have ok : ∀ j, j < 11 → okB S1 j → okB W j := fun j hj ho => by
    obtain ⟨n, q1, q2, q3⟩ := ho
    exact ⟨n, q1, by rw [wI _ (by omega) (by omega)]; exact q2, fun i => by rw [wA _ (by omega)]; exact q3 i⟩
  have wE : EdO W := EdO_fr wF iE (ok 7 (by omega) iE.2.1) (ok 9 (by omega) iE.2.2.2.1) (ok 10 (by omega) iE.2.2.2.2.1)
  have wb : bl W 7 = raw := by rw [← ib, bl, bl, wI _ (by omega) (by omega), wA _ (by omega)]
  have wH : HS W [] := ⟨w7, fun n hn => by
    have : n = 0 := by simpa using hn
    subst this
    rw [w16, pk_us]
    rfl⟩
  have x11 : (sI W 11 (nI (A6.length + 1 - OfNat.ofNat 1))).1 11 = nI (A6.length + 1 - 1) := by simp [sI, va_up]
  have x8 : (sI W 11 (nI (A6.length + 1 - OfNat.ofNat 1))).1 8 = nI 3 := by simp [sI, va_up]; exact w8
  have xF := frE_tr iF (frE_tr wF (frE_sI W (k := 11) (by omega) (nI (A6.length + 1 - OfNat.ofNat 1))))
  have xE := EdO_sI wE (k := 11) (by omega) (nI (A6.length + 1 - OfNat.ofNat 1))
  have xb : bl (sI W 11 (nI (A6.length + 1 - OfNat.ofNat 1))) 7 = raw := by rw [bl_sI (by omega)]; exact wb
  have xH : HS (sI W 11 (nI (A6.length + 1 - OfNat.ofNat 1))) [] := HS_sI (by omega) wH
  generalize sI W 11 (nI (A6.length + 1 - OfNat.ofNat 1)) = X at *
  have hst : stpF a.2.1.length (slice (bl S 6) (A6.length + 1) (A6.length + 1 + a.2.1.length)) = stp a.2.1 := by rw [hnm]; rfl
  have := rc_21 (N := N) (d := d) (Q := Q) (S := S) (e := A6.length + 1 + a.2.1.length) (mk := mk) (raw := raw) (by omega) hc6 a.2.1.length (A6.length + 1) [] 3 23 (els raw) X (by omega) (by omega) (by omega) (by rw [hnm]; exact wa.1) xF xE (by rw [plg, ← r1]; exact xb) xH x8 (Or.inl rfl) x11 (fun b hb => ⟨r3 b hb, (r4 b hb).2.2⟩)
  rw [hst, plg, ← r1] at this
  have h8 := hsp.2
  exact this (by omega) hsp.1 (by simpa using h8) hcap (fun _ => rfl) hN hM hY
end Rc2
