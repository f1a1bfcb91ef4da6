/-! a path keeps a document valid, and bounds how much it grows -/
def okW (w : List Nat) : Prop := (∀ b ∈ w, b ≠ 0 ∧ b < 256) ∧ rt w = true
theorem rt_asc {l : List Nat} (h : ∀ b ∈ l, b < 128) : rt l = true := by
  have hg : ∀ k, l.getD k 0 < 128 := fun k => by
    rw [List.getD_eq_getElem?_getD]
    cases hk : l[k]? with
    | none => simp
    | some x => exact h x (List.mem_of_getElem? hk)
  have key : ∀ (f p : Nat), l.length - p ≤ f → utf l f p l.length = true := by
    intro f
    induction f with
    | zero => intro p hp1; exact decide_eq_true (by omega)
    | succ f ih =>
      intro p hp1
      rw [utf]
      split
      · rfl
      · have h1 : chS l p l.length = 1 := by rw [chS, if_pos (hg p)]
        rw [h1, if_neg (by decide)]
        exact ih (p + 1) (by omega)
  exact key _ 0 (by omega)
theorem okW_dg (i : Nat) : okW (dg i) := ⟨fun b hb => by have := dg_b i b hb; omega, rt_asc (fun b hb => by have := dg_b i b hb; omega)⟩
theorem rnm_snoc {es : List El} {e : El} (h : rnm 0 es = es) (hn : e.2.1 = dg es.length) : rnm 0 (es ++ [e]) = es ++ [e] := by
  rw [rnm_app, h, rnm, rnm, Nat.zero_add, ← hn]
theorem nmK_new {k : Nat} {es : List El} {w : List Nat} {e : El} (hn : nmK k es) (hf : fsp w es = none) (h4 : k = 4 → w = dg es.length) (he : e.2.1 = w) : nmK k (es ++ [e]) := by
  refine ⟨fun c => ?_, fun c => rnm_snoc (hn.2 c) (he.trans (h4 c))⟩
  rw [List.map_append]
  refine List.nodup_append.mpr ⟨hn.1 c, by simp, fun x hx y hy z => ?_⟩
  obtain ⟨e2, he2, rfl⟩ := List.mem_map.mp hx
  have : y = e.2.1 := by simpa using hy
  rw [this, he] at z
  exact fsp_none hf e2 he2 z
theorem rnm_inj {a b : List El} {i : Nat} (h : rnm i (a ++ b) = a ++ b) : rnm i a = a ∧ rnm (i + a.length) b = b := by
  rw [rnm_app] at h
  exact List.append_inj h (rnm_len a i)
theorem nmK_mid {k : Nat} {l1 l2 : List El} {e e2 : El} (hn : nmK k (l1 ++ e :: l2)) (he : e2.2.1 = e.2.1) : nmK k (l1 ++ e2 :: l2) := by
  refine ⟨fun c => ?_, fun c => ?_⟩
  · have := hn.1 c
    rw [List.map_append, List.map_cons] at this ⊢
    rw [he]
    exact this
  · obtain ⟨h1, h2⟩ := rnm_inj (hn.2 c)
    rw [rnm] at h2
    obtain ⟨h3, h4⟩ := List.cons.inj h2
    have h5 : dg (0 + l1.length) = e.2.1 := by rw [← h3]
    rw [rnm_app, h1, rnm, h4, h5, ← he]
theorem nmK_del {l1 l2 : List El} {e : El} (hn : nmK 3 (l1 ++ e :: l2)) : nmK 3 (l1 ++ l2) := by
  refine ⟨fun c => ?_, fun c => absurd c (by decide)⟩
  have := hn.1 c
  rw [List.map_append, List.map_cons] at this
  rw [List.map_append]
  obtain ⟨h1, h2, h3⟩ := List.nodup_append.mp this
  exact List.nodup_append.mpr ⟨h1, (List.nodup_cons.mp h2).2, fun x hx y hy z => h3 x hx y (List.mem_cons_of_mem _ hy) z⟩
theorem VD_to {t u k : Nat} {raw : List Nat} (h : t ≤ u) (hv : VD t k raw) : VD u k raw := by
  have := VD_le (u := u - t) hv
  rw [show t + (u - t) = u by omega] at this
  exact this
/-- a valid holder with one element changed -/
theorem VD_mid {u k : Nat} {l1 l2 : List El} {e e2 : El} (hk : k = 3 ∨ k = 4) (hb : ∀ b ∈ encs (l1 ++ e :: l2), b < 256) (hn : nmK k (l1 ++ e :: l2)) (hel : ∀ x ∈ l1 ++ e :: l2, (∀ b ∈ x.2.1, b ≠ 0) ∧ rt x.2.1 = true ∧ VD u x.1 x.2.2) (he : e2.2.1 = e.2.1) (hv : VD u e2.1 e2.2.2) : VD (u + 1) k (encD (l1 ++ e2 :: l2)) := by
  obtain ⟨e1, e3⟩ := encs_b.mp hb
  obtain ⟨e4, e5⟩ := encs_bc.mp e3
  refine VD_mk hk (encs_b.mpr ⟨e1, encs_bc.mpr ⟨⟨VD_k hv, by rw [he]; exact e4.2.1, VD_b hv⟩, e5⟩⟩) (nmK_mid hn he) (fun x hx => ?_)
  rcases List.mem_append.mp hx with hx | hx
  · exact hel x (List.mem_append_left _ hx)
  · rcases List.mem_cons.mp hx with rfl | hx
    · have := hel e (by simp)
      rw [he]
      exact ⟨this.1, this.2.1, hv⟩
    · exact hel x (by simp [hx])
theorem VD_new {u k : Nat} {es : List El} {w : List Nat} {e : El} (hk : k = 3 ∨ k = 4) (hb : ∀ b ∈ encs es, b < 256) (hn : nmK k es) (hel : ∀ x ∈ es, (∀ b ∈ x.2.1, b ≠ 0) ∧ rt x.2.1 = true ∧ VD u x.1 x.2.2) (hf : k = 3 → fsp w es = none) (h4 : k = 4 → w = dg es.length) (hw : okW w) (he : e.2.1 = w) (hv : VD u e.1 e.2.2) : VD (u + 1) k (encD (es ++ [e])) := by
  refine VD_mk hk (encs_b.mpr ⟨hb, encs_bc.mpr ⟨⟨VD_k hv, by rw [he]; exact fun b hb => (hw.1 b hb).2, VD_b hv⟩, by simp [encs]⟩⟩) ?_ (fun x hx => ?_)
  · rcases hk with rfl | rfl
    · exact nmK_new hn (hf rfl) h4 he
    · exact ⟨fun c => absurd c (by decide), fun _ => rnm_snoc (hn.2 rfl) (he.trans (h4 rfl))⟩
  · rcases List.mem_append.mp hx with hx | hx
    · exact hel x hx
    · rw [List.mem_singleton.mp hx, he]
      exact ⟨fun b hb => (hw.1 b hb).1, hw.2, hv⟩
theorem wlk_pure {mk : Bool} : ∀ (ws : List (List Nat)) (k : Nat) (raw : List Nat) (u : Nat) (gs : List Frm) (k2 : Nat) (es : List El), wlk mk ws k raw = some (gs, k2, es) → VD u k raw → ws.length ≤ u → raw.length < 100000 → (∀ w ∈ ws, okW w) →
    gs.length + 1 = ws.length ∧ (k2 = 3 ∨ k2 = 4) ∧ VD (u - gs.length) k2 (encD es) ∧ els (encD es) = es ∧ (∀ es2, VD (u - gs.length) k2 (encD es2) → VD u k (plg gs (encD es2))) ∧ (∃ L, (∀ r, (plg gs r).length = r.length + L) ∧ L + (encD es).length + (ws.getLastD []).length ≤ raw.length + 7 * gs.length + lsum ws) ∧ (mk = false → plg gs (encD es) = raw) := by
  intro ws
  induction ws with
  | nil => intro k raw u gs k2 es h; cases h
  | cons w r ih =>
    intro k raw u gs k2 es h hv hu hl hw
    by_cases hc : (k = 3 ∨ k = 4) ∧ (mk = true → mayG k (els raw) w = true)
    · obtain ⟨v, rfl⟩ : ∃ v, u = v + 1 := ⟨u - 1, by rw [List.length_cons] at hu; omega⟩
      obtain ⟨hraw, hnm, hwf, hel⟩ := VD_h hc.1 hl hv
      have hb : ∀ b ∈ encs (els raw), b < 256 := by
        have := VD_b hv
        rw [hraw] at this
        exact encD_b.mp this
      have hrl : 5 + (encs (els raw)).length = raw.length := by
        have := encD_len (els raw)
        rw [← hraw] at this
        omega
      cases r with
      | nil =>
        rw [wlk, if_pos hc] at h
        obtain ⟨rfl, h2⟩ := Prod.mk.inj (Option.some.inj h)
        obtain ⟨rfl, rfl⟩ := Prod.mk.inj h2
        refine ⟨rfl, hc.1, by rw [← hraw]; exact hv, by rw [← hraw], fun es2 h2 => h2, ⟨0, fun r => rfl, ?_⟩, fun _ => hraw.symm⟩
        rw [← hraw]
        show 0 + raw.length + w.length ≤ raw.length + 7 * 0 + (w.length + 0)
        omega
      | cons v2 r =>
        have hlast : (w :: v2 :: r).getLastD [] = (v2 :: r).getLastD [] := by
          rw [List.getLastD_cons, List.getLastD_cons, List.getLastD_cons]
        have hls : lsum (w :: v2 :: r) = w.length + lsum (v2 :: r) := rfl
        rw [hlast, hls]
        have hw2 : ∀ x ∈ v2 :: r, okW x := fun x hx => hw x (List.mem_cons_of_mem _ hx)
        have hww := hw w List.mem_cons_self
        rw [List.length_cons] at hu
        cases hf : fsp w (els raw) with
        | some x =>
          obtain ⟨l1, e, l2⟩ := x
          obtain ⟨he, hew, -⟩ := fsp_some hf
          rw [wlk_f hc.1 hc.2 hf] at h
          cases hy : wlk mk (v2 :: r) e.1 e.2.2 with
          | none => rw [hy] at h; cases h
          | some y =>
            obtain ⟨y1, y2, y3⟩ := y
            rw [hy] at h
            have h2 : some ((l1, e.1, w, l2) :: y1, y2, y3) = some (gs, k2, es) := h
            obtain ⟨rfl, h3⟩ := Prod.mk.inj (Option.some.inj h2)
            obtain ⟨rfl, rfl⟩ := Prod.mk.inj h3
            have hme : e ∈ els raw := by rw [he]; simp
            have hle := el_len hme
            obtain ⟨g1, g2, g3, g4, g5, ⟨L, g6, g7⟩, g8⟩ := ih e.1 e.2.2 v y1 y2 y3 hy (hel e hme).2.2 (by omega) (by omega) hw2
            have hr2 : raw.length = 5 + ((encs l1).length + (2 + w.length + e.2.2.length + (encs l2).length)) := by
              rw [← hrl, he, encs_app, encs_cons, List.length_append, List.length_append, enc1_len, hew]
            refine ⟨by rw [List.length_cons, List.length_cons]; omega, g2, ?_, g4, fun es2 h4 => ?_, ⟨(encs l1).length + (7 + w.length + (encs l2).length + L), fun r => ?_, ?_⟩, fun hmk => ?_⟩
            · rw [List.length_cons, show v + 1 - (y1.length + 1) = v - y1.length by omega]
              exact g3
            · rw [List.length_cons, show v + 1 - (y1.length + 1) = v - y1.length by omega] at h4
              have h5 := g5 es2 h4
              rw [he] at hb hnm hel
              exact VD_mid (e2 := (e.1, w, plg y1 (encD es2))) hc.1 hb hnm hel hew.symm h5
            · rw [plg, encD_len, encs_app, encs_cons, List.length_append, List.length_append, enc1_len, g6]
              simp only
              omega
            · rw [List.length_cons]
              omega
            · rw [plg, g8 hmk, ← hew]
              rw [he] at hraw
              exact hraw.symm
        | none =>
          cases mk with
          | false =>
            rw [wlk, if_pos hc, hf] at h
            have h2 : (if false = true then (match wlk false (v2 :: r) 3 (encD []) with
              | none => none
              | some y => some ((els raw, 3, w, ([] : List El)) :: y.1, y.2)) else none) = some (gs, k2, es) := h
            rw [if_neg (by decide)] at h2
            cases h2
          | true =>
            have hm := hc.2 rfl
            rw [wlk_n hc.1 hm hf] at h
            cases hy : wlk true (v2 :: r) 3 (encD []) with
            | none => rw [hy] at h; cases h
            | some y =>
              obtain ⟨y1, y2, y3⟩ := y
              rw [hy] at h
              have h2 : some ((els raw, 3, w, []) :: y1, y2, y3) = some (gs, k2, es) := h
              obtain ⟨rfl, h3⟩ := Prod.mk.inj (Option.some.inj h2)
              obtain ⟨rfl, rfl⟩ := Prod.mk.inj h3
              have hv0 : VD v 3 (encD []) := by
                rw [List.length_cons] at hu
                rw [show v = v - 1 + 1 by omega]
                exact VD_0 _
              have e5 : (encD []).length = 5 := rfl
              obtain ⟨g1, g2, g3, g4, g5, ⟨L, g6, g7⟩, g8⟩ := ih 3 (encD []) v y1 y2 y3 hy hv0 (by omega) (by rw [e5]; omega) hw2
              rw [e5] at g7
              refine ⟨by rw [List.length_cons, List.length_cons]; omega, g2, ?_, g4, fun es2 h4 => ?_, ⟨(encs (els raw)).length + (7 + w.length + L), fun r => ?_, ?_⟩, fun hmk => absurd hmk (by decide)⟩
              · rw [List.length_cons, show v + 1 - (y1.length + 1) = v - y1.length by omega]
                exact g3
              · rw [List.length_cons, show v + 1 - (y1.length + 1) = v - y1.length by omega] at h4
                exact VD_new (w := w) (e := (3, w, plg y1 (encD es2))) hc.1 hb hnm hel (fun _ => hf) (mayG_no hm hf) hww rfl (g5 es2 h4)
              · rw [plg, encD_len, encs_app, encs_cons, List.length_append, List.length_append, enc1_len, g6]
                simp only [encs_nil, List.length_nil]
                omega
              · rw [List.length_cons]
                omega
    · rw [wlk_0 hc] at h
      cases h
theorem nd_mono {i j : Nat} (h : i ≤ j) : nd i ≤ nd j := by
  unfold nd
  repeat' split
  all_goals omega
theorem fil_len (p : El → Bool) : ∀ (es : List El) (i j : Nat), i ≤ j → (encs (rnm i (es.filter p))).length ≤ (encs (rnm j es)).length := by
  intro es
  induction es with
  | nil => intro i j _; exact Nat.le_refl _
  | cons e es ih =>
    intro i j h
    have h1 := dg_len i
    have h2 := dg_len j
    have h3 := nd_mono h
    rw [List.filter_cons, rnm, encs_cons, List.length_append, enc1_len]
    split
    · have := ih (i + 1) (j + 1) (by omega)
      rw [rnm, encs_cons, List.length_append, enc1_len]
      simp only
      omega
    · have := ih i (j + 1) (by omega)
      omega
theorem rnm_el {P : El → Prop} (hP : ∀ (x : El) (i : Nat), P x → P (x.1, dg i, x.2.2)) : ∀ (es : List El) (i : Nat), (∀ x ∈ es, P x) → ∀ x ∈ rnm i es, P x := by
  intro es
  induction es with
  | nil => intro i _ x hx; exact absurd hx (by simp [rnm])
  | cons e es ih =>
    intro i h x hx
    rw [rnm] at hx
    rcases List.mem_cons.mp hx with rfl | hx
    · exact hP e i (h e List.mem_cons_self)
    · exact ih (i + 1) (fun y hy => h y (List.mem_cons_of_mem _ hy)) x hx
theorem encs_all {es : List El} (h : ∀ e ∈ es, e.1 < 256 ∧ (∀ b ∈ e.2.1, b < 256) ∧ ∀ b ∈ e.2.2, b < 256) : ∀ b ∈ encs es, b < 256 := by
  induction es with
  | nil => intro b hb; exact absurd hb (by simp [encs])
  | cons e es ih => exact encs_bc.mpr ⟨h e List.mem_cons_self, ih (fun x hx => h x (List.mem_cons_of_mem _ hx))⟩
theorem fnE_VD {op k u : Nat} {a : El} {es r : List El} {w : List Nat} (hop : 1 ≤ op ∧ op ≤ 6) (hk : k = 3 ∨ k = 4) (h : VD (u + 1) k (encD es)) (hels : els (encD es) = es) (hl : (encD es).length < 100000) (hu : 15 ≤ u) (ha : VD 14 a.1 a.2.2) (hw : okW w) (hm : op ≠ 2 → op ≠ 5 → mayG k es w = true) (hr : fnE op a k es w = (0, r)) : VD (u + 1) k (encD r) ∧ (encD r).length ≤ (encD es).length + 10 + w.length + a.2.2.length := by
  obtain ⟨-, hn, hwf, hel⟩ := VD_h hk hl h
  rw [hels] at hn hwf hel
  have hb := encD_b.mp (VD_b h)
  have l0 := encD_len es
  have ha2 : VD u a.1 a.2.2 := VD_to (by omega) ha
  rw [fnE] at hr
  cases hf : fsp w es with
  | none =>
    rw [hf] at hr
    have hr2 : (if op = 2 ∨ op = 5 then ((0 : Nat), es) else (0, es ++ [nwE op a w])) = (0, r) := hr
    by_cases h25 : op = 2 ∨ op = 5
    · rw [if_pos h25] at hr2
      have := (Prod.mk.inj hr2).2
      subst this
      exact ⟨h, by omega⟩
    · rw [if_neg h25] at hr2
      have := (Prod.mk.inj hr2).2
      subst this
      have hm2 := hm (by omega) (by omega)
      have l1 := encD_len (es ++ [nwE op a w])
      rw [encs_app, encs_cons, List.length_append, List.length_append, enc1_len, encs_nil, List.length_nil] at l1
      by_cases h46 : op = 4 ∨ op = 6
      · have hnw : nwE op a w = (4, w, encD [(a.1, dg 0, a.2.2)]) := by rw [nwE, if_pos h46]
        have l2 := encD_len [(a.1, dg 0, a.2.2)]
        rw [encs_cons, List.length_append, enc1_len, encs_nil, List.length_nil] at l2
        have l3 : (dg 0).length = 1 := by rw [dg_len]; rfl
        have hv : VD u 4 (encD [(a.1, dg 0, a.2.2)]) := by
          rw [show u = u - 1 + 1 by omega]
          have := VD_new (u := u - 1) (k := 4) (es := []) (w := dg 0) (e := (a.1, dg 0, a.2.2)) (Or.inr rfl) (by simp [encs]) ⟨fun c => absurd c (by decide), fun _ => rfl⟩ (fun x hx => absurd hx (by simp)) (fun c => absurd c (by decide)) (fun _ => rfl) (okW_dg 0) rfl (VD_to (by omega) ha)
          exact this
        rw [hnw] at l1 ⊢
        refine ⟨VD_new hk hb hn hel (fun _ => hf) (mayG_no hm2 hf) hw rfl hv, ?_⟩
        simp only at l1 l2
        omega
      · have hnw : nwE op a w = (a.1, w, a.2.2) := by rw [nwE, if_neg h46]
        rw [hnw] at l1 ⊢
        refine ⟨VD_new hk hb hn hel (fun _ => hf) (mayG_no hm2 hf) hw rfl ha2, ?_⟩
        simp only at l1
        omega
  | some x =>
    obtain ⟨l1, e, l2⟩ := x
    obtain ⟨he, hew, -⟩ := fsp_some hf
    rw [hf] at hr
    have hr2 : chE op a k l1 e l2 = (0, r) := hr
    subst he
    have hee := hel e (by simp)
    rw [encs_app, encs_cons, List.length_append, List.length_append, enc1_len, hew] at l0
    have lm : ∀ e2 : El, e2.2.1 = w → (encD (l1 ++ e2 :: l2)).length = 5 + ((encs l1).length + (2 + w.length + e2.2.2.length + (encs l2).length)) := fun e2 h2 => by
      rw [encD_len, encs_app, encs_cons, List.length_append, List.length_append, enc1_len, h2]
    have mid : ∀ e2 : El, e2.2.1 = w → VD u e2.1 e2.2.2 → VD (u + 1) k (encD (l1 ++ e2 :: l2)) := fun e2 h2 hv => VD_mid hk hb hn hel (h2.trans hew.symm) hv
    rw [chE] at hr2
    split at hr2
    · have := (Prod.mk.inj hr2).2
      subst this
      refine ⟨mid (a.1, e.2.1, a.2.2) hew ha2, ?_⟩
      have lx := lm (a.1, e.2.1, a.2.2) hew
      dsimp only at lx
      omega
    · split at hr2
      · split at hr2
        · rename_i k3
          have := (Prod.mk.inj hr2).2
          subst this k3
          obtain ⟨e1, e3⟩ := encs_b.mp hb
          obtain ⟨e4, e5⟩ := encs_bc.mp e3
          refine ⟨VD_mk hk (encs_b.mpr ⟨e1, e5⟩) (nmK_del hn) (fun x hx => hel x ?_), ?_⟩
          · rcases List.mem_append.mp hx with hx | hx
            · exact List.mem_append_left _ hx
            · simp [hx]
          · rw [encD_len, encs_app, List.length_append]
            omega
        · have := (Prod.mk.inj hr2).2
          subst this
          refine ⟨mid (10, e.2.1, []) hew ?_, ?_⟩
          · rw [show u = u - 1 + 1 by omega]
            exact ⟨fun b hb => absurd hb (by simp), Or.inl (Or.inr (Or.inr (Or.inr (Or.inl ⟨rfl, rfl⟩))))⟩
          · have lx := lm (10, e.2.1, []) hew
            dsimp only at lx
            rw [List.length_nil] at lx
            omega
      · split at hr2
        · split at hr2
          · split at hr2
            · exact absurd (Prod.mk.inj hr2).1 (by decide)
            · have := (Prod.mk.inj hr2).2
              subst this
              generalize nvR e.1 e.2.2 + nvR a.1 a.2.2 = v
              have hkv : sumK e.1 a.1 v = 16 ∨ sumK e.1 a.1 v = 18 := by rw [sumK]; split <;> omega
              generalize sumK e.1 a.1 v = kk at *
              have hle : (numR kk v).length ≤ 8 := by
                rw [numR]
                split
                · rw [lw_len]; omega
                · rw [lw_len]; omega
              have hbn : ∀ b ∈ numR kk v, b < 256 := by
                unfold numR
                split
                · exact lw_b v 4
                · exact lw_b v 8
              have hlf : lfR kk (numR kk v) := by
                rcases hkv with rfl | rfl
                · exact Or.inl ⟨rfl, lw_len v 4⟩
                · exact Or.inr (Or.inl ⟨rfl, lw_len v 8⟩)
              refine ⟨mid (kk, e.2.1, numR kk v) hew ?_, ?_⟩
              · rw [show u = u - 1 + 1 by omega]
                exact ⟨hbn, Or.inl hlf⟩
              · have lx := lm (kk, e.2.1, numR kk v) hew
                dsimp only at lx
                omega
          · exact absurd (Prod.mk.inj hr2).1 (by decide)
        · split at hr2
          · exact absurd (Prod.mk.inj hr2).1 (by decide)
          · rename_i h4
            have e4 : e.1 = 4 := Decidable.not_not.mp h4
            obtain ⟨v, rfl⟩ : ∃ v, u = v + 1 := ⟨u - 1, by omega⟩
            have hve := hee.2.2
            rw [e4] at hve
            have hle : e.2.2.length < 100000 := by omega
            obtain ⟨hraw4, hn4, hwf4, hel4⟩ := VD_h (Or.inr rfl) hle hve
            have hb4 : ∀ b ∈ encs (els e.2.2), b < 256 := by
              have := VD_b hve
              rw [hraw4] at this
              exact encD_b.mp this
            have l4 := encD_len (els e.2.2)
            rw [← hraw4] at l4
            split at hr2
            · have := (Prod.mk.inj hr2).2
              subst this
              have l5 := fil_len (fun x => !sameV 24 x.1 x.2.2 a.1 a.2.2) (els e.2.2) 0 0 (Nat.le_refl _)
              rw [hn4.2 rfl] at l5
              refine ⟨mid (4, e.2.1, _) hew (VD_mk (Or.inr rfl) ?_ ⟨fun c => absurd c (show ¬ (4 : Nat) = 3 by decide), fun _ => rnm_rnm _ _ _⟩ ?_), ?_⟩
              · refine encs_all (rnm_el (P := fun e => e.1 < 256 ∧ (∀ b ∈ e.2.1, b < 256) ∧ ∀ b ∈ e.2.2, b < 256) (fun x i hx => ⟨hx.1, fun b hb => by have := dg_b i b hb; omega, hx.2.2⟩) _ 0 (fun x hx => ?_))
                have hx2 := (List.mem_filter.mp hx).1
                have hv2 := (hel4 x hx2).2.2
                refine ⟨VD_k hv2, fun b hb2 => ?_, VD_b hv2⟩
                obtain ⟨q1, x2, q3, q4, -⟩ := cut_at (es := els e.2.2) (v := 0) (by cases hz : els e.2.2 with
                  | nil => rw [hz] at hx2; simp at hx2
                  | cons => simp)
                obtain ⟨s1, s2, hs12⟩ := List.append_of_mem hx2
                rw [hs12] at hb4
                exact (encs_bc.mp (encs_b.mp hb4).2).1.2.1 b hb2
              · refine rnm_el (P := fun e => (∀ b ∈ e.2.1, b ≠ 0) ∧ rt e.2.1 = true ∧ VD v e.1 e.2.2) (fun x i hx => ⟨fun b hb => ((okW_dg i).1 b hb).1, (okW_dg i).2, hx.2.2⟩) _ 0 (fun x hx => hel4 x (List.mem_filter.mp hx).1)
              · have lx := lm (4, e.2.1, encD (rnm 0 ((els e.2.2).filter (fun x => !sameV 24 x.1 x.2.2 a.1 a.2.2)))) hew
                dsimp only at lx
                have ly := encD_len (rnm 0 ((els e.2.2).filter (fun x => !sameV 24 x.1 x.2.2 a.1 a.2.2)))
                omega
            · split at hr2
              · have := (Prod.mk.inj hr2).2
                subst this
                exact ⟨h, by omega⟩
              · have := (Prod.mk.inj hr2).2
                subst this
                have l5 := encD_len (els e.2.2 ++ [(a.1, dg (els e.2.2).length, a.2.2)])
                rw [encs_app, encs_cons, List.length_append, List.length_append, enc1_len, encs_nil, List.length_nil] at l5
                have l6 := dg_len (els e.2.2).length
                have l7 := nd_le (els e.2.2).length
                refine ⟨mid (4, e.2.1, _) hew (VD_new (w := dg (els e.2.2).length) (Or.inr rfl) hb4 hn4 hel4 (fun c => absurd c (show ¬ (4 : Nat) = 3 by decide)) (fun _ => rfl) (okW_dg _) rfl (VD_to (by omega) ha)), ?_⟩
                have lx := lm (4, e.2.1, encD (els e.2.2 ++ [(a.1, dg (els e.2.2).length, a.2.2)])) hew
                dsimp only at lx
                dsimp only at l5
                omega
theorem doP_ok {op : Nat} {a : El} {raw : List Nat} (hop : 1 ≤ op ∧ op ≤ 6) (h : VD 24 3 raw) (hl : raw.length < 50000) (hal : a.2.1.length < 10000) (ha : VD 14 a.1 a.2.2) (hn : okW a.2.1) (hsp : spOK a.2.1) (h0 : (doP op a raw).1 = 0) : VD 24 3 (doP op a raw).2 ∧ (doP op a raw).2.length ≤ raw.length + 4 * (2 + a.2.1.length + a.2.2.length) := by
  rw [doP] at h0 ⊢
  have hlen := stp_len a.2.1
  have hge := lsum_ge hsp.1
  have hne := stp_ne a.2.1
  have hw : ∀ w ∈ stp a.2.1, okW w := fun w hw => ⟨fun b hb => hn.1 b (stp_in hw b hb), stp_rt hn.2 hw⟩
  have h8 := hsp.2
  cases hy : wlk (decide (op ≠ 2 ∧ op ≠ 5)) (stp a.2.1) 3 raw with
  | none =>
    rw [hy] at h0
    exact ⟨h, by show raw.length ≤ _; omega⟩
  | some x =>
    obtain ⟨gs, k2, es⟩ := x
    rw [hy] at h0
    obtain ⟨g1, g2, g3, g4, g5, ⟨L, g6, g7⟩, -⟩ := wlk_pure (stp a.2.1) 3 raw 24 gs k2 es hy h (by omega) (by omega) hw
    have hlast : (stp a.2.1).getLastD [] ∈ stp a.2.1 := by
      have := last_at hne
      exact List.mem_of_getElem? this
    generalize hwl : (stp a.2.1).getLastD [] = w at *
    cases hr : fnE op a k2 es w with
    | mk f0 r =>
      have h00 : (fnE op a k2 es w).1 = 0 := h0
      rw [hr] at h00
      have hf0 : f0 = 0 := h00
      subst hf0
      have hlen2 := g6 (encD es)
      obtain ⟨q1, q2⟩ := fnE_VD (u := 24 - gs.length - 1) hop g2 (by rw [show 24 - gs.length - 1 + 1 = 24 - gs.length by omega]; exact g3) g4 (by omega) (by omega) ha (hw w hlast) (fun c1 c2 => by
        rw [decide_eq_true ⟨c1, c2⟩] at hy
        have := wlk_may hy
        rw [hwl] at this
        exact this) hr
      rw [show 24 - gs.length - 1 + 1 = 24 - gs.length by omega] at q1
      show VD 24 3 (plg gs (encD (fnE op a k2 es w).2)) ∧ (plg gs (encD (fnE op a k2 es w).2)).length ≤ _
      rw [hr]
      refine ⟨g5 r q1, ?_⟩
      rw [g6]
      show (encD r).length + L ≤ _
      omega
/-- the paths of one operator: the fault, where; how many changed something; the document then -/
def rnP (op : Nat) : List El → Nat → Nat → List Nat → Nat × Nat × Nat × List Nat
  | [], p, m, raw => (0, p, m, raw)
  | a :: r, p, m, raw => if (doP op a raw).1 = 0 then rnP op r (p + 1) (m + (if (doP op a raw).2 = raw then 0 else 1)) (doP op a raw).2 else ((doP op a raw).1, p, m, raw)
/-- all operators: the fault, the operator, the path; how many changed something; the document then -/
def rnO : List El → Nat → Nat → List Nat → Nat × Nat × Nat × Nat × List Nat
  | [], o, m, raw => (0, o, 0, m, raw)
  | e :: r, o, m, raw => if (rnP (opOf e.2.1) (els e.2.2) 0 m raw).1 = 0 then rnO r (o + 1) (rnP (opOf e.2.1) (els e.2.2) 0 m raw).2.2.1 (rnP (opOf e.2.1) (els e.2.2) 0 m raw).2.2.2 else ((rnP (opOf e.2.1) (els e.2.2) 0 m raw).1, o, (rnP (opOf e.2.1) (els e.2.2) 0 m raw).2)
