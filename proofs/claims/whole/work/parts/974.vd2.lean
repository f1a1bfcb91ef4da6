/-! documents as the check has them are valid values, and the other way round -/
theorem le4_u5 {v : List Nat} (hl : 4 ≤ v.length) (hb : ∀ b ∈ v, b < 256) : v = le4 (u4 v 0) ++ v.drop 4 := by
  match v, hl with
  | a :: b :: c :: e :: r, _ =>
    have ha := hb a (by simp)
    have hb1 := hb b (by simp)
    have hc := hb c (by simp)
    have he := hb e (by simp)
    have hu : u4 (a :: b :: c :: e :: r) 0 = a + 256 * b + 65536 * c + 16777216 * e := rfl
    have q1 : (a + 256 * b + 65536 * c + 16777216 * e) % 256 = a := by omega
    have q2 : (a + 256 * b + 65536 * c + 16777216 * e) / 256 % 256 = b := by omega
    have q3 : (a + 256 * b + 65536 * c + 16777216 * e) / 65536 % 256 = c := by omega
    have q4 : (a + 256 * b + 65536 * c + 16777216 * e) / 16777216 % 256 = e := by omega
    rw [hu, le4, q1, q2, q3, q4]
    rfl
theorem sl_end {v : List Nat} {p : Nat} (hp1 : p < v.length) (h0 : v.getD (v.length - 1) 1 = 0) : v.drop p = slice v p (v.length - 1) ++ [0] := by
  have e1 : v.drop p = slice v p v.length := by rw [slice, List.take_of_length_le (by rw [List.length_drop]; omega)]
  have e2 : v.getD (v.length - 1) 0 = 0 := by
    rw [List.getD_eq_getElem?_getD, List.getElem?_eq_getElem (by omega)] at h0 ⊢
    exact h0
  rw [e1, ← sl_app (l := v) (a := p) (b := v.length - 1) (c := v.length) (by omega) (by omega), sl_cons (a := v.length - 1) (b := v.length) (by omega) (Nat.le_refl _), sl_nil (a := v.length - 1 + 1) (b := v.length) (by omega), e2]
theorem doc_split {v : List Nat} {es : List El} (h5 : 5 ≤ v.length) (hu : u4 v 0 = v.length) (hb : ∀ b ∈ v, b < 256) (h0 : v.getD (v.length - 1) 1 = 0) (he : encs es = slice v 4 (v.length - 1)) : v = encD es := by
  have hl : (encs es).length = v.length - 5 := by rw [he, slice_len (by omega)]; omega
  rw [encD, hl, show 5 + (v.length - 5) = v.length by omega, he, ← sl_end (by omega) h0]
  have := le4_u5 (by omega) hb
  rw [hu] at this
  exact this
theorem sl_mem {l : List Nat} {a b x : Nat} (h : x ∈ slice l a b) : x ∈ l := List.mem_of_mem_drop (List.mem_of_mem_take h)
theorem tw_nz : ∀ (l : List Nat), ∀ b ∈ l.takeWhile (fun b => b != 0), b ≠ 0 := by
  intro l
  induction l with
  | nil => intro b hb; simp at hb
  | cons a l ih =>
    intro b hb
    by_cases c : a = 0
    · subst c
      rw [List.takeWhile_cons_of_neg (by simp)] at hb
      simp at hb
    · rw [List.takeWhile_cons_of_pos (by simpa using c)] at hb
      rcases List.mem_cons.mp hb with rfl | hb
      · exact c
      · exact ih b hb
theorem spl_some {l nm r : List Nat} (h : spl l = some (nm, r)) : l = nm ++ 0 :: r ∧ ∀ b ∈ nm, b ≠ 0 := by
  rw [spl] at h
  split at h
  · rename_i hl
    obtain ⟨h1, h2⟩ := Prod.mk.inj (Option.some.inj h)
    generalize hn : (l.takeWhile (fun b => b != 0)).length = n at *
    have ht : l.takeWhile (fun b => b != 0) = l.take n := by
      have := List.prefix_iff_eq_take.mp (List.takeWhile_prefix (fun b => b != 0) (l := l))
      rw [hn] at this
      exact this
    have hz : l[n]'hl = 0 := by
      have h5 := List.takeWhile_append_dropWhile (p := fun b => b != 0) (l := l)
      cases hd : l.dropWhile (fun b => b != 0) with
      | nil =>
        rw [hd, List.append_nil] at h5
        rw [h5] at hn
        omega
      | cons x xs =>
        have hx : (x != 0) = false := by
          have := List.head?_dropWhile_not (fun b => b != 0) l
          rw [hd] at this
          simpa using this
        have h6 : l[n]? = some x := by
          rw [← h5, hd, List.getElem?_append_right (by omega), hn, Nat.sub_self]
          rfl
        rw [List.getElem?_eq_getElem hl] at h6
        have := Option.some.inj h6
        rw [this]
        simpa using hx
    subst h1 h2
    refine ⟨?_, fun b hb => ?_⟩
    · rw [ht, ← hz, List.getElem_cons_drop, List.take_append_drop]
    · exact tw_nz l b hb
  · cases h
theorem lf_vchk {ph : Nat → List Nat → Bool} {k : Nat} {raw m : List Nat} (hl : raw.length < 4294967296) (h : lfR k raw) : vchk ph k (raw ++ m) = some raw.length := by
  rcases h with ⟨rfl, h⟩ | ⟨rfl, h⟩ | ⟨rfl, b, hb, rfl⟩ | ⟨rfl, rfl⟩ | ⟨rfl, tx, rfl, ht⟩
  · rw [vchk, if_pos rfl, if_pos (by rw [List.length_append]; omega), h]
  · rw [vchk, if_neg (by decide), if_pos rfl, if_pos (by rw [List.length_append]; omega), h]
  · rw [vchk, if_neg (by decide), if_neg (by decide), if_pos rfl, if_pos ⟨by simp, by simpa using hb⟩]
    rfl
  · rw [vchk, if_neg (by decide), if_neg (by decide), if_neg (by decide), if_pos rfl]
    rfl
  · have e1 : (le4 (tx.length + 1) ++ (tx ++ [0])).length = 5 + tx.length := by simp [le4_len]; omega
    rw [e1] at hl
    have e2 : le4 (tx.length + 1) ++ (tx ++ [0]) ++ m = le4 (tx.length + 1) ++ (tx ++ 0 :: m) := by simp
    have e3 : u4 (le4 (tx.length + 1) ++ (tx ++ 0 :: m)) 0 = tx.length + 1 := u4_le4 (by omega) _
    rw [vchk, if_neg (by decide), if_neg (by decide), if_neg (by decide), if_neg (by decide), if_pos rfl, e2, tchk, e3]
    rw [if_pos, e1]
    · congr 1
      omega
    · refine ⟨by rw [List.length_append, le4_len]; omega, by omega, by rw [List.length_append, le4_len, List.length_append, List.length_cons]; omega, ?_, ?_⟩
      · rw [getD_app_r' (k := tx.length) (by rw [le4_len]; omega), getD_app_r' (k := 0) (by omega)]
        rfl
      · have : slice (le4 (tx.length + 1) ++ (tx ++ 0 :: m)) 4 (3 + (tx.length + 1)) = tx := by
          rw [slice, List.drop_left' (le4_len _), show 3 + (tx.length + 1) - 4 = tx.length by omega, List.take_left]
        rw [this]
        exact ht
theorem vchk_lf {ph : Nat → List Nat → Bool} {k n : Nat} {r : List Nat} (hb : ∀ b ∈ r, b < 256) (hk : ¬ (k = 3 ∨ k = 4)) (h : vchk ph k r = some n) : lfR k (r.take n) ∧ n ≤ r.length := by
  rw [vchk] at h
  split at h
  · rename_i c
    split at h
    · have := Option.some.inj h
      subst this c
      exact ⟨Or.inl ⟨rfl, by rw [List.length_take]; omega⟩, by omega⟩
    · cases h
  · split at h
    · rename_i c
      split at h
      · have := Option.some.inj h
        subst this c
        exact ⟨Or.inr (Or.inl ⟨rfl, by rw [List.length_take]; omega⟩), by omega⟩
      · cases h
    · split at h
      · rename_i c
        split at h
        · rename_i c2
          have := Option.some.inj h
          subst this c
          refine ⟨Or.inr (Or.inr (Or.inl ⟨rfl, r.getD 0 0, c2.2, ?_⟩)), c2.1⟩
          cases r with
          | nil => simp at c2
          | cons x r => rfl
        · cases h
      · split at h
        · rename_i c
          have := Option.some.inj h
          subst this c
          exact ⟨Or.inr (Or.inr (Or.inr (Or.inl ⟨rfl, rfl⟩))), by omega⟩
        · split at h
          · rename_i c
            rw [tchk] at h
            split at h
            · rename_i c2
              have := Option.some.inj h
              subst c
              obtain ⟨d1, d2, d3, d4, d5⟩ := c2
              refine ⟨Or.inr (Or.inr (Or.inr (Or.inr ⟨rfl, slice r 4 (3 + u4 r 0), ?_, d5⟩))), by omega⟩
              have e1 : (slice r 4 (3 + u4 r 0)).length + 1 = u4 r 0 := by rw [slice_len (by omega)]; omega
              rw [e1, ← this]
              have e2 := le4_u5 (v := r) (by omega) hb
              have e3 : slice r 4 (3 + u4 r 0) ++ [0] = (r.drop 4).take (u4 r 0) := by
                have e4 : (r.drop 4).take (u4 r 0) = slice r 4 (4 + u4 r 0) := by rw [slice]; congr 1; omega
                rw [e4, ← sl_app (l := r) (a := 4) (b := 3 + u4 r 0) (c := 4 + u4 r 0) (by omega) (by omega), sl_cons (l := r) (a := 3 + u4 r 0) (b := 4 + u4 r 0) (by omega) (by omega), sl_nil (l := r) (a := 3 + u4 r 0 + 1) (b := 4 + u4 r 0) (by omega), d4]
              rw [e3]
              generalize u4 r 0 = u at *
              conv => lhs; rw [e2]
              rw [List.take_append, List.take_of_length_le (by rw [le4_len]; omega), le4_len, show 4 + u - 4 = u by omega]
            · cases h
          · cases h
theorem okE_VD {t k : Nat} (ih : ∀ k2 v, (k2 = 3 ∨ k2 = 4) → (∀ b ∈ v, b < 256) → 5 ≤ v.length → u4 v 0 = v.length → okH t k2 v = true → VD t k2 v) : ∀ (f : Nat) (seen : List (List Nat)) (l : List Nat), (∀ b ∈ l, b < 256) → okE (okH t) k f seen l = true → ∃ es, encs es = l ∧ (∀ e ∈ es, (∀ b ∈ e.2.1, b ≠ 0) ∧ rt e.2.1 = true ∧ VD t e.1 e.2.2) ∧ (k ≠ 4 → (es.map (fun e => e.2.1)).Nodup ∧ ∀ e ∈ es, e.2.1 ∉ seen) ∧ (k = 4 → rnm seen.length es = es) := by
  intro f
  induction f with
  | zero =>
    intro seen l hb h
    have : l = [] := of_decide_eq_true h
    subst this
    exact ⟨[], rfl, fun e he => absurd he (by simp), fun _ => ⟨by simp, fun e he => absurd he (by simp)⟩, fun _ => rfl⟩
  | succ f ihf =>
    intro seen l hb h
    cases l with
    | nil => exact ⟨[], rfl, fun e he => absurd he (by simp), fun _ => ⟨by simp, fun e he => absurd he (by simp)⟩, fun _ => rfl⟩
    | cons b r =>
      rw [okE_cons] at h
      cases hs : spl r with
      | none => rw [hs] at h; cases h
      | some x =>
        obtain ⟨nm, r2⟩ := x
        rw [hs] at h
        obtain ⟨hr, hz⟩ := spl_some hs
        have h2 : (rt nm && (nmOK k seen nm && (match vchk (okH t) b r2 with
          | none => false
          | some n => okE (okH t) k f (seen ++ [nm]) (r2.drop n)))) = true := h
        rw [Bool.and_eq_true, Bool.and_eq_true] at h2
        obtain ⟨h3, h4, h5⟩ := h2
        cases hv : vchk (okH t) b r2 with
        | none => rw [hv] at h5; cases h5
        | some n =>
          rw [hv] at h5
          have h6 : okE (okH t) k f (seen ++ [nm]) (r2.drop n) = true := h5
          have hb2 : ∀ x ∈ r2, x < 256 := fun x hx => hb x (by rw [hr]; simp [hx])
          obtain ⟨es, e1, e2, e3, e4⟩ := ihf _ _ (fun x hx => hb2 x (List.mem_of_mem_drop hx)) h6
          have hvd : VD t b (r2.take n) ∧ n ≤ r2.length := by
            by_cases hk : b = 3 ∨ b = 4
            · rw [vchk_h hk, hchk] at hv
              split at hv
              · rename_i c
                have := Option.some.inj hv
                subst this
                refine ⟨ih b _ hk (fun x hx => hb2 x (List.mem_of_mem_take hx)) (by rw [List.length_take]; omega) ?_ c.2.2.2, c.2.2.1⟩
                rw [List.length_take, Nat.min_eq_left c.2.2.1]
                have := u4_pre (r := r2.take (u4 r2 0)) (m := r2.drop (u4 r2 0)) (by rw [List.length_take]; omega)
                rw [List.take_append_drop] at this
                exact this.symm
              · cases hv
            · obtain ⟨y1, y2⟩ := vchk_lf hb2 hk hv
              refine ⟨?_, y2⟩
              cases t with
              | zero => exact ⟨fun x hx => hb2 x (List.mem_of_mem_take hx), y1⟩
              | succ t => exact ⟨fun x hx => hb2 x (List.mem_of_mem_take hx), Or.inl y1⟩
          refine ⟨(b, nm, r2.take n) :: es, ?_, ?_, ?_, ?_⟩
          · rw [encs_cons, e1, enc1, hr]
            simp
          · intro e he
            rcases List.mem_cons.mp he with rfl | he
            · exact ⟨hz, h3, hvd.1⟩
            · exact e2 e he
          · intro hk4
            obtain ⟨g1, g2⟩ := e3 hk4
            have hnm : nm ∉ seen := by
              rw [nmOK, if_neg hk4] at h4
              exact of_decide_eq_true h4
            refine ⟨?_, fun e he => ?_⟩
            · rw [List.map_cons]
              refine List.nodup_cons.mpr ⟨fun z => ?_, g1⟩
              obtain ⟨e, he, hen⟩ := List.mem_map.mp z
              exact g2 e he (by rw [hen]; simp)
            · rcases List.mem_cons.mp he with rfl | he
              · exact hnm
              · exact fun z => g2 e he (by simp [z])
          · intro hk4
            have hnm : nm = dg seen.length := by
              rw [nmOK, if_pos hk4] at h4
              exact of_decide_eq_true h4
            have e5 := e4 hk4
            rw [List.length_append, List.length_singleton] at e5
            rw [rnm, e5, hnm]
theorem okH_VD : ∀ (t k : Nat) (v : List Nat), (k = 3 ∨ k = 4) → (∀ b ∈ v, b < 256) → 5 ≤ v.length → u4 v 0 = v.length → okH t k v = true → VD t k v := by
  intro t
  induction t with
  | zero => intro k v _ _ _ _ h; cases h
  | succ t ih =>
    intro k v hk hb h5 hu h
    rw [okH, Bool.and_eq_true] at h
    obtain ⟨h0, h1⟩ := h
    have h2 := of_decide_eq_true h0
    obtain ⟨es, e1, e2, e3, e4⟩ := okE_VD ih v.length [] _ (fun b hb2 => hb b (sl_mem hb2)) h1
    have hv := doc_split h5 hu hb h2 e1
    rw [hv]
    refine VD_mk hk ?_ ⟨fun c => (e3 (by omega)).1, fun c => e4 c⟩ e2
    rw [e1]
    exact fun b hb2 => hb b (sl_mem hb2)
theorem okD_VD {v : List Nat} (hb : ∀ b ∈ v, b < 256) (h : okD v = true) : VD 16 3 v := by
  rw [okD, Bool.and_eq_true] at h
  have h1 := of_decide_eq_true h.1
  exact okH_VD 16 3 v (Or.inl rfl) hb h1.1 h1.2 h.2
theorem VD_vchk {t : Nat} (ih : ∀ k2 es, (k2 = 3 ∨ k2 = 4) → (encD es).length < 2000000000 → VD t k2 (encD es) → okH t k2 (encD es) = true) {k : Nat} {raw m : List Nat} (hl : raw.length < 2000000000) (h : VD t k raw) : vchk (okH t) k (raw ++ m) = some raw.length := by
  have holder : ∀ es : List El, (k = 3 ∨ k = 4) → raw = encD es → vchk (okH t) k (raw ++ m) = some raw.length := by
    intro es hk he
    subst he
    have e1 := encD_len es
    have hu := u4_encD (es := es) (by omega) m
    rw [vchk_h hk, hchk, hu, if_pos]
    · rw [e1]
    · refine ⟨by rw [List.length_append]; omega, by omega, by rw [List.length_append]; omega, ?_⟩
      rw [← e1, List.take_left]
      exact ih k es hk hl h
  cases t with
  | zero => exact lf_vchk (by omega) h.2
  | succ t =>
    have h2 := h.2
    rcases h2 with h2 | ⟨hk, es, he, -⟩
    · exact lf_vchk (by omega) h2
    · exact holder es hk he
theorem VD_okE {t k : Nat} (ih : ∀ k2 es, (k2 = 3 ∨ k2 = 4) → (encD es).length < 2000000000 → VD t k2 (encD es) → okH t k2 (encD es) = true) : ∀ (es : List El) (f : Nat) (seen : List (List Nat)), (encs es).length ≤ f → (encs es).length < 2000000000 → (∀ e ∈ es, (∀ b ∈ e.2.1, b ≠ 0) ∧ rt e.2.1 = true ∧ VD t e.1 e.2.2) → (k ≠ 4 → (es.map (fun e => e.2.1)).Nodup ∧ ∀ e ∈ es, e.2.1 ∉ seen) → (k = 4 → rnm seen.length es = es) → okE (okH t) k f seen (encs es) = true := by
  intro es
  induction es with
  | nil =>
    intro f seen _ _ _ _ _
    cases f with
    | zero => rfl
    | succ f => rfl
  | cons e es ihe =>
    intro f seen hf hl h1 h3 h4
    rw [encs_cons, List.length_append, enc1_len] at hf hl
    cases f with
    | zero => omega
    | succ f =>
      obtain ⟨g1, g2, g3⟩ := h1 e List.mem_cons_self
      have e1 : encs (e :: es) = e.1 :: (e.2.1 ++ 0 :: (e.2.2 ++ encs es)) := by rw [encs_cons, enc1]; simp
      rw [e1, okE_cons, spl_nm g1]
      show (rt e.2.1 && (nmOK k seen e.2.1 && (match vchk (okH t) e.1 (e.2.2 ++ encs es) with
          | none => false
          | some n => okE (okH t) k f (seen ++ [e.2.1]) ((e.2.2 ++ encs es).drop n)))) = true
      rw [VD_vchk ih (by omega) g3, g2]
      have hn : nmOK k seen e.2.1 = true := by
        rw [nmOK]
        split
        · rename_i c
          have := h4 c
          rw [rnm] at this
          have h5 := (List.cons.inj this).1
          refine decide_eq_true ?_
          rw [← h5]
        · rename_i c
          exact decide_eq_true ((h3 c).2 e List.mem_cons_self)
      rw [hn]
      show okE (okH t) k f (seen ++ [e.2.1]) ((e.2.2 ++ encs es).drop e.2.2.length) = true
      rw [List.drop_left]
      refine ihe f _ (by omega) (by omega) (fun x hx => h1 x (List.mem_cons_of_mem _ hx)) (fun c => ?_) (fun c => ?_)
      · obtain ⟨y1, y2⟩ := h3 c
        rw [List.map_cons] at y1
        obtain ⟨y3, y4⟩ := List.nodup_cons.mp y1
        refine ⟨y4, fun x hx z => ?_⟩
        rcases List.mem_append.mp z with z | z
        · exact y2 x (List.mem_cons_of_mem _ hx) z
        · rw [List.mem_singleton] at z
          exact y3 (by rw [← z]; exact List.mem_map_of_mem hx)
      · have := h4 c
        rw [rnm] at this
        rw [List.length_append, List.length_singleton]
        exact (List.cons.inj this).2
theorem VD_okH : ∀ (t k : Nat) (es : List El), (k = 3 ∨ k = 4) → (encD es).length < 2000000000 → VD t k (encD es) → okH t k (encD es) = true := by
  intro t
  induction t with
  | zero => intro k es hk _ h; exact absurd hk (lfR_k h.2).2
  | succ t ih =>
    intro k es hk hl h
    have e0 := encD_len es
    rcases h.2 with h2 | ⟨-, es2, he, hn, hel⟩
    · exact absurd hk (lfR_k h2).2
    · rw [he] at hl e0 ⊢
      have e1 := encD_len es2
      rw [okH, sl_encD, Bool.and_eq_true]
      refine ⟨decide_eq_true ?_, VD_okE ih es2 _ [] (by omega) (by omega) hel (fun c => ⟨hn.1 (by omega), fun e _ => by simp⟩) hn.2⟩
      rw [e1, encD, List.getD_eq_getElem?_getD, ← List.append_assoc, List.getElem?_append_right (by rw [List.length_append, le4_len]; omega), List.length_append, le4_len, show 5 + (encs es2).length - 1 - (4 + (encs es2).length) = 0 by omega]
      rfl
theorem VD_okD {v : List Nat} (hl : v.length < 2000000000) (h : VD 16 3 v) : okD v = true := by
  rcases h.2 with h2 | ⟨-, es, he, -⟩
  · exact absurd (Or.inl rfl) (lfR_k h2).2
  · subst he
    have e1 := encD_len es
    have hu := u4_encD (es := es) (by omega) []
    rw [List.append_nil] at hu
    rw [okD, Bool.and_eq_true]
    exact ⟨decide_eq_true ⟨by omega, by omega⟩, VD_okH 16 3 es (Or.inl rfl) hl h⟩
/-- how deep a value is bounds the levels that it needs -/
theorem VD_dep : ∀ (t u k : Nat) (raw : List Nat), raw.length < 100000 → VD t k raw → dep t k raw ≤ u → VD u k raw := by
  intro t
  induction t with
  | zero =>
    intro u k raw _ h _
    have := VD_le (u := u) h
    rw [Nat.zero_add] at this
    exact this
  | succ t ih =>
    intro u k raw hl h hd
    rcases h.2 with h2 | ⟨hk, es, rfl, hn, hel⟩
    · cases u with
      | zero => exact ⟨h.1, h2⟩
      | succ u => exact ⟨h.1, Or.inl h2⟩
    · have e1 := encD_len es
      have hw : ∀ e ∈ es, wfE e := fun e he => by
        have := el_len he
        exact ⟨(hel e he).1, VD_wf (by omega) (hel e he).2.2⟩
      rw [dep_h hk hw] at hd
      cases u with
      | zero => omega
      | succ u =>
        refine ⟨h.1, Or.inr ⟨hk, es, rfl, hn, fun e he => ⟨(hel e he).1, (hel e he).2.1, ih u _ _ ?_ (hel e he).2.2 ?_⟩⟩⟩
        · have := el_len he
          omega
        · have hm : ∀ (l : List Nat), ∀ x ∈ l, x ≤ mxl l := by
            intro l
            induction l with
            | nil => intro x hx; simp at hx
            | cons a l ihl =>
              intro x hx
              rw [mxl]
              rcases List.mem_cons.mp hx with rfl | hx
              · exact Nat.le_max_left ..
              · exact Nat.le_trans (ihl x hx) (Nat.le_max_right ..)
          have := hm _ _ (List.mem_map_of_mem (f := fun e : El => dep t e.1 e.2.2) he)
          have h3 : dep t e.1 e.2.2 ≤ mxl (es.map (fun e => dep t e.1 e.2.2)) := this
          omega
