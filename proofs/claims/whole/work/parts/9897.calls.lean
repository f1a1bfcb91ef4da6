/-! calls: byteAt, many, copy, read -/
theorem okD_5 {l : List Nat} (h : okD l = true) : 5 ≤ l.length ∧ u4 l 0 = l.length := by
  rw [okD, Bool.and_eq_true] at h
  exact of_decide_eq_true h.1
/-- the reference's store with one slot's document new -/
theorem st_upd {S T : sT} {r : Nat} {raw : List Nat} (hr : r < 4) (hraw : okD raw = true) (hl : raw.length ≤ 2000) (hin : slice (stl T) (2000 * r) (2000 * r + raw.length) = raw) (hout : ∀ a b, b ≤ 14100 → (b ≤ 2000 * r ∨ 2000 * r + 2000 ≤ a) → slice (stl T) a b = slice (stl S) a b) (hS : okSl S) : okSl T ∧ sld T r = raw ∧ (∀ k, k < 4 → k ≠ r → sld T k = sld S k) ∧ u4 (stl T) 8000 = u4 (stl S) 8000 := by
  obtain ⟨h5, hu5⟩ := okD_5 hraw
  have u4o : ∀ p, p + 4 ≤ 14100 → (p + 4 ≤ 2000 * r ∨ 2000 * r + 2000 ≤ p) → u4 (stl T) p = u4 (stl S) p := fun p hp1 ho => by
    have h1 := hout p (p + 4) hp1 ho
    have h2 : u4 (slice (stl T) p (p + 4)) 0 = u4 (stl T) p := sl_u4 (by omega)
    have h3 : u4 (slice (stl S) p (p + 4)) 0 = u4 (stl S) p := sl_u4 (by omega)
    rw [← h2, h1, h3]
  have ur : u4 (stl T) (2000 * r) = raw.length := by
    have h2 : u4 (slice (stl T) (2000 * r) (2000 * r + raw.length)) 0 = u4 (stl T) (2000 * r) := sl_u4 (by omega)
    rw [← h2, hin, hu5]
  have sr : sld T r = raw := by rw [sld, ur, hin]
  have so : ∀ k, k < 4 → k ≠ r → u4 (stl T) (2000 * k) = u4 (stl S) (2000 * k) ∧ sld T k = sld S k := fun k hk hne => by
    have h1 := (hS k hk).1
    have h2 := u4o (2000 * k) (by omega) (by omega)
    refine ⟨h2, ?_⟩
    rw [sld, h2, hout _ _ (by omega) (by omega)]
    rfl
  refine ⟨fun k hk => ?_, sr, fun k hk hne => (so k hk hne).2, u4o 8000 (by omega) (by omega)⟩
  by_cases c : k = r
  · subst c
    exact ⟨by omega, by have := sr; rw [sld] at this; rw [this]; exact hraw⟩
  · obtain ⟨h1, h2⟩ := so k hk c
    have h3 := hS k hk
    refine ⟨by rw [h1]; exact h3.1, ?_⟩
    have h4 : slice (stl T) (2000 * k) (2000 * k + u4 (stl T) (2000 * k)) = sld S k := h2
    rw [h4]
    exact h3.2
section Cb2
variable {N d : Nat} {Q : Option Value → sm_H → Prop} {S : sT}
theorem slot_VD (hS : okSl S) {k : Nat} (hk : k < 4) : VD 16 3 (sld S k) ∧ (sld S k).length ≤ 2000 ∧ (sld S k).length = u4 (stl S) (2000 * k) := by
  have h := hS k hk
  have hlen := stl_len S
  refine ⟨okD_VD (stl_b S) h.2, ?_, ?_⟩
  · rw [sld, slice_len (by omega)]; omega
  · rw [sld, slice_len (by omega)]; omega
theorem pr_byteAt {s x : Int32} (hI : Inv S) : okP N (d + 60) mm_D_byteAt mm_M_byteAt [.int s, .int x] S := by
  have hlen := stl_len S
  have z0 : (0 : Int32).toInt = 0 := rfl
  refine cD_byteAt (hk_0 S) (sD_slotOf (d := d + 58) (fun hn => ⟨none, rfl, fun _ => ⟨_, rfl, ?_⟩, fun a4 c => (by cases c)⟩) (fun k hk hs => ⟨some (11 + 2 * (1 + k)), rfl, fun c => (by cases c), fun a4 c => ?_⟩))
  · exact sM_byteAt (d := d + 57) (fun _ => ⟨rfl, S, rfl, hI⟩) (fun k hk hs => absurd (by rw [hs, nI_t (by omega)]; exact ⟨by omega, by omega⟩) hn) (fun k hk hs => absurd (by rw [hs, nI_t (by omega)]; exact ⟨by omega, by omega⟩) hn) (fun k i hk hs => absurd (by rw [hs, nI_t (by omega)]; exact ⟨by omega, by omega⟩) hn)
  · cases c
    obtain ⟨hv, hl2, hlu⟩ := slot_VD hI.2.2.2.1.1 hk
    have hbk := hI.2.2.2.1.2 k hk
    have hwk := hI.1.2.1 (1 + k) (by omega)
    have hln : S.1 (30 + (1 + k)) = nI (sld S k).length := by rw [bl_n hwk, hbk]
    have uniq : ∀ k2, k2 < 4 → s = nI k2 → k2 = k := fun k2 h2 hs2 => by
      rw [hs] at hs2
      exact ((nI_eq (by omega) (by omega)).mp hs2).symm
    have mneg : ¬ (0 ≤ x.toInt ∧ x.toInt < (sld S k).length) → sm_V N (d + 60) mm_M_byteAt 5 33 [.int s, .int x] (hp S) (fun r2 h2 => r2 = some (.int (-1)) ∧ ∃ T, h2 = hp T ∧ Inv T) := fun hno => sM_byteAt (d := d + 57) (fun _ => ⟨rfl, S, rfl, hI⟩) (fun k2 h2 hs2 => (hI.2.2.2.1.1 k2 h2).1) (fun _ _ _ _ => ⟨rfl, S, rfl, hI⟩) (fun k2 i h2 hs2 hx hi => by
      rw [uniq k2 h2 hs2] at hi
      exact absurd (by rw [hx, nI_t (by omega)]; exact ⟨by omega, by omega⟩) hno)
    refine ⟨fun c => ⟨_, rfl, mneg (fun y => ?_)⟩, fun c => ⟨_, hb_g1 (j := 1 + k) S (by omega), ?_⟩⟩
    · rw [ti_lt] at c; omega
    · rw [ti_lt] at c
      rw [hln]
      refine ⟨fun c2 => ?_, fun c2 => ⟨_, rfl, mneg (fun y => ?_)⟩⟩
      · rw [ti_lt, nI_t (by omega)] at c2
        obtain ⟨i, hi, rfl⟩ := nat_of (s := x) (m := (sld S k).length) (by omega) (by omega) (by omega)
        refine sB_atn (j := 1 + k) (d := d + 58) (by omega) hwk (by omega) ⟨_, rfl, _, rfl, ?_⟩
        refine sM_byteAt (d := d + 57) (fun hno => absurd (by rw [hs, nI_t (by omega)]; exact ⟨by omega, by omega⟩) hno) (fun k2 h2 hs2 => (hI.2.2.2.1.1 k2 h2).1) (fun k2 h2 hs2 hno => ?_) (fun k2 i2 h2 hs2 hx hi2 => ⟨?_, S, rfl, hI⟩)
        · rw [uniq k2 h2 hs2, ← hlu] at hno
          exact absurd (by rw [nI_t (by omega)]; exact ⟨by omega, by omega⟩) hno
        · have : i2 = i := by
            rw [uniq k2 h2 hs2] at hi2
            exact ((nI_eq (by omega) (by omega)).mp hx).symm
          rw [uniq k2 h2 hs2, this, hbk, sld, sl_getD (by omega)]
      · rw [ti_lt, nI_t (by omega)] at c2
        omega
theorem pr_many {s x : Int32} (hI : Inv S) : okP N (d + 60) mm_D_many mm_M_many [.int s, .int x] S := by
  have hB := hI.1
  have z0 : (0 : Int32).toInt = 0 := rfl
  have z1 : (1 : Int32).toInt = 1 := rfl
  have z2 : (2 : Int32).toInt = 2 := rfl
  have scr : ∀ T, frM S T → Inv T := fun T hT => Inv_scr hI ⟨fun k hk => hT.1 k (by omega) (by omega) (by omega), fun k hk => hT.2.1 k (by omega)⟩ (fun k h1 h2 => hT.1 k (by omega) (by omega) (by omega)) (hT.2.1 17 (by omega)) hT.2.2 (by
    obtain ⟨mm, a1, a2, a3⟩ := hB.2.2.2.2
    exact ⟨mm, a1, by rw [hT.1 22 (by omega) (by omega) (by omega)]; exact a2, fun i => by rw [hT.2.1 30 (by omega)]; exact a3 i⟩)
  refine cD_many (hk_0 S) (sD_slotOf (d := d + 58) (fun hn => ⟨none, rfl, fun _ => ⟨_, rfl, ?_⟩, fun a4 c => (by cases c)⟩) (fun k hk hs => ⟨some (11 + 2 * (1 + k)), rfl, fun c => (by cases c), fun a4 c => ?_⟩))
  · exact sM_many (d := d + 54) hB.1 hB.2.2.2.1 hI.2.2.2.1.1 (fun _ => ⟨rfl, S, rfl, hI⟩) (fun k es hk hs => absurd (by rw [hs, nI_t (by omega)]; exact ⟨by omega, by omega⟩) hn)
  · cases c
    obtain ⟨hv, hl2, hlu⟩ := slot_VD hI.2.2.2.1.1 hk
    have hbk := hI.2.2.2.1.2 k hk
    have hwk := hI.1.2.1 (1 + k) (by omega)
    have hln : S.1 (30 + (1 + k)) = nI (sld S k).length := by rw [bl_n hwk, hbk]
    obtain ⟨r1, r2, r3, r4⟩ := VD_h (Or.inl rfl) (by omega) hv
    have uniq : ∀ k2, k2 < 4 → s = nI k2 → k2 = k := fun k2 h2 hs2 => by
      rw [hs] at hs2
      exact ((nI_eq (by omega) (by omega)).mp hs2).symm
    have mm : ∀ z : Int32, (¬ (0 ≤ x.toInt ∧ x.toInt ≤ 2) → z = -1) → (0 ≤ x.toInt → x.toInt ≤ 2 → z = (if x = 0 then nI (sld S k).length else if x = 1 then nI (els (sld S k)).length else nI (dep 16 3 (sld S k)))) → sm_V N (d + 60) mm_M_many 5 33 [.int s, .int x] (hp S) (fun r2 h2 => r2 = some (.int z) ∧ ∃ T, h2 = hp T ∧ Inv T) := by
      intro z hz1 hz2
      refine sM_many (d := d + 54) hB.1 hB.2.2.2.1 hI.2.2.2.1.1 (fun hno => ?_) (fun k2 es h2 hs2 hx0 hx2 he hw T hT => ?_)
      · rw [hz1 (fun y => hno ⟨by rw [hs, nI_t (by omega)]; omega, by rw [hs, nI_t (by omega)]; omega, y.1, y.2⟩)]
        exact ⟨rfl, S, rfl, hI⟩
      · have hk2 := uniq k2 h2 hs2
        subst hk2
        have hee : es = els (sld S k2) := by rw [he, els_encD hw]
        rw [hz2 hx0 hx2, hee]
        exact ⟨rfl, T, rfl, scr T hT⟩
    refine ⟨fun c => ⟨_, hb_g1 (j := 1 + k) S (by omega), _, rfl, mm _ (fun y => ?_) (fun _ _ => ?_)⟩, fun c => ?_, fun c => ?_, fun c => ⟨_, rfl, mm _ (fun _ => rfl) (fun h1 h2 => ?_)⟩⟩
    · rw [c] at y
      exact absurd ⟨by omega, by omega⟩ y
    · rw [if_pos c, hln]
    · refine sB_count (j := 1 + k) (d := d + 56) (A := []) (B := []) (es := els (sld S k)) (by omega) hwk (by rw [hbk, List.nil_append, List.append_nil]; exact r1) r3 ⟨_, rfl, _, rfl, mm _ (fun y => ?_) (fun _ _ => ?_)⟩
      · rw [c] at y
        exact absurd ⟨by omega, by omega⟩ y
      · rw [if_neg (by rw [c]; decide), if_pos c]
    · refine sD_deep (j := 1 + k) (by omega) hwk 16 (d + 41) 0 [] [] 3 (sld S k) _ (Or.inl rfl) (by omega) hv (by rw [hbk]; simp) ⟨_, rfl, _, rfl, mm _ (fun y => ?_) (fun _ _ => ?_)⟩
      · rw [c] at y
        exact absurd ⟨by omega, by omega⟩ y
      · rw [if_neg (by rw [c]; decide), if_neg (by rw [c]; decide), Nat.zero_add]
    · exfalso
      obtain ⟨c0, c1, c2⟩ := c
      have h3 : x.toInt = 0 ∨ x.toInt = 1 ∨ x.toInt = 2 := by omega
      rcases h3 with h | h | h
      · exact c0 (ti_eq.mpr (by rw [h]; rfl))
      · exact c1 (ti_eq.mpr (by rw [h]; rfl))
      · exact c2 (ti_eq.mpr (by rw [h]; rfl))
theorem pr_copy {x y : Int32} (hI : Inv S) : okP N (d + 60) mm_D_copy mm_M_copy [.int x, .int y] S := by
  obtain ⟨hB, hE, ⟨tp, htp, h15, hb0⟩, hS, hC⟩ := hI
  have hI : Inv S := ⟨hB, hE, ⟨tp, htp, h15, hb0⟩, hS, hC⟩
  have hlen := stl_len S
  have m0 : ¬ (0 ≤ x.toInt ∧ x.toInt < 4 ∧ 0 ≤ y.toInt ∧ y.toInt < 4) → sm_V N (d + 60) mm_M_copy 5 33 [.int x, .int y] (hp S) (fun r2 h2 => r2 = some (.int 0) ∧ ∃ T, h2 = hp T ∧ Inv T) := fun hno => sM_copy (d := d + 57) hB.1 hS.1 (fun _ => ⟨rfl, S, rfl, hI⟩) (fun r s hr hs hx hy => absurd (by rw [hx, hy, nI_t (by omega), nI_t (by omega)]; exact ⟨by omega, by omega, by omega, by omega⟩) hno)
  refine cD_copy (hk_0 S) (sD_slotOf (d := d + 58) (fun hn => ⟨none, rfl, ?_⟩) (fun r hr hx => ⟨some (11 + 2 * (1 + r)), rfl, ?_⟩))
  · refine sD_slotOf (d := d + 58) (fun hn2 => ⟨none, rfl, fun _ => ⟨_, rfl, m0 (fun z => hn ⟨z.1, z.2.1⟩)⟩, fun a7 c => (by cases c)⟩) (fun s hs hy => ⟨some (11 + 2 * (1 + s)), rfl, fun _ => ⟨_, rfl, m0 (fun z => hn ⟨z.1, z.2.1⟩)⟩, fun a7 c => (by cases c)⟩)
  · refine sD_slotOf (d := d + 58) (fun hn2 => ⟨none, rfl, fun c => (by cases c), fun a7 c => ⟨fun _ => ⟨_, rfl, m0 (fun z => hn2 ⟨z.2.2.1, z.2.2.2⟩)⟩, fun a8 c => (by cases c)⟩⟩) (fun s hs hy => ⟨some (11 + 2 * (1 + s)), rfl, fun c => (by cases c), fun a7 c => ⟨fun c => (by cases c), fun a8 c8 => ?_⟩⟩)
    cases c
    cases c8
    obtain ⟨hv, hl2, hlu⟩ := slot_VD hS.1 hs
    have hbs := hS.2 s hs
    have hws := hB.2.1 (1 + s) (by omega)
    have hln : S.1 (30 + (1 + s)) = nI (sld S s).length := by rw [bl_n hws, hbs]
    have hcr : caps (1 + r) = 2000 := by rcases (show r = 0 ∨ r = 1 ∨ r = 2 ∨ r = 3 by omega) with rfl | rfl | rfl | rfl <;> rfl
    refine ⟨_, hb_g1 (j := 1 + s) S (by omega), ?_⟩
    rw [hln]
    refine sB_become (j := 1 + r) (j2 := 1 + s) (d := d + 58) (by omega) (hB.2.1 (1 + r) (by omega)) (by omega) hws (by rw [hbs]; exact Nat.le_refl _) (by omega) (fun S2 e2 => ⟨rfl, _, rfl, ?_⟩)
    rw [hbs, List.take_of_length_le (Nat.le_refl _)] at e2
    have fc := frCl_eq (by omega) e2
    have hst := frCl_st fc
    have hS2 : okSl S2 := fun k hk => by rw [hst]; exact hS.1 k hk
    have hB2 : BaI S2 := ⟨frCl_ok fc hB.1, fun j hj => eqB_ok e2 (hB.2.1 j hj), by rw [eqB_bl e2 (by omega)]; exact hB.2.2.1, frCl_29 fc hB.2.2.2.1, frCl_F fc hB.2.2.2.2⟩
    refine sM_copy (d := d + 57) hB2.1 hS2 (fun hno => absurd (by rw [hx, hy, nI_t (by omega), nI_t (by omega)]; exact ⟨by omega, by omega, by omega, by omega⟩) hno) (fun r2 s2 hr2 hs2 hx2 hy2 T hT => ⟨rfl, T, rfl, ?_⟩)
    have er : r2 = r := by rw [hx] at hx2; exact ((nI_eq (by omega) (by omega)).mp hx2).symm
    have es : s2 = s := by rw [hy] at hy2; exact ((nI_eq (by omega) (by omega)).mp hy2).symm
    subst er es
    rw [hst, ← hlu] at hT
    have hm : frMo S2 T := ⟨fun k _ => by rw [eqS_i hT], fun k hk => eqS_a hT (by omega)⟩
    have hdj : 2000 * r2 + (sld S s2).length ≤ 2000 * s2 ∨ 2000 * s2 + (sld S s2).length ≤ 2000 * r2 ∨ 2000 * r2 = 2000 * s2 := by
      rcases Nat.lt_trichotomy r2 s2 with h | h | h
      · left; omega
      · right; right; rw [h]
      · right; left; omega
    have hin : slice (stl T) (2000 * r2) (2000 * r2 + (sld S s2).length) = sld S s2 := by
      rw [hT.2.2, cpL_in hdj (by omega) (by omega), hlu]
      rfl
    have hout : ∀ a b, b ≤ 14100 → (b ≤ 2000 * r2 ∨ 2000 * r2 + 2000 ≤ a) → slice (stl T) a b = slice (stl S) a b := fun a b hb ho => by
      rw [hT.2.2]
      exact cpL_out hdj (by omega) (by omega) (by omega)
    obtain ⟨u1, u2, u3, u4'⟩ := st_upd hr2 (by have := (hS.1 s2 hs2).2; exact this) hl2 hin hout hS.1
    have hb : ∀ j, j < 11 → j ≠ 1 + r2 → bl T j = bl S j := fun j hj hne => by rw [frMo_bl hm hj, eqB_bl e2 hne]
    have hi : ∀ k, k < 30 → T.1 k = S.1 k := fun k hk => by rw [eqS_i hT, eqB_i e2 (by omega)]
    refine ⟨BaI_Mo hm hB2 hT.2.1 (fun i => by rw [eqS_a hT (by omega)]; exact hB2.2.2.2.1 i) ?_, ⟨?_, ?_, ?_⟩, ⟨tp, htp, ?_, ?_⟩, ⟨u1, fun k hk => ?_⟩, ?_⟩
    · obtain ⟨mm, a1, a2, a3⟩ := hB2.2.2.2.2
      exact ⟨mm, a1, by rw [eqS_i hT]; exact a2, fun i => by rw [eqS_a hT (by omega)]; exact a3 i⟩
    · rw [hi 16 (by omega), hi 0 (by omega)]; exact hE.1
    · rw [hi 17 (by omega), hi 1 (by omega)]; exact hE.2.1
    · rw [hi 18 (by omega), hi 2 (by omega)]; exact hE.2.2
    · rw [hi 15 (by omega)]; exact h15
    · rw [hb 0 (by omega) (by omega), hout _ _ (by omega) (by omega)]; exact hb0
    · by_cases c : k = r2
      · subst c
        rw [u2, frMo_bl hm (by omega)]
        exact e2.2.2
      · rw [u3 k hk c, hb (1 + k) (by omega) (by omega)]
        exact hS.2 k hk
    · unfold ChI
      rw [hi 0 (by omega)]
      rcases hC with hC | ⟨c1, c2, c3, c4, c5, ps, c6, c7⟩
      · exact Or.inl hC
      · have hcd : chd T = chd S := by rw [chd, u4', hout _ _ (by omega) (by omega)]; rfl
        rw [hcd, u4', hb 6 (by omega) (by omega)]
        exact Or.inr ⟨c1, c2, c3, c4, c5, ps, frMo_P hm (PlA_i (eqB_i e2 (by omega)) (fun k _ _ => eqB_a e2 (by omega)) (eqB_bl e2 (by omega)) c6), c7⟩
end Cb2
