/-! the Checker: holderEnd (by the levels left) and isDocument -/
theorem vchk_le {ph : Nat → List Nat → Bool} {k n m : Nat} {r : List Nat} (h : vchk ph k r = some n) (hr : r.length = m) : n ≤ m := by
  subst hr
  unfold vchk tchk hchk at h
  repeat' split at h
  all_goals first | (cases h; omega) | (cases h)
theorem okE_cons (ph : Nat → List Nat → Bool) (k f b : Nat) (seen : List (List Nat)) (r : List Nat) : okE ph k (f + 1) seen (b :: r) = (match spl r with
    | none => false
    | some (nm, r2) => rt nm && (nmOK k seen nm && (match vchk ph b r2 with
      | none => false
      | some n => okE ph k f (seen ++ [nm]) (r2.drop n)))) := rfl
section Chk3
variable {j N : Nat}
set_option maxHeartbeats 4000000 in
theorem sK_holder (hj : j < 11) (h5 : j ≠ 5) : ∀ (t : Nat), t ≤ 16 → ∀ (d : Nat) (S : sT) (p e k c : Nat) (Q : Option Value → sm_H → Prop), okB S j → okB S 5 → p ≤ e → e ≤ (bl S j).length → (bl S j).length ≤ 2000 → k < 256 → S.1 3 = nI c → 2 * c ≤ p → (∀ S2, Kst (hchk (okH t) k (slice (bl S j) p e)) c S S2 → Q (some (.int (hres p (hchk (okH t) k (slice (bl S j) p e))))) (hp S2)) → sm_V N (d + 2 * t + 6) mm_K_holderEnd 1 2 [.ref (11 + 2 * j), .int (nI p), .int (nI e), .int (nI k), .int (nI (17 - t))] (hp S) Q := by
  intro t
  induction t with
  | zero =>
    intro _ d S p e k c Q hw hw5 hpe he hl hk hc hc2 hQ
    have hn : hchk (okH 0) k (slice (bl S j) p e) = none := by
      rw [hchk, if_neg]
      rintro ⟨-, -, -, q⟩
      exact absurd q (by simp [okH])
    rw [hn] at hQ
    have hQ0 := hQ S (Kst_rf hw5 hc)
    exact cK_holderEnd (hk_2 S) ⟨fun _ => hQ0, fun q => absurd (by decide) q⟩
  | succ t ih =>
    intro ht d S p e k c Q hw hw5 hpe he hl hk hc hc2 hQ
    rw [show 17 - (t + 1) = 16 - t by omega]
    have H := fun (S : sT) (p e k c : Nat) (Q : Option Value → sm_H → Prop) => ih (by omega) d S p e k c Q
    have hsl := slice_len (l := bl S j) (a := p) he
    have hu := u4_lt S j p
    have hQn : hchk (okH (t + 1)) k (slice (bl S j) p e) = none → ∀ S2, eqK S S2 → Q (some (.int (-1))) (hp S2) := by
      intro hn S2 h2
      rw [hn] at hQ
      exact hQ S2 ⟨h2, fun z => absurd rfl z⟩
    refine cK_holderEnd (hk_2 S) ⟨fun q => ?_, fun _ => ⟨fun q => ?_, fun q => ?_⟩⟩
    · rw [nI_gtl (by omega) (by omega)] at q
      omega
    · rw [pk_sub hpe, nI_gel (by omega) (by omega)] at q
      have q5 : 5 ≤ e - p := q
      refine sB_intAt hj hw (by omega) ⟨_, rfl, ?_⟩
      rw [i4, if_pos (by omega)]
      refine ⟨fun q2 => ?_, fun q2 => ⟨fun q3 => ?_, fun q3 => ?_⟩⟩
      · refine hQn ?_ S (eqK_rf hw5)
        rw [hchk, if_neg]
        rintro ⟨-, g2, g3, -⟩
        rw [hsl] at g3
        rw [sl_u4 (by omega), Nat.add_zero] at g2 g3
        rw [nI_ltl (by omega) (by omega)] at q2
        omega
      · rw [ti_lt, nI_tc hu] at q2
        rw [pk_sub hpe, ti_le, nI_tc hu, nI_t (by omega)] at q3
        simp at q2
        have u1 : u4 (bl S j) p < 2147483648 := by
          split at q2
          · assumption
          · omega
        rw [if_pos u1] at q2 q3
        have hu5 : 5 ≤ u4 (bl S j) p ∧ u4 (bl S j) p ≤ e - p := by omega
        -- what is asked
        have hchkv : hchk (okH (t + 1)) k (slice (bl S j) p e) = if (decide ((bl S j).getD (p + u4 (bl S j) p - 1) 0 = 0) && okE (okH t) k (u4 (bl S j) p) [] (slice (bl S j) (p + 4) (p + u4 (bl S j) p - 1))) = true then some (u4 (bl S j) p) else none := by
          have g1 : (slice (bl S j) p e).take (u4 (bl S j) p) = slice (bl S j) p (p + u4 (bl S j) p) := sl_take (by omega)
          have g2 : (slice (bl S j) p (p + u4 (bl S j) p)).length = u4 (bl S j) p := by rw [slice_len (by omega)]; omega
          have g3 : (slice (bl S j) p (p + u4 (bl S j) p)).getD (u4 (bl S j) p - 1) 1 = (bl S j).getD (p + u4 (bl S j) p - 1) 0 := by
            have a1 := sl_getD (l := bl S j) (a := p) (b := p + u4 (bl S j) p) (k := u4 (bl S j) p - 1) (by omega)
            rw [show p + (u4 (bl S j) p - 1) = p + u4 (bl S j) p - 1 by omega] at a1
            rw [← a1, List.getD_eq_getElem?_getD, List.getD_eq_getElem?_getD, List.getElem?_eq_getElem (by omega)]
            rfl
          have g4 : slice (slice (bl S j) p (p + u4 (bl S j) p)) 4 (u4 (bl S j) p - 1) = slice (bl S j) (p + 4) (p + u4 (bl S j) p - 1) := by
            rw [sl_sl (by omega)]
            congr 1
            omega
          rw [hchk, sl_u4 (by omega), Nat.add_zero, hsl, g1, okH, g2, g3, g4]
          by_cases z : (decide ((bl S j).getD (p + u4 (bl S j) p - 1) 0 = 0) && okE (okH t) k (u4 (bl S j) p) [] (slice (bl S j) (p + 4) (p + u4 (bl S j) p - 1))) = true
          · rw [if_pos ⟨q5, hu5.1, hu5.2, z⟩, if_pos z]
          · rw [if_neg (fun y => z y.2.2.2), if_neg z]
        generalize hlast : p + u4 (bl S j) p - 1 = last at hchkv
        generalize hL : bl S j = l at *
        -- the loop
        have key : ∀ (f : Nat) (T : sT) (seen : List (List Nat)) (x : Nat), eqK S T → T.1 3 = nI (c + seen.length) → (∀ m, m < c → T.2.1 11 m = S.2.1 11 m) → SeenOK T l c seen → x ≤ last → 2 * (c + seen.length) + 4 ≤ x → last - x ≤ f → okE (okH t) k (u4 l p) [] (slice l (p + 4) last) = okE (okH t) k f seen (slice l x last) → sm_W N (d + 2 * t + 7 + 1) mm_K_holderEnd 61 [(0, .ref 2), (1, .ref (11 + 2 * j)), (4, .int (nI k)), (5, .int (nI (16 - t))), (7, .int (nI last)), (8, .int (nI c)), (9, .int (nI x)), (10, .int (nI seen.length))] [] (hp T) Q := by
          intro f
          have w121 : ∀ (T : sT) (seen : List (List Nat)) (g : Nat), eqK S T → (∀ m, m < c → T.2.1 11 m = S.2.1 11 m) → okE (okH t) k (u4 l p) [] (slice l (p + 4) last) = okE (okH t) k g seen (slice l last last) → sm_W N (d + 2 * t + 7 + 1) mm_K_holderEnd 121 [(0, .ref 2), (1, .ref (11 + 2 * j)), (7, .int (nI last)), (8, .int (nI c)), (9, .int (nI last))] [] (hp T) Q := by
            intro T seen g kT hm hok
            have hok2 : okE (okH t) k (u4 l p) [] (slice l (p + 4) last) = true := by
              rw [hok, sl_nil (Nat.le_refl _)]
              cases g with
              | zero => simp [okE]
              | succ g => simp [okE]
            have k2 := sI_K kT.2.2.2 (nI c)
            have bT : bl (sI T 3 (nI c)) j = l := by rw [eqK_bl (eqK_tr kT k2) hj h5, hL]
            have hb := bl_lt (sI T 3 (nI c)) j last
            rw [bT] at hb
            refine kK_holderEnd_121 ⟨_, hu_2_2 T _, fun _ => ?_, fun z => absurd rfl z⟩
            refine sB_atn hj (eqK_ok (eqK_tr kT k2) hj h5 hw) (by omega) ?_
            rw [bT]
            refine ⟨_, rfl, fun z => ?_, fun z => ?_⟩
            · rw [nI_eql (by omega) (by omega)] at z
              rw [show l.getD last 0 = 0 from z, hok2] at hchkv
              rw [hchkv] at hQ
              have := hQ (sI T 3 (nI c)) ⟨eqK_tr kT k2, fun _ => ⟨by simp [sI, va_up], hm⟩⟩
              rw [nI_1, ← hlast, show p + u4 l p - 1 + 1 = p + u4 l p by omega]
              exact this
            · rw [nI_eql (by omega) (by omega)] at z
              have z2 : ¬ l.getD last 0 = 0 := z
              refine hQn ?_ _ (eqK_tr kT k2)
              rw [hchkv, show decide (l.getD last 0 = 0) = false from decide_eq_false z2, Bool.false_and, if_neg (by simp)]
          induction f with
          | zero =>
            intro T seen x kT h3 hm hs hx hx2 hf hok
            have : x = last := by omega
            subst this
            refine kK_holderEnd_61 ⟨fun _ => w121 T seen 0 kT hm hok, fun _ => ⟨fun _ => w121 T seen 0 kT hm hok, fun z => absurd ((nI_leI (by omega) (by omega)).mpr (Nat.le_refl _)) z⟩⟩
          | succ f ihf =>
            intro T seen x kT h3 hm hs hx hx2 hf hok
            by_cases hxl : x = last
            · subst hxl
              refine kK_holderEnd_61 ⟨fun _ => w121 T seen (f + 1) kT hm hok, fun _ => ⟨fun _ => w121 T seen (f + 1) kT hm hok, fun z => absurd ((nI_leI (by omega) (by omega)).mpr (Nat.le_refl _)) z⟩⟩
            · have bT : bl T j = l := by rw [eqK_bl kT hj h5, hL]
              have oT := eqK_ok kT hj h5 hw
              have hz1 := zf_le (l := l) (p := x + 1) (by omega)
              rw [sl_cons (a := x) (b := last) (by omega) (by omega), okE_cons, spl_zf (p := x + 1) (e := last) (by omega) (by omega)] at hok
              refine kK_holderEnd_61 ⟨fun z => ?_, fun _ => ⟨fun z => ?_, fun _ => ?_⟩⟩
              · exact absurd ((nI_gel (by omega) (by omega)).mp z) (by omega)
              · exact absurd ((nI_leI (by omega) (by omega)).mp z) (by omega)
              · refine sK_name (d := d + 2 * t + 3) hj h5 oT kT.2.2.2 (by omega) (by rw [bT]; omega) hk h3 (by omega) (by rw [bT]; exact hs) (fun T2 k2 no => ⟨_, rfl, fun _ => ?_, fun z => absurd rfl z⟩) (fun T2 k2 y1 y2 y3 y4 y5 y6 => ⟨_, rfl, fun z => absurd z (by decide), fun _ => ?_⟩)
                · refine hQn ?_ T2 (eqK_tr kT k2)
                  rw [bT] at no
                  have : okE (okH t) k (u4 l p) [] (slice l (p + 4) last) = false := by
                    rw [hok]
                    by_cases z : zf l (x + 1) < last
                    · rw [if_pos z]
                      show (rt _ && (nmOK k seen _ && _)) = false
                      cases r1 : rt (slice l (x + 1) (zf l (x + 1))) with
                      | false => simp
                      | true =>
                        cases r2 : nmOK k seen (slice l (x + 1) (zf l (x + 1))) with
                        | false => simp
                        | true => exact absurd (no z r1 r2) id
                    · rw [if_neg z]
                  rw [hchkv, this, if_neg (by simp)]
                · rw [bT] at y1 y2 y3
                  rw [if_pos y1] at hok
                  have hok2 : okE (okH t) k (u4 l p) [] (slice l (p + 4) last) = (match vchk (okH t) (l.getD x 0) (slice l (zf l (x + 1) + 1) last) with | none => false | some n => okE (okH t) k f (seen ++ [slice l (x + 1) (zf l (x + 1))]) ((slice l (zf l (x + 1) + 1) last).drop n)) := by
                    rw [hok]
                    show (rt _ && (nmOK k seen _ && _)) = _
                    rw [y2, y3]
                    simp
                  have bT2 : bl T2 j = l := by rw [eqK_bl k2 hj h5, bT]
                  refine sK_checked (t := t) (d := d + 2 * t + 6) (S := T2) (q := x) (e := last) (c := c + seen.length + 1) (by omega) hj h5 H (eqK_ok k2 hj h5 oT) k2.2.2.2 (by omega) (by omega) (by rw [bT2]; omega) (by rw [bT2]; omega) (by rw [bT2]; exact y1) y4 (by rw [bT2]; omega) (fun T3 k3 => ?_)
                  rw [bT2] at k3 ⊢
                  refine ⟨_, rfl, fun z => ?_, fun z => ?_⟩
                  · refine hQn ?_ T3 (eqK_tr kT (eqK_tr k2 k3.1))
                    cases hv : vchk (okH t) (l.getD x 0) (slice l (zf l (x + 1) + 1) last) with
                    | none =>
                      rw [hv] at hok2
                      rw [hchkv, hok2, if_neg (by simp)]
                    | some n =>
                      rw [hv] at z
                      have hn : n ≤ last - (zf l (x + 1) + 1) := vchk_le hv (by rw [slice_len (by omega)])
                      exact absurd z (nI_m1 (by omega))
                  · cases hv : vchk (okH t) (l.getD x 0) (slice l (zf l (x + 1) + 1) last) with
                    | none =>
                      rw [hv] at z
                      exact absurd rfl z
                    | some n =>
                      rw [hv] at hok2 k3
                      have hn : n ≤ last - (zf l (x + 1) + 1) := vchk_le hv (by rw [slice_len (by omega)])
                      obtain ⟨k31, k32⟩ := k3
                      obtain ⟨k33, k34⟩ := k32 (by simp)
                      have hcl : (seen ++ [slice l (x + 1) (zf l (x + 1))]).length = seen.length + 1 := by simp
                      have := ihf T3 (seen ++ [slice l (x + 1) (zf l (x + 1))]) (zf l (x + 1) + 1 + n) (eqK_tr kT (eqK_tr k2 k31)) (by rw [hcl, ← Nat.add_assoc]; exact k33) (fun m hm2 => by rw [k34 m (by omega), y5 m (by omega), hm m hm2]) (fun i y hy => ?_) (by omega) (by rw [hcl]; omega) (by omega) (by rw [hok2]; show okE _ _ _ _ (List.drop n (slice l (zf l (x + 1) + 1) last)) = _; rw [sl_drop])
                      · rw [hcl] at this
                        rw [nI_1]
                        exact this
                      · by_cases hi : i < seen.length
                        · rw [List.getElem?_append_left hi] at hy
                          obtain ⟨p9, a1, a2⟩ := hs i y hy
                          exact ⟨p9, a1, by rw [k34 _ (by omega), y5 _ (by omega)]; exact a2⟩
                        · rw [List.getElem?_append_right (by omega)] at hy
                          have hi0 : i - seen.length = 0 := by
                            have := (List.getElem?_eq_some_iff.mp hy).1
                            simp at this
                            omega
                          rw [hi0] at hy
                          cases hy
                          refine ⟨x + 1, nmAt_zf (by omega) (by omega), ?_⟩
                          rw [k34 _ (by omega), show c + i = c + seen.length by omega]
                          exact y6
        refine ⟨_, hg_2_2 S, ?_⟩
        rw [hc, nI_add, nI_sl (show 1 ≤ _ by omega), show p + u4 l p - OfNat.ofNat 1 = last from hlast, nI_al]
        exact key (u4 l p) S [] (p + 4) (eqK_rf hw5) (by simpa using hc) (fun _ _ => rfl) (fun i y hy => by simp at hy) (by omega) (by simp; omega) (by omega) rfl
      · refine hQn ?_ S (eqK_rf hw5)
        rw [hchk, if_neg]
        rintro ⟨-, g2, g3, -⟩
        rw [hsl] at g3
        rw [sl_u4 (by omega), Nat.add_zero] at g2 g3
        refine q3 ?_
        rw [pk_sub hpe, nI_leI (by omega) (by omega)]
        omega
    · rw [pk_sub hpe, nI_gel (by omega) (by omega)] at q
      refine hQn ?_ S (eqK_rf hw5)
      rw [hchk, if_neg]
      rintro ⟨g1, -⟩
      rw [hsl] at g1
      exact q g1
theorem sK_isDoc {S : sT} {d n : Nat} {Q : Option Value → sm_H → Prop} (hj : j < 11) (h5 : j ≠ 5) (hw : okB S j) (hw5 : okB S 5) (hn : n ≤ (bl S j).length) (hl : (bl S j).length ≤ 2000) (hQ : ∀ S2, eqK S S2 → Q (some (.int (if okD (slice (bl S j) 0 n) then 1 else 0))) (hp S2)) : sm_V N (d + 39) mm_K_isDocument 1 2 [.ref (11 + 2 * j), .int (nI n)] (hp S) Q := by
  have k1 := sI_K hw5 0
  have b1 : bl (sI S 3 0) j = bl S j := eqK_bl k1 hj h5
  refine cK_isDocument (hk_2 S) ⟨_, hu_2_2 S 0, ?_⟩
  refine sK_holder hj h5 16 (Nat.le_refl _) d (sI S 3 0) 0 n 3 0 _ (eqK_ok k1 hj h5 hw) k1.2.2.2 (by omega) (by rw [b1]; exact hn) (by rw [b1]; exact hl) (by omega) (by simp [sI, va_up, nI_0]) (by omega) (fun S2 h2 => ?_)
  rw [b1] at h2 ⊢
  have q := hQ S2 (eqK_tr k1 h2.1)
  have hsl : (slice (bl S j) 0 n).length = n := by rw [slice_len hn]; omega
  generalize slice (bl S j) 0 n = r at *
  refine ⟨_, rfl, fun z => ?_, fun z => ?_⟩
  · cases hh : hchk (okH 16) 3 r with
    | none =>
      rw [hh] at z
      exact absurd z.symm (nI_m1 (by omega))
    | some m =>
      rw [hh] at z
      rw [hchk] at hh
      split at hh
      · rename_i g
        cases hh
        have z2 : nI (0 + u4 r 0) = nI n := z
        rw [nI_eq (by omega) (by omega)] at z2
        have e : r.take (u4 r 0) = r := List.take_of_length_le (by omega)
        rw [e] at g
        rw [okD, show decide (5 ≤ r.length ∧ u4 r 0 = r.length) = true from decide_eq_true ⟨g.1, by omega⟩, g.2.2.2] at q
        exact q
      · cases hh
  · have : okD r = false := by
      rw [okD]
      by_cases c : 5 ≤ r.length ∧ u4 r 0 = r.length
      · rw [show decide (5 ≤ r.length ∧ u4 r 0 = r.length) = true from decide_eq_true c, Bool.true_and]
        cases ho : okH 16 3 r with
        | false => rfl
        | true =>
          exfalso
          refine z ?_
          have : hchk (okH 16) 3 r = some n := by
            rw [hchk, if_pos ⟨c.1, by omega, by omega, by rw [List.take_of_length_le (by omega)]; exact ho⟩, c.2, hsl]
          rw [this]
          show nI (0 + n) = nI n
          rw [Nat.zero_add]
      · rw [show decide (5 ≤ r.length ∧ u4 r 0 = r.length) = false from decide_eq_false c, Bool.false_and]
    rw [this] at q
    exact q
end Chk3
