/-! Bytes: copies, and the ways through a document -/
theorem hb_cp (S : sT) {j1 j2 sp dp c : Nat} {x y z : Int32} (h1 : j1 < 11) (h2 : j2 < 11) (hx : x = nI sp) (hy : y = nI dp) (hz : z = nI c) (a1 : sp + c ≤ caps j1) (a2 : dp + c ≤ caps j2) (hf : ∀ i, sB (S.2.1 j1 i)) : sm_cp (hp S) (12 + 2 * j1) x (12 + 2 * j2) y z (hp (sA S j2 (va_cpy (S.2.1 j1) (S.2.1 j2) sp dp c))) := by
  have c1 := caps_le j1
  have c2 := caps_le j2
  subst hx; subst hy; subst hz
  refine ⟨_, _, _, _, hb_d S h1, hb_d S h2, ?_, ?_, ?_, ?_, ?_, fun i _ => hf _, ?_⟩
  · rw [nI_t (by omega)]; omega
  · rw [nI_t (by omega)]; omega
  · rw [nI_t (by omega)]; omega
  · rw [nI_t (by omega), nI_t (by omega)]; omega
  · rw [nI_t (by omega), nI_t (by omega)]; omega
  · rw [hb_sd S h2, nI_clamp (by omega), nI_clamp (by omega), nI_clamp (by omega)]
theorem sB_cpy {f g : Nat → Int32} {sp dp c : Nat} (hf : ∀ i, sB (f i)) (hg : ∀ i, sB (g i)) (i : Nat) : sB (va_cpy f g sp dp c i) := by
  unfold va_cpy
  split
  · exact hf _
  · exact hg _
/-- the first place from p on where a 0 is, or the length -/
def zf (l : List Nat) (p : Nat) : Nat := if p ≤ l.length then p + ((l.drop p).takeWhile (fun b => b != 0)).length else l.length
theorem zf_end (l : List Nat) : zf l l.length = l.length := by simp [zf]
theorem zf_hit {l : List Nat} {p : Nat} (hp : p < l.length) (h : l.getD p 0 = 0) : zf l p = p := by
  have e : l.drop p = l[p] :: l.drop (p + 1) := List.drop_eq_getElem_cons hp
  have h2 : l[p] = 0 := by simpa [List.getD_eq_getElem?_getD, hp] using h
  rw [zf, if_pos (by omega), e, h2]
  simp
theorem zf_skip {l : List Nat} {p : Nat} (hp : p < l.length) (h : ¬ l.getD p 0 = 0) : zf l p = zf l (p + 1) := by
  have e : l.drop p = l[p] :: l.drop (p + 1) := List.drop_eq_getElem_cons hp
  have h2 : ¬ l[p] = 0 := by simpa [List.getD_eq_getElem?_getD, hp] using h
  rw [zf, if_pos (by omega), e, zf, if_pos (by omega), List.takeWhile_cons_of_pos (by simpa using h2), List.length_cons]
  omega
theorem zf_le {l : List Nat} {p : Nat} (h : p ≤ l.length) : p ≤ zf l p ∧ zf l p ≤ l.length := by
  rw [zf, if_pos h]
  have h1 : ((l.drop p).takeWhile (fun b => b != 0)).length ≤ (l.drop p).length := (List.takeWhile_sublist _).length_le
  rw [List.length_drop] at h1
  omega
theorem sB_rng {x : Int32} (h : sB x) : -128 ≤ x.toInt ∧ x.toInt < 128 := by
  have h1 : (decide (-128 ≤ x) && decide (x ≤ 127)) = true := h
  simp only [Bool.and_eq_true, decide_eq_true_eq, ti_le] at h1
  have e1 : (-128 : Int32).toInt = -128 := by decide
  have e2 : (127 : Int32).toInt = 127 := by decide
  omega
section BSpecs4
variable {S : sT} {j N d : Nat} {Q : Option Value → sm_H → Prop}
theorem sB_become {j2 m : Nat} (hj : j < 11) (hw : okB S j) (hj2 : j2 < 11) (hw2 : okB S j2) (hm : m ≤ (bl S j2).length) (hm2 : m ≤ caps j) (hQ : ∀ S2, eqB j ((bl S j2).take m) S S2 → Q none (hp S2)) : sm_V N (d + 1) mm_B_become 0 (11 + 2 * j) [.ref (11 + 2 * j2), .int (nI m)] (hp S) Q := by
  obtain ⟨n, hn, hl, hf⟩ := hw
  obtain ⟨n2, hn2, hl2, hf2⟩ := hw2
  have hc := caps_le j
  have hc2 := caps_le j2
  rw [bl_len hn2 hl2] at hm
  refine cB_become (hb_k S hj) ⟨fun c => absurd c (nI_pos (by omega)), fun _ => ⟨_, hb_g1 S hj2, fun c => ?_, fun _ => ⟨_, hb_g0 S hj, _, hb_n S hj, fun c => ?_, fun _ => ⟨_, hb_g0 S hj2, _, hb_g0 S hj, _, hb_cp S hj2 hj (sp := 0) (dp := 0) rfl rfl rfl (by omega) (by omega) hf2, _, hb_p1 _ hj _, ?_⟩⟩⟩⟩
  · rw [hl2] at c
    exact absurd ((nI_ltI (by omega) (by omega)).mp c) (by omega)
  · exact absurd ((nI_ltI (by omega) (by omega)).mp c) (by omega)
  · refine hQ _ ?_
    have h := eqB_len (S := S) (j := j) (n := m) (g := va_cpy (S.2.1 j2) (S.2.1 j) 0 0 m) hm2 (sB_cpy hf2 hf)
    have e : bytesOf (va_cpy (S.2.1 j2) (S.2.1 j) 0 0 m) 0 m = (bl S j2).take m := by
      rw [bytesOf_cpy (m := n2) (by omega) (by omega), bl_eq hn2 hl2]
      simp [bytesOf_len]
    rw [e] at h
    exact h
theorem sB_resize {p o m : Nat} (hj : j < 11) (hw : okB S j) (h1 : p + o ≤ (bl S j).length) (h2 : (bl S j).length + m ≤ caps j + o) (hQ : ∀ S2 mid, mid.length = m → eqB j ((bl S j).take p ++ mid ++ (bl S j).drop (p + o)) S S2 → Q (some (.int 1)) (hp S2)) : sm_V N (d + 1) mm_B_resize 0 (11 + 2 * j) [.int (nI p), .int (nI o), .int (nI m)] (hp S) Q := by
  obtain ⟨n, hn, hl, hf⟩ := hw
  have hc := caps_le j
  rw [bl_len hn hl] at h1 h2
  have n1 : S.1 (30 + j) - nI p = nI (n - p) := by rw [hl, pk_sub (by omega)]
  have n2 : Int32.ofNat (caps j) - (S.1 (30 + j) - nI o) = nI (caps j - (n - o)) := by
    rw [hl, pk_sub (by omega)]
    exact pk_sub (by omega)
  refine cB_resize (hb_k S hj) ⟨fun c => absurd c (nI_pos (by omega)), fun _ => ⟨fun c => absurd c (nI_pos (by omega)), fun _ => ⟨fun c => absurd c (nI_pos (by omega)), fun _ => ⟨_, hb_g1 S hj, fun c => ?_, fun _ => ⟨_, hb_g1 S hj, fun _ => ⟨_, hb_g0 S hj, _, hb_n S hj, _, hb_g1 S hj, fun _ => ?_, fun c => ?_⟩, fun c => ?_⟩⟩⟩⟩⟩
  · rw [hl] at c
    exact absurd ((nI_ltI (by omega) (by omega)).mp c) (by omega)
  · refine ⟨_, hb_g0 S hj, _, hb_g0 S hj, _, hb_g1 S hj, _, hb_cp S hj hj (sp := p + o) (dp := p + m) (c := n - p - o) (nI_add p o) (nI_add p m) (by rw [n1, pk_sub (by omega)]) (by omega) (by omega) hf, _, hb_g1 _ hj, _, hb_p1 _ hj _, ?_⟩
    have e1 : (sA S j (va_cpy (S.2.1 j) (S.2.1 j) (p + o) (p + m) (n - p - o))).1 (30 + j) + (nI m - nI o) = nI (n + m - o) := by
      show S.1 (30 + j) + (nI m - nI o) = _
      rw [hl, ti_eq, nI_t (by omega), ti_add (by rw [nI_t (by omega), pk_sub_toInt (by omega) (by omega)]; omega) (by rw [nI_t (by omega), pk_sub_toInt (by omega) (by omega)]; omega), nI_t (by omega), pk_sub_toInt (by omega) (by omega)]
      omega
    rw [e1]
    have h := eqB_len (S := S) (j := j) (n := n + m - o) (g := va_cpy (S.2.1 j) (S.2.1 j) (p + o) (p + m) (n - p - o)) (by omega) (sB_cpy hf hf)
    have e : bytesOf (va_cpy (S.2.1 j) (S.2.1 j) (p + o) (p + m) (n - p - o)) 0 (n + m - o) = (bl S j).take p ++ ((bytesOf (S.2.1 j) 0 (n + m - o)).drop p).take m ++ (bl S j).drop (p + o) := by
      rw [bytesOf_cpy (m := n) (by omega) (by omega), bl_eq hn hl]
      have t1 : (bytesOf (S.2.1 j) 0 (n + m - o)).drop (p + m + (n - p - o)) = [] := by
        rw [List.drop_eq_nil_iff, bytesOf_len]; omega
      have t2 : ((bytesOf (S.2.1 j) 0 n).drop (p + o)).take (n - p - o) = (bytesOf (S.2.1 j) 0 n).drop (p + o) := by
        rw [List.take_of_length_le]
        rw [List.length_drop, bytesOf_len]; omega
      have t3 : (bytesOf (S.2.1 j) 0 (n + m - o)).take p = (bytesOf (S.2.1 j) 0 n).take p := by
        apply List.ext_getElem?
        intro k
        simp only [List.getElem?_take, bytesOf, List.getElem?_map]
        by_cases hk : k < p
        · simp [hk, List.getElem?_range, show k < n + m - o by omega, show k < n by omega]
        · simp [hk]
      rw [t1, t2, List.append_nil, ← t3, List.take_add]
    rw [e] at h
    exact hQ _ _ (by rw [List.length_take, List.length_drop, bytesOf_len]; omega) h
  · rw [n2] at c
    exact absurd ((nI_leI (by omega) (by omega)).mpr (by omega)) c
  · rw [n1] at c
    exact absurd ((nI_leI (by omega) (by omega)).mpr (by omega)) c
theorem sB_resizeN {p o m : Nat} (hj : j < 11) (hw : okB S j) (h1 : p + o ≤ (bl S j).length) (hm : m < 1000000) (h2 : ¬ (bl S j).length + m ≤ caps j + o) (hQ : Q (some (.int 0)) (hp S)) : sm_V N (d + 1) mm_B_resize 0 (11 + 2 * j) [.int (nI p), .int (nI o), .int (nI m)] (hp S) Q := by
  obtain ⟨n, hn, hl, hf⟩ := hw
  have hc := caps_le j
  rw [bl_len hn hl] at h1 h2
  have n2 : Int32.ofNat (caps j) - (S.1 (30 + j) - nI o) = nI (caps j - (n - o)) := by
    rw [hl, pk_sub (by omega)]
    exact pk_sub (by omega)
  refine cB_resize (hb_k S hj) ⟨fun c => hQ, fun _ => ⟨fun c => hQ, fun _ => ⟨fun c => hQ, fun _ => ⟨_, hb_g1 S hj, fun c => hQ, fun _ => ⟨_, hb_g1 S hj, fun _ => ⟨_, hb_g0 S hj, _, hb_n S hj, _, hb_g1 S hj, fun c => ?_, fun c => hQ⟩, fun c => hQ⟩⟩⟩⟩⟩
  rw [n2] at c
  exact absurd ((nI_leI (by omega) (by omega)).mp c) (by omega)
theorem sB_write {j2 p a b : Nat} (hj : j < 11) (hw : okB S j) (hj2 : j2 < 11) (hw2 : okB S j2) (hab : a ≤ b) (hb : b ≤ (bl S j2).length) (hp1 : p + (b - a) ≤ (bl S j).length) (hQ : ∀ S2, eqB j ((bl S j).take p ++ ((bl S j2).drop a).take (b - a) ++ (bl S j).drop (p + (b - a))) S S2 → Q none (hp S2)) : sm_V N (d + 1) mm_B_write 0 (11 + 2 * j) [.int (nI p), .ref (11 + 2 * j2), .int (nI a), .int (nI b)] (hp S) Q := by
  have hw0 := hw
  obtain ⟨n, hn, hl, hf⟩ := hw
  obtain ⟨n2, hn2, hl2, hf2⟩ := hw2
  have hc := caps_le j
  have hc2 := caps_le j2
  rw [bl_len hn hl] at hp1
  rw [bl_len hn2 hl2] at hb
  have e1 : nI b - nI a = nI (b - a) := pk_sub hab
  have e2 : S.1 (30 + j) - nI p = nI (n - p) := by rw [hl, pk_sub (by omega)]
  refine cB_write (hb_k S hj) ⟨fun c => absurd c (nI_pos (by omega)), fun _ => ⟨fun c => ?_, fun _ => ⟨_, hb_g1 S hj2, fun c => ?_, fun _ => ⟨fun c => absurd c (nI_pos (by omega)), fun _ => ⟨_, hb_g1 S hj, fun c => ?_, fun _ => ⟨_, hb_g1 S hj, fun _ => ⟨_, hb_g0 S hj2, _, hb_g0 S hj, _, hb_cp S hj2 hj rfl rfl e1 (by omega) (by omega) hf2, ?_⟩, fun c => ?_⟩⟩⟩⟩⟩⟩
  · rw [e1] at c
    exact absurd c (nI_pos (by omega))
  · rw [hl2] at c
    exact absurd ((nI_ltI (by omega) (by omega)).mp c) (by omega)
  · rw [hl] at c
    exact absurd ((nI_ltI (by omega) (by omega)).mp c) (by omega)
  · refine hQ _ ?_
    have h := eqB_len (S := S) (j := j) (n := n) (g := va_cpy (S.2.1 j2) (S.2.1 j) a p (b - a)) hn (sB_cpy hf2 hf)
    rw [bytesOf_cpy (m := n2) (by omega) (by omega), ← bl_eq hn2 hl2, ← bl_eq hn hl, ← hl] at h
    simp only [sI, sA, up_id] at h ⊢
    exact h
  · rw [e1, e2] at c
    exact absurd ((nI_leI (by omega) (by omega)).mpr (by omega)) c
theorem sB_valueStart {k : Nat} (hj : j < 11) (hw : okB S j) (hk : k + 1 ≤ (bl S j).length) (hQ : Q (some (.int (nI (zf (bl S j) (k + 1) + 1)))) (hp S)) : sm_V N (d + 1) mm_B_valueStart 0 (11 + 2 * j) [.int (nI k)] (hp S) Q := by
  obtain ⟨n, hn, hl, hf⟩ := hw
  have hc := caps_le j
  have hlen := bl_len hn hl
  rw [hlen] at hk
  have key : ∀ (m i : Nat), i + m = n → zf (bl S j) i = zf (bl S j) (k + 1) → sm_W N (d + 1) mm_B_valueStart 8 [(0, .ref (11 + 2 * j)), (2, .int (nI i))] [] (hp S) Q := by
    intro m
    induction m with
    | zero =>
      intro i hi hz
      have : i = n := by omega
      subst this
      refine kB_valueStart_8 ⟨_, hb_g1 S hj, fun _ => ⟨_, hb_g1 S hj, ?_⟩, fun c => ?_⟩
      · rw [hl, nI_1]
        rw [← hz, ← hlen, zf_end, hlen] at hQ
        exact hQ
      · rw [hl] at c
        exact absurd ((nI_leI (by omega) (by omega)).mpr (by omega)) c
    | succ m ih =>
      intro i hi hz
      refine kB_valueStart_8 ⟨_, hb_g1 S hj, fun c => ?_, fun _ => ⟨_, hb_g0 S hj, _, hb_r S hj (by omega), fun c => ?_, fun c => ?_⟩⟩
      · rw [hl] at c
        exact absurd ((nI_leI (by omega) (by omega)).mp c) (by omega)
      · have c2 : (bl S j).getD i 0 = 0 := by
          rw [bl_get hn hl (by omega), c]
          rfl
        rw [← hz, zf_hit (by omega) c2] at hQ
        rw [nI_1]
        exact hQ
      · have c2 : ¬ (bl S j).getD i 0 = 0 := by
          rw [bl_get hn hl (by omega)]
          intro c3
          have h1 := ub_ti (S.2.1 j i)
          have h2 := sB_rng (hf i)
          refine c ?_
          rw [ti_eq]
          simp
          omega
        rw [zf_skip (by omega) c2] at hz
        rw [nI_1]
        exact ih (i + 1) (by omega) hz
  refine cB_valueStart (hb_k S hj) ?_
  have e : (if nI k + 1 < 0 then (0 : Int32) else nI k + 1) = nI (k + 1) := by
    rw [nI_1, if_neg (nI_pos (by omega))]
  unfold fB_valueStart_0
  rw [e]
  exact key (n - (k + 1)) (k + 1) (by omega) rfl
theorem sB_nameEnd {k : Nat} (hj : j < 11) (hw : okB S j) (hk : k + 1 ≤ (bl S j).length) (hQ : Q (some (.int (nI (zf (bl S j) (k + 1))))) (hp S)) : sm_V N (d + 2) mm_B_nameEnd 0 (11 + 2 * j) [.int (nI k)] (hp S) Q := by
  refine cB_nameEnd (hb_k S hj) (sB_valueStart hj hw hk ⟨_, rfl, ?_⟩)
  rw [nI_pred]
  exact hQ
end BSpecs4
