/-! a document's bytes with the sizes of the holders that a path has gone into apart -/
def off : List Frm → Nat
  | [] => 0
  | f :: r => 6 + (encs f.1).length + f.2.2.1.length + off r
def nst : List Frm → List Nat → List Nat → List Nat
  | [], c, ss => le4 (ss.getD 0 0) ++ (c ++ [0])
  | f :: r, c, ss => le4 (ss.getD 0 0) ++ (encs f.1 ++ (f.2.1 :: (f.2.2.1 ++ 0 :: (nst r c (ss.drop 1) ++ (encs f.2.2.2 ++ [0])))))
def szs : List Frm → Nat → List Nat
  | [], n => [5 + n]
  | f :: r, n => (7 + (encs f.1).length + f.2.2.1.length + (szs r n).getD 0 0 + (encs f.2.2.2).length) :: szs r n
theorem szs_len : ∀ (fs : List Frm) (n : Nat), (szs fs n).length = fs.length + 1 := by
  intro fs
  induction fs with
  | nil => intro n; rfl
  | cons f fs ih => intro n; rw [szs, List.length_cons, ih, List.length_cons]
theorem szs_hd : ∀ (fs : List Frm) (es : List El), (szs fs (encs es).length).getD 0 0 = (plg fs (encD es)).length := by
  intro fs
  induction fs with
  | nil => intro es; rw [plg, encD_len]; rfl
  | cons f fs ih =>
    intro es
    rw [plg, encD_len, encs_app, encs_cons, List.length_append, List.length_append, enc1_len, szs, List.getD_cons_zero, ih]
    simp only
    omega
theorem plg_nst : ∀ (fs : List Frm) (es : List El), plg fs (encD es) = nst fs (encs es) (szs fs (encs es).length) := by
  intro fs
  induction fs with
  | nil => intro es; rfl
  | cons f fs ih =>
    intro es
    have h := szs_hd (f :: fs) es
    rw [plg, encD_len] at h
    rw [plg, encD, nst, h, szs, List.drop_one, List.tail_cons, ← ih, encs_app, encs_cons, enc1]
    simp
theorem szs_add : ∀ (fs : List Frm) (n m i : Nat), i ≤ fs.length → (szs fs m).getD i 0 + n = (szs fs n).getD i 0 + m := by
  intro fs
  induction fs with
  | nil =>
    intro n m i hi
    have : i = 0 := by simpa using hi
    subst this
    show 5 + m + n = 5 + n + m
    omega
  | cons f fs ih =>
    intro n m i hi
    cases i with
    | zero =>
      rw [szs, szs, List.getD_cons_zero, List.getD_cons_zero]
      have := ih n m 0 (by omega)
      omega
    | succ i =>
      rw [szs, szs, List.getD_cons_succ, List.getD_cons_succ]
      exact ih n m i (by simpa using hi)
theorem nst_c : ∀ (fs : List Frm) (ss : List Nat), ∃ A B, A.length = off fs + 4 ∧ ∀ c, nst fs c ss = A ++ (c ++ B) := by
  intro fs
  induction fs with
  | nil => intro ss; exact ⟨le4 (ss.getD 0 0), [0], by rw [le4_len, off], fun c => rfl⟩
  | cons f fs ih =>
    intro ss
    obtain ⟨A, B, h1, h2⟩ := ih (ss.drop 1)
    refine ⟨le4 (ss.getD 0 0) ++ (encs f.1 ++ (f.2.1 :: (f.2.2.1 ++ 0 :: A))), B ++ (encs f.2.2.2 ++ [0]), ?_, fun c => ?_⟩
    · simp only [List.length_append, le4_len, List.length_cons, h1, off]
      omega
    · rw [nst, h2]
      simp
theorem nst_s : ∀ (fs : List Frm) (n : Nat) (ss c : List Nat), n ≤ fs.length → n < ss.length → ∃ A B, A.length = off (fs.take n) ∧ ∀ s, nst fs c (ss.set n s) = A ++ (le4 s ++ B) := by
  intro fs
  induction fs with
  | nil =>
    intro n ss c hn hs
    have : n = 0 := by simpa using hn
    subst this
    cases ss with
    | nil => simp at hs
    | cons a t => exact ⟨[], c ++ [0], rfl, fun s => rfl⟩
  | cons f fs ih =>
    intro n ss c hn hs
    cases ss with
    | nil => simp at hs
    | cons a t =>
      cases n with
      | zero => exact ⟨[], encs f.1 ++ (f.2.1 :: (f.2.2.1 ++ 0 :: (nst fs c t ++ (encs f.2.2.2 ++ [0])))), rfl, fun s => rfl⟩
      | succ n =>
        obtain ⟨A, B, h1, h2⟩ := ih n t c (by simpa using hn) (by simpa using hs)
        refine ⟨le4 a ++ (encs f.1 ++ (f.2.1 :: (f.2.2.1 ++ 0 :: A))), B ++ (encs f.2.2.2 ++ [0]), ?_, fun s => ?_⟩
        · simp only [List.length_append, le4_len, List.length_cons, h1, List.take_succ_cons, off]
          omega
        · rw [List.set_cons_succ, nst, List.drop_one, List.tail_cons, h2, List.getD_cons_zero]
          simp
theorem mix_set : ∀ (n : Nat) (a b : List Nat), a.length = b.length → n < a.length → (a.take n ++ b.drop n).set n (a.getD n 0) = a.take (n + 1) ++ b.drop (n + 1) ∧ (a.take n ++ b.drop n).set n (b.getD n 0) = a.take n ++ b.drop n := by
  intro n
  induction n with
  | zero =>
    intro a b h hn
    cases a with
    | nil => simp at hn
    | cons x a =>
      cases b with
      | nil => simp at h
      | cons y b => exact ⟨rfl, rfl⟩
  | succ n ih =>
    intro a b h hn
    cases a with
    | nil => simp at hn
    | cons x a =>
      cases b with
      | nil => simp at h
      | cons y b =>
        obtain ⟨h1, h2⟩ := ih a b (by simpa using h) (by simpa using hn)
        refine ⟨?_, ?_⟩
        · rw [List.take_succ_cons, List.drop_succ_cons, List.cons_append, List.set_cons_succ, List.getD_cons_succ, h1]
          rfl
        · rw [List.take_succ_cons, List.drop_succ_cons, List.cons_append, List.set_cons_succ, List.getD_cons_succ, h2]
/-- the holders that the path has gone into -/
def HS (S : sT) (fs : List Frm) : Prop := S.1 7 = nI (fs.length + 1) ∧ ∀ n, n ≤ fs.length → S.2.1 16 n = nI (off (fs.take n))
theorem hh_r (S : sT) {k : Nat} (hk : k < 9) : sm_gi (hp S) 10 1 (nI k) = some (S.2.1 16 k) := by rw [ha_10, nI_t (by omega), if_pos ⟨by omega, by omega⟩, nI_clamp (by omega)]
theorem HS_fr {S T : sT} {fs : List Frm} (h7 : T.1 7 = S.1 7) (h16 : T.2.1 16 = S.2.1 16) (h : HS S fs) : HS T fs := ⟨by rw [h7]; exact h.1, fun n hn => by rw [h16]; exact h.2 n hn⟩
theorem caps7 : caps 7 = 10000 := rfl
section Ne
variable {N d : Nat} {Q : Option Value → sm_H → Prop}
theorem sE_holder {S : sT} {fs : List Frm} (hH : HS S fs) (hf : fs.length ≤ 8) (hQ : Q (some (.int (nI (off fs)))) (hp S)) : sm_V N (d + 1) mm_E_holder 2 9 [] (hp S) Q := by
  refine cE_holder (hk_9 S) ⟨_, hg_9_5 S, fun c => ?_, fun _ => ⟨_, hg_9_5 S, _, hg_9_1 S, _, hn_10 S, fun c => ?_, fun _ => ⟨_, hg_9_1 S, _, hg_9_5 S, nI (off fs), ?_, hQ⟩⟩⟩
  · rw [hH.1, nI_lel (by omega) (by omega)] at c
    exact absurd (show fs.length + 1 ≤ 0 from c) (by omega)
  · rw [hH.1, nI_gtl (by omega) (by omega)] at c
    exact absurd (show 9 < fs.length + 1 from c) (by omega)
  · rw [hH.1, nI_sl (show 1 ≤ fs.length + 1 by omega)]
    have h := hH.2 fs.length (Nat.le_refl _)
    rw [List.take_of_length_le (Nat.le_refl _)] at h
    rw [show nI (fs.length + 1 - OfNat.ofNat 1) = nI fs.length from rfl, hh_r S (by omega), h]
theorem sE_resize {S : sT} {fs : List Frm} {c1 mid c2 : List Nat} {m : Nat} (hw : okB S 7) (hH : HS S fs) (hf : fs.length ≤ 8) (hl : bl S 7 = nst fs (c1 ++ (mid ++ c2)) (szs fs (c1 ++ (mid ++ c2)).length)) (hcap : (bl S 7).length + m ≤ 10000 + mid.length) (hQ : ∀ T m2, m2.length = m → eqB 7 (nst fs (c1 ++ (m2 ++ c2)) (szs fs (c1 ++ (m2 ++ c2)).length)) S T → Q (some (.int 1)) (hp T)) : sm_V N (d + 2 + 1) mm_E_resize 2 9 [.int (nI (off fs + 4 + c1.length)), .int (nI mid.length), .int (nI m)] (hp S) Q := by
  have hlen := bl_lenB hw
  rw [caps7] at hlen
  obtain ⟨A, B, hA, hAB⟩ := nst_c fs (szs fs (c1 ++ (mid ++ c2)).length)
  have hl1 : bl S 7 = (A ++ c1) ++ (mid ++ (c2 ++ B)) := by rw [hl, hAB]; simp
  have hlA : (A ++ c1).length = off fs + 4 + c1.length := by rw [List.length_append, hA]
  have hll := congrArg List.length hl1
  rw [List.length_append, hlA, List.length_append] at hll
  refine cE_resize (hk_9 S) ⟨_, hg_9_0 S, ?_⟩
  refine sB_resize (j := 7) (d := d + 1) (by omega) hw (by omega) (by rw [caps7]; omega) (fun T m2 hm2 hT => ⟨_, rfl, fun c => absurd c (by decide), fun _ => ?_⟩)
  have ht : (bl S 7).take (off fs + 4 + c1.length) = A ++ c1 := by rw [hl1]; exact List.take_left' hlA
  have hd : (bl S 7).drop (off fs + 4 + c1.length + mid.length) = c2 ++ B := by rw [hl1, ← List.append_assoc]; exact List.drop_left' (by rw [List.length_append, hlA])
  rw [ht, hd] at hT
  have hT2 : eqB 7 (nst fs (c1 ++ (m2 ++ c2)) (szs fs (c1 ++ (mid ++ c2)).length)) S T := by
    have : nst fs (c1 ++ (m2 ++ c2)) (szs fs (c1 ++ (mid ++ c2)).length) = A ++ c1 ++ m2 ++ (c2 ++ B) := by rw [hAB]; simp
    rw [this]
    exact hT
  -- the sizes
  have sz : ∀ n, n ≤ fs.length → (szs fs (c1 ++ (mid ++ c2)).length).getD n 0 < 100000 ∧ (szs fs (c1 ++ (m2 ++ c2)).length).getD n 0 + mid.length = (szs fs (c1 ++ (mid ++ c2)).length).getD n 0 + m := by
    intro n hn
    have h2 := szs_add fs (c1 ++ (mid ++ c2)).length (c1 ++ (m2 ++ c2)).length n hn
    simp only [List.length_append] at h2
    have h3 : ∀ (fs : List Frm) (x n : Nat), n ≤ fs.length → (szs fs x).getD n 0 ≤ (szs fs x).getD 0 0 := by
      intro fs
      induction fs with
      | nil =>
        intro x n hn
        have : n = 0 := by simpa using hn
        subst this
        exact Nat.le_refl _
      | cons f fs ih =>
        intro x n hn
        cases n with
        | zero => exact Nat.le_refl _
        | succ n =>
          rw [szs, List.getD_cons_succ, List.getD_cons_zero]
          have := ih x n (by simpa using hn)
          omega
    have h4 : ∀ (fs : List Frm) (c : List Nat), (szs fs c.length).getD 0 0 = (nst fs c (szs fs c.length)).length := by
      intro fs
      induction fs with
      | nil => intro c; simp [szs, nst, le4_len]; omega
      | cons f fs ih =>
        intro c
        rw [szs, nst, List.drop_one, List.tail_cons, List.getD_cons_zero]
        simp only [List.length_append, le4_len, List.length_cons, ← ih, List.length_nil]
        omega
    have h5 := h3 fs (c1 ++ (mid ++ c2)).length n hn
    rw [h4, ← hl] at h5
    refine ⟨by omega, ?_⟩
    simp only [List.length_append]
    rw [hm2] at h2 ⊢
    omega
  have key : ∀ (k n : Nat) (U : sT), n + k = fs.length + 1 → eqB 7 (nst fs (c1 ++ (m2 ++ c2)) ((szs fs (c1 ++ (m2 ++ c2)).length).take n ++ (szs fs (c1 ++ (mid ++ c2)).length).drop n)) S U → sm_W N (d + 2 + 1) mm_E_resize 23 [(0, .ref 9), (2, .int (nI mid.length)), (3, .int (nI m)), (4, .int (nI n))] [] (hp U) Q := by
    intro k
    induction k with
    | zero =>
      intro n U hn hU
      have : n = fs.length + 1 := by omega
      subst this
      have l1 := szs_len fs (c1 ++ (m2 ++ c2)).length
      have l2 := szs_len fs (c1 ++ (mid ++ c2)).length
      rw [List.take_of_length_le (by omega), List.drop_eq_nil_of_le (by omega), List.append_nil] at hU
      refine kE_resize_23 ⟨_, hg_9_5 U, fun _ => hQ U m2 hm2 hU, fun c => absurd ?_ c⟩
      rw [eqB_i hU (by omega), hH.1]
      exact (nI_leI (by omega) (by omega)).mpr (Nat.le_refl _)
    | succ k ih =>
      intro n U hn hU
      have l1 := szs_len fs (c1 ++ (m2 ++ c2)).length
      have l2 := szs_len fs (c1 ++ (mid ++ c2)).length
      obtain ⟨s1, s2⟩ := sz n (by omega)
      obtain ⟨x1, x2⟩ := mix_set n (szs fs (c1 ++ (m2 ++ c2)).length) (szs fs (c1 ++ (mid ++ c2)).length) (by omega) (by omega)
      obtain ⟨A2, B2, hA2, hAB2⟩ := nst_s fs n ((szs fs (c1 ++ (m2 ++ c2)).length).take n ++ (szs fs (c1 ++ (mid ++ c2)).length).drop n) (c1 ++ (m2 ++ c2)) (by omega) (by rw [List.length_append, List.length_take, List.length_drop]; omega)
      have hbU : bl U 7 = A2 ++ (le4 ((szs fs (c1 ++ (mid ++ c2)).length).getD n 0) ++ B2) := by rw [← hAB2, x2]; exact hU.2.2
      generalize (szs fs (c1 ++ (mid ++ c2)).length).getD n 0 = sn at *
      generalize hso : (szs fs (c1 ++ (m2 ++ c2)).length).getD n 0 = so at *
      have u7 : U.1 7 = nI (fs.length + 1) := by rw [eqB_i hU (by omega)]; exact hH.1
      have u16 : U.2.1 16 n = nI A2.length := by rw [eqB_a hU (by omega), hA2]; exact hH.2 n (by omega)
      have hcU := bl_lenB hU.2.1
      rw [caps7] at hcU
      have hlU := congrArg List.length hbU
      simp only [List.length_append, le4_len] at hlU
      refine kE_resize_23 ⟨_, hg_9_5 U, fun c => ?_, fun _ => ⟨_, hg_9_1 U, _, hn_10 U, fun c => ?_, fun _ => ⟨_, hg_9_0 U, _, hg_9_1 U, _, hh_r U (by omega), _, hg_9_0 U, _, hg_9_1 U, _, hh_r U (by omega), ?_⟩⟩⟩
      · rw [u7, nI_leI (by omega) (by omega)] at c
        omega
      · rw [nI_gel (by omega) (by omega)] at c
        exact absurd (show 9 ≤ n from c) (by omega)
      · rw [u16]
        refine sB_intAt (j := 7) (d := d + 1) (by omega) hU.2.1 (by omega) ⟨_, rfl, ?_⟩
        have hi : i4 (bl U 7) A2.length = nI sn := by
          rw [i4, if_pos (by omega), hbU, u4_app_r (l := A2) (k := 0) (p := A2.length) rfl, u4_le4 (by omega)]
        rw [hi, nI_add, pk_sub (show mid.length ≤ sn + m by omega), show sn + m - mid.length = so by omega]
        refine sB_putInt (j := 7) (d := d) (by omega) hU.2.1 (by omega) hbU rfl (fun V hV => ⟨rfl, ?_⟩)
        rw [nI_1]
        refine ih (n + 1) V (by omega) ?_
        rw [← hAB2, x1] at hV
        exact eqB_tr hU hV
  exact key (fs.length + 1) 0 T (by omega) (by rw [List.take_zero, List.nil_append, List.drop_zero]; exact hT2)
end Ne
