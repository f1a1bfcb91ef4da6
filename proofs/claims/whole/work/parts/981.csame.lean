/-! the class: whether two values are the same -/
theorem cmp0 {a b : Int64} : lg_cmp a b = 0 ↔ a = b := by
  rw [lg_cmp]
  constructor
  · intro h
    split at h
    · exact absurd h (by decide)
    · split at h
      · assumption
      · exact absurd h (by decide)
  · intro h
    subst h
    rw [if_neg (show ¬ a > a from fun z => absurd z Int64.lt_irrefl), if_pos rfl]
theorem n8_inj {r1 r2 : List Nat} (h1 : lfR 8 r1) (h2 : lfR 8 r2) : nvR 8 r1 = nvR 8 r2 ↔ r1 = r2 := by
  have key : ∀ r, lfR 8 r → ∃ b, b ≤ 1 ∧ r = [b] := by
    intro r h
    rcases h with ⟨h, -⟩ | ⟨h, -⟩ | ⟨-, h⟩ | ⟨h, -⟩ | ⟨h, -⟩
    · exact absurd h (by decide)
    · exact absurd h (by decide)
    · exact h
    · exact absurd h (by decide)
    · exact absurd h (by decide)
  obtain ⟨a, ha, rfl⟩ := key r1 h1
  obtain ⟨b, hb, rfl⟩ := key r2 h2
  rcases (show a = 0 ∨ a = 1 by omega) with rfl | rfl <;> rcases (show b = 0 ∨ b = 1 by omega) with rfl | rfl <;> decide
theorem VD_lf {t k : Nat} {raw : List Nat} (h : VD t k raw) (hk : ¬ (k = 3 ∨ k = 4)) : lfR k raw := by
  cases t with
  | zero => exact h.2
  | succ t =>
    rcases h.2 with h | ⟨h, -⟩
    · exact h
    · exact absurd h hk
theorem smV_lf {t k1 k2 : Nat} {r1 r2 : List Nat} (hk : ¬ (k1 = 3 ∨ k1 = 4)) : smV t k1 r1 k2 r2 = true := by
  cases t with
  | zero => rfl
  | succ t => rw [smV, if_neg hk]
section Cs
variable {S : sT} {N j j2 : Nat}
theorem sh_27 {t D d k last1 last2 : Nat} {Q : Option Value → sm_H → Prop} (hj : j < 11) (hw : okB S j) (hj2 : j2 < 11) (hw2 : okB S j2) (hrec : ∀ (A1 B1 : List Nat) (e1 : El) (A2 B2 : List Nat) (e2 : El) (Q2 : Option Value → sm_H → Prop), bl S j = A1 ++ (enc1 e1 ++ B1) → bl S j2 = A2 ++ (enc1 e2 ++ B2) → wfE e1 → wfE e2 → VD t e1.1 e1.2.2 → VD t e2.1 e2.2.2 → Q2 (some (.int (if sameV t e1.1 e1.2.2 e2.1 e2.2.2 then 1 else 0))) (hp S) → sm_T N (d + 2) mm_D_sameValues [.ref (11 + 2 * j), .int (nI A1.length), .ref (11 + 2 * j2), .int (nI A2.length), .int (nI D)] (hp S) Q2) : ∀ (f1 f2 : List El) (X1 Y1 X2 Y2 : List Nat) (n i : Nat), bl S j = X1 ++ (encs f1 ++ Y1) → bl S j2 = X2 ++ (encs f2 ++ Y2) → X1.length + (encs f1).length = last1 → X2.length + (encs f2).length = last2 → n ≤ X1.length → (∀ e ∈ f1, wfE e ∧ VD t e.1 e.2.2) → (∀ e ∈ f2, wfE e ∧ VD t e.1 e.2.2) → (k = 4 → rnm i f1 = f1 ∧ rnm i f2 = f2) → (k = 3 ∨ k = 4) → Q (some (.int (if smL (smV t) (decide (k = 3)) f1 f2 then 1 else 0))) (hp S) →
    sm_W N (d + 2 + 1) mm_D_sameHolders 27 [(0, .ref (11 + 2 * j)), (2, .ref (11 + 2 * j2)), (4, .int (nI D)), (5, .int (nI last1)), (6, .int (nI last2)), (7, .int (nI X1.length)), (8, .int (nI X2.length)), (9, .int (nI n))] [] (hp S) Q := by
  have hlen := bl_lenB hw
  have hc := caps_le j
  have hlen2 := bl_lenB hw2
  have hc2 := caps_le j2
  have hlb : S.1 (30 + j) = nI (bl S j).length := by
    obtain ⟨nn, h1, h2, h3⟩ := hw
    rw [h2, bl_len h1 h2]
  intro f1
  induction f1 with
  | nil =>
    intro f2 X1 Y1 X2 Y2 n i h1 h2 l1 l2 hn v1 v2 h4 hk hQ
    have q1 := congrArg List.length h1
    have q2 := congrArg List.length h2
    simp only [encs_nil, List.length_append, List.length_nil] at q1 q2 l1
    have w104 : sm_W N (d + 2 + 1) mm_D_sameHolders 104 [(5, .int (nI last1)), (6, .int (nI last2)), (7, .int (nI X1.length)), (8, .int (nI X2.length))] [] (hp S) Q := by
      refine kD_sameHolders_104 ⟨fun c => ?_, fun _ => ?_⟩
      · rw [nI_ltI (by omega) (by omega)] at c
        omega
      · cases f2 with
        | nil =>
          simp only [encs_nil, List.length_nil] at l2
          refine ⟨fun c => ?_, fun _ => hQ⟩
          rw [nI_ltI (by omega) (by omega)] at c
          omega
        | cons e2 f2 =>
          have := enc1_len e2
          rw [encs_cons, List.length_append] at l2 q2
          exact ⟨fun _ => hQ, fun c => absurd ((nI_ltI (by omega) (by omega)).mpr (by omega)) c⟩
    exact kD_sameHolders_27 ⟨_, hb_g1 S hj, fun _ => w104, fun _ => ⟨fun _ => w104, fun c => absurd ((nI_leI (by omega) (by omega)).mpr (by omega)) c⟩⟩
  | cons e1 f1 ih =>
    intro f2 X1 Y1 X2 Y2 n i h1 h2 l1 l2 hn v1 v2 h4 hk hQ
    have he1 := enc1_len e1
    have q1 := congrArg List.length h1
    have q2 := congrArg List.length h2
    simp only [List.length_append] at q2
    rw [encs_cons, List.length_append] at l1
    simp only [encs_cons, List.length_append] at q1
    cases f2 with
    | nil =>
      simp only [encs_nil, List.length_nil] at l2 q2
      have w104 : sm_W N (d + 2 + 1) mm_D_sameHolders 104 [(5, .int (nI last1)), (6, .int (nI last2)), (7, .int (nI X1.length)), (8, .int (nI X2.length))] [] (hp S) Q := kD_sameHolders_104 ⟨fun _ => hQ, fun c => absurd ((nI_ltI (by omega) (by omega)).mpr (by omega)) c⟩
      exact kD_sameHolders_27 ⟨_, hb_g1 S hj, fun _ => w104, fun _ => ⟨fun _ => w104, fun _ => ⟨fun _ => w104, fun c => absurd ((nI_leI (by omega) (by omega)).mpr (by omega)) c⟩⟩⟩
    | cons e2 f2 =>
      have he2 := enc1_len e2
      rw [encs_cons, List.length_append] at l2 q2
      obtain ⟨w1, d1⟩ := v1 e1 List.mem_cons_self
      obtain ⟨w2, d2⟩ := v2 e2 List.mem_cons_self
      have g1 : bl S j = X1 ++ (enc1 e1 ++ (encs f1 ++ Y1)) := by rw [h1, encs_cons, List.append_assoc]
      have g2 : bl S j2 = X2 ++ (enc1 e2 ++ (encs f2 ++ Y2)) := by rw [h2, encs_cons, List.append_assoc]
      have g3 : bl S j = (X1 ++ enc1 e1) ++ (encs f1 ++ Y1) := by rw [g1, List.append_assoc]
      have g4 : bl S j2 = (X2 ++ enc1 e2) ++ (encs f2 ++ Y2) := by rw [g2, List.append_assoc]
      have n1 : bl S j = (X1 ++ [e1.1]) ++ (e1.2.1 ++ 0 :: (e1.2.2 ++ (encs f1 ++ Y1))) := by rw [g1]; simp [enc1]
      have n2 : bl S j2 = (X2 ++ [e2.1]) ++ (e2.2.1 ++ 0 :: (e2.2.2 ++ (encs f2 ++ Y2))) := by rw [g2]; simp [enc1]
      have hsl : smL (smV t) (decide (k = 3)) (e1 :: f1) (e2 :: f2) = (oneV e1.1 e1.2.2 e2.1 e2.2.2 && ((!(decide (k = 3)) || decide (e1.2.1 = e2.2.1)) && (smV t e1.1 e1.2.2 e2.1 e2.2.2 && smL (smV t) (decide (k = 3)) f1 f2))) := rfl
      rw [hsl] at hQ
      have h4t : k = 4 → e1.2.1 = e2.2.1 ∧ rnm (i + 1) f1 = f1 ∧ rnm (i + 1) f2 = f2 := fun c => by
        obtain ⟨a1, a2⟩ := h4 c
        rw [rnm] at a1 a2
        obtain ⟨b1, b2⟩ := List.cons.inj a1
        obtain ⟨b3, b4⟩ := List.cons.inj a2
        exact ⟨by rw [← b1, ← b3], b2, b4⟩
      refine kD_sameHolders_27 ⟨_, hb_g1 S hj, fun c => ?_, fun _ => ⟨fun c => ?_, fun _ => ⟨fun c => ?_, fun _ => ?_⟩⟩⟩
      · rw [hlb, nI_leI (by omega) (by omega)] at c
        omega
      · rw [nI_leI (by omega) (by omega)] at c
        omega
      · rw [nI_leI (by omega) (by omega)] at c
        omega
      · have p1 : nI X1.length + 1 = nI (X1 ++ [e1.1]).length := by rw [nI_1]; simp
        have p2 : nI X2.length + 1 = nI (X2 ++ [e2.1]).length := by rw [nI_1]; simp
        rw [p1, p2]
        refine sD_sameNames (d := d) hj hw hj2 hw2 n1 n2 w1.1 w2.1 ⟨_, rfl, fun c => ?_, fun c => ?_⟩
        · have hne : ¬ e1.2.1 = e2.2.1 := fun z => by
            rw [if_pos z] at c
            exact absurd c (by decide)
          have k3 : k = 3 := by
            rcases hk with hk | hk
            · exact hk
            · exact absurd (h4t hk).1 hne
          rw [decide_eq_true k3, decide_eq_false hne] at hQ
          cases ho : oneV e1.1 e1.2.2 e2.1 e2.2.2 with
          | true => rw [ho] at hQ; exact hQ
          | false => rw [ho] at hQ; exact hQ
        · have heq : e1.2.1 = e2.2.1 := by
            by_cases z : e1.2.1 = e2.2.1
            · exact z
            · rw [if_neg z] at c
              exact absurd rfl c
          rw [decide_eq_true heq, Bool.or_true, Bool.true_and, ← Bool.and_assoc] at hQ
          refine hrec X1 _ e1 X2 _ e2 _ g1 g2 w1 w2 d1 d2 ⟨_, rfl, fun c2 => ?_, fun c2 => ?_⟩
          · have hs : sameV t e1.1 e1.2.2 e2.1 e2.2.2 = false := by
              cases h : sameV t e1.1 e1.2.2 e2.1 e2.2.2 with
              | false => rfl
              | true => rw [h] at c2; exact absurd c2 (by decide)
            have hs2 : (oneV e1.1 e1.2.2 e2.1 e2.2.2 && smV t e1.1 e1.2.2 e2.1 e2.2.2) = false := hs
            rw [hs2, Bool.false_and] at hQ
            exact hQ
          · have hs : sameV t e1.1 e1.2.2 e2.1 e2.2.2 = true := by
              cases h : sameV t e1.1 e1.2.2 e2.1 e2.2.2 with
              | true => rfl
              | false => rw [h] at c2; exact absurd rfl c2
            have hs2 : (oneV e1.1 e1.2.2 e2.1 e2.2.2 && smV t e1.1 e1.2.2 e2.1 e2.2.2) = true := hs
            rw [hs2, Bool.true_and] at hQ
            refine eB_ve (d := d) hj hw g1 w1 ⟨_, rfl, eB_ve (d := d) hj2 hw2 g2 w2 ⟨_, rfl, ?_⟩⟩
            rw [nI_1]
            exact ih f2 (X1 ++ enc1 e1) Y1 (X2 ++ enc1 e2) Y2 (n + 1) (i + 1) g3 g4 (by rw [List.length_append]; omega) (by rw [List.length_append]; omega) (by rw [List.length_append]; omega) (fun x hx => v1 x (List.mem_cons_of_mem _ hx)) (fun x hx => v2 x (List.mem_cons_of_mem _ hx)) (fun c => (h4t c).2) hk hQ
theorem sv_body {t d D : Nat} {A1 B1 A2 B2 : List Nat} {e1 e2 : El} {Q : Option Value → sm_H → Prop} (hj : j < 11) (hw : okB S j) (hj2 : j2 < 11) (hw2 : okB S j2) (hsh : ∀ (A1 B1 r1 A2 B2 r2 : List Nat) (k : Nat) (Q2 : Option Value → sm_H → Prop), (k = 3 ∨ k = 4) → VD t k r1 → VD t k r2 → bl S j = A1 ++ (r1 ++ B1) → bl S j2 = A2 ++ (r2 ++ B2) → Q2 (some (.int (if smV t k r1 k r2 then 1 else 0))) (hp S) → sm_T N (d + 3) mm_D_sameHolders [.ref (11 + 2 * j), .int (nI A1.length), .ref (11 + 2 * j2), .int (nI A2.length), .int (nI (D + 1))] (hp S) Q2) (hD : D < 40) (h1 : bl S j = A1 ++ (enc1 e1 ++ B1)) (h2 : bl S j2 = A2 ++ (enc1 e2 ++ B2)) (w1 : wfE e1) (w2 : wfE e2) (v1 : VD t e1.1 e1.2.2) (v2 : VD t e2.1 e2.2.2) (hQ : Q (some (.int (if sameV t e1.1 e1.2.2 e2.1 e2.2.2 then 1 else 0))) (hp S)) : sm_T N (d + 3 + 1) mm_D_sameValues [.ref (11 + 2 * j), .int (nI A1.length), .ref (11 + 2 * j2), .int (nI A2.length), .int (nI D)] (hp S) Q := by
  have b1 := eB_len hw h1
  have b2 := eB_len hw2 h2
  have k1 := VD_k v1
  have k2 := VD_k v2
  have w50 : ¬ ((e1.1 = 16 ∨ e1.1 = 18) ∧ (e2.1 = 16 ∨ e2.1 = 18)) → sm_W N (d + 3 + 1) mm_D_sameValues 50 [(0, .ref (11 + 2 * j)), (1, .int (nI A1.length)), (2, .ref (11 + 2 * j2)), (3, .int (nI A2.length)), (4, .int (nI D)), (5, .int (nI e1.1)), (6, .int (nI e2.1))] [] (hp S) Q := by
    intro hnn
    refine kD_sameValues_50 ⟨fun c => ?_, fun c => ?_⟩
    · rw [nI_eq (by omega) (by omega)] at c
      refine eB_vs (d := d + 2) hj hw h1 w1 ⟨_, rfl, eB_vs (d := d + 2) hj2 hw2 h2 w2 ⟨_, rfl, sD_isHolder (d := d + 2) k1 ⟨_, rfl, fun c2 => ?_, fun c2 => ?_⟩⟩⟩
      · have hh : ¬ (e1.1 = 3 ∨ e1.1 = 4) := fun z => by
          rw [if_pos z] at c2
          exact absurd c2 (by decide)
        have f1 := VD_lf v1 hh
        have f2 := VD_lf v2 (by rw [← c]; exact hh)
        refine eB_ve (d := d + 1) hj hw h1 w1 ⟨_, rfl, eB_ve (d := d + 1) hj2 hw2 h2 w2 ⟨_, rfl, ?_⟩⟩
        have q1 : (A1 ++ enc1 e1).length = A1.length + 2 + e1.2.1.length + e1.2.2.length := by rw [List.length_append, enc1_len]; omega
        have q2 : (A2 ++ enc1 e2).length = A2.length + 2 + e2.2.1.length + e2.2.2.length := by rw [List.length_append, enc1_len]; omega
        rw [q1, q2]
        refine sD_sameRange (d := d + 1) hj hw hj2 hw2 (by omega) (by omega) (by omega) (by omega) ⟨_, rfl, ?_, ?_⟩
        · split
          · exact Or.inr rfl
          · exact Or.inl rfl
        · rw [eB_raw h1, eB_raw h2]
          have hs : sameV t e1.1 e1.2.2 e2.1 e2.2.2 = decide (e1.2.2 = e2.2.2) := by
            rw [sameV, smV_lf hh, Bool.and_true, oneV, ← c, decide_eq_true rfl, Bool.true_and]
            split
            · rfl
            · rename_i z2
              have h16 : ¬ e1.1 = 16 := fun z => hnn ⟨Or.inl z, Or.inl (c ▸ z)⟩
              have h18 : ¬ e1.1 = 18 := fun z => hnn ⟨Or.inr z, Or.inr (c ▸ z)⟩
              by_cases k8 : e1.1 = 8
              · rw [k8]
                rw [← c, k8] at f2
                rw [k8] at f1
                have := n8_inj f1 f2
                by_cases z : e1.2.2 = e2.2.2
                · rw [decide_eq_true z, decide_eq_true (this.mpr z)]
                · rw [decide_eq_false z, decide_eq_false (fun y => z (this.mp y))]
              · have k10 : e1.1 = 10 := by
                  rcases f1 with ⟨y, -⟩ | ⟨y, -⟩ | ⟨y, -⟩ | ⟨y, -⟩ | ⟨y, -⟩
                  · exact absurd y h16
                  · exact absurd y h18
                  · exact absurd y k8
                  · exact y
                  · exact absurd y z2
                rw [← c, k10] at f2
                rw [k10] at f1
                have z10 : ∀ r, lfR 10 r → r = [] := by
                  intro r h
                  rcases h with ⟨y, -⟩ | ⟨y, -⟩ | ⟨y, -⟩ | ⟨-, y⟩ | ⟨y, -⟩
                  · exact absurd y (by decide)
                  · exact absurd y (by decide)
                  · exact absurd y (by decide)
                  · exact y
                  · exact absurd y (by decide)
                rw [z10 _ f1, z10 _ f2, decide_eq_true rfl, decide_eq_true rfl]
          rw [hs] at hQ
          by_cases z : e1.2.2 = e2.2.2
          · rw [if_pos z]
            rw [decide_eq_true z] at hQ
            exact hQ
          · rw [if_neg z]
            rw [decide_eq_false z] at hQ
            exact hQ
      · have hh : e1.1 = 3 ∨ e1.1 = 4 := by
          by_cases z : e1.1 = 3 ∨ e1.1 = 4
          · exact z
          · rw [if_neg z] at c2
            exact absurd rfl c2
        refine ⟨fun c3 => ?_, fun _ => ?_⟩
        · rw [nI_gel (by omega) (by omega)] at c3
          exact absurd (show 40 ≤ D from c3) (by omega)
        · have g1 : bl S j = (A1 ++ (e1.1 :: (e1.2.1 ++ [0]))) ++ (e1.2.2 ++ B1) := by rw [h1]; simp [enc1]
          have g2 : bl S j2 = (A2 ++ (e2.1 :: (e2.2.1 ++ [0]))) ++ (e2.2.2 ++ B2) := by rw [h2]; simp [enc1]
          have q1 : A1.length + 2 + e1.2.1.length = (A1 ++ (e1.1 :: (e1.2.1 ++ [0]))).length := by simp; omega
          have q2 : A2.length + 2 + e2.2.1.length = (A2 ++ (e2.1 :: (e2.2.1 ++ [0]))).length := by simp; omega
          rw [q1, q2, nI_1]
          rw [← c] at v2 hQ
          have hs : sameV t e1.1 e1.2.2 e1.1 e2.2.2 = smV t e1.1 e1.2.2 e1.1 e2.2.2 := by
            have n0 : ∀ r, nvR e1.1 r = 0 := fun r => by
              rw [nvR, if_neg (by omega), if_neg (by omega), if_neg (by omega)]
            rw [sameV, oneV, decide_eq_true rfl, if_neg (by omega), n0, n0, decide_eq_true rfl]
            rfl
          rw [hs] at hQ
          refine hsh _ _ _ _ _ _ e1.1 _ hh v1 v2 g1 g2 ⟨_, rfl, fun c4 => ?_, fun c4 => ?_⟩
          · cases h : smV t e1.1 e1.2.2 e1.1 e2.2.2 with
            | false => rw [h] at hQ; exact hQ
            | true => rw [h] at c4; exact absurd c4 (by decide)
          · cases h : smV t e1.1 e1.2.2 e1.1 e2.2.2 with
            | true => rw [h] at hQ; exact hQ
            | false => rw [h] at c4; exact absurd rfl c4
    · rw [nI_eq (by omega) (by omega)] at c
      have hcl : ¬ clsK e1.1 = clsK e2.1 := by
        unfold clsK
        split <;> split <;> omega
      rw [sameV, oneV, decide_eq_false hcl, Bool.false_and, Bool.false_and] at hQ
      exact hQ
  refine cD_sameValues (eB_kind (d := d + 2) hj hw h1 ⟨_, rfl, eB_kind (d := d + 2) hj2 hw2 h2 ⟨_, rfl, sD_isNumber (d := d + 2) k1 ⟨_, rfl, fun c => w50 (fun z => ?_), fun c => sD_isNumber (d := d + 2) k2 ⟨_, rfl, fun c2 => w50 (fun z => ?_), fun c2 => ?_⟩⟩⟩⟩)
  · rw [if_pos z.1] at c
    exact absurd c (by decide)
  · rw [if_pos z.2] at c2
    exact absurd c2 (by decide)
  · have n1 : e1.1 = 16 ∨ e1.1 = 18 := by
      by_cases z : e1.1 = 16 ∨ e1.1 = 18
      · exact z
      · rw [if_neg z] at c
        exact absurd rfl c
    have n2 : e2.1 = 16 ∨ e2.1 = 18 := by
      by_cases z : e2.1 = 16 ∨ e2.1 = 18
      · exact z
      · rw [if_neg z] at c2
        exact absurd rfl c2
    have hs : sameV t e1.1 e1.2.2 e2.1 e2.2.2 = decide (nvR e1.1 e1.2.2 = nvR e2.1 e2.2.2) := by
      have hcl : clsK e1.1 = clsK e2.1 := by
        unfold clsK
        split <;> split <;> omega
      rw [sameV, smV_lf (by omega), Bool.and_true, oneV, decide_eq_true hcl, if_neg (by omega), Bool.true_and]
    rw [hs] at hQ
    refine sB_numberOf (d := d) hj hw h1 w1 n1 ⟨_, rfl, sB_numberOf (d := d) hj2 hw2 h2 w2 n2 ⟨_, rfl, fun c3 => ?_, fun c3 => ?_⟩⟩
    · rw [cmp0] at c3
      rw [decide_eq_true c3] at hQ
      exact hQ
    · rw [cmp0] at c3
      rw [decide_eq_false c3] at hQ
      exact hQ
theorem sD_sameV (hj : j < 11) (hw : okB S j) (hj2 : j2 < 11) (hw2 : okB S j2) : ∀ (t d D : Nat) (A1 B1 : List Nat) (e1 : El) (A2 B2 : List Nat) (e2 : El) (Q : Option Value → sm_H → Prop), D + t ≤ 39 → bl S j = A1 ++ (enc1 e1 ++ B1) → bl S j2 = A2 ++ (enc1 e2 ++ B2) → wfE e1 → wfE e2 → VD t e1.1 e1.2.2 → VD t e2.1 e2.2.2 → Q (some (.int (if sameV t e1.1 e1.2.2 e2.1 e2.2.2 then 1 else 0))) (hp S) → sm_T N (d + 2 * t + 4) mm_D_sameValues [.ref (11 + 2 * j), .int (nI A1.length), .ref (11 + 2 * j2), .int (nI A2.length), .int (nI D)] (hp S) Q := by
  have hlen := bl_lenB hw
  have hc := caps_le j
  have hlen2 := bl_lenB hw2
  have hc2 := caps_le j2
  intro t
  induction t with
  | zero =>
    intro d D A1 B1 e1 A2 B2 e2 Q hD h1 h2 w1 w2 v1 v2 hQ
    exact sv_body (t := 0) (d := d) hj hw hj2 hw2 (fun _ _ _ _ _ _ k _ hk v => absurd hk (lfR_k v.2).2) (by omega) h1 h2 w1 w2 v1 v2 hQ
  | succ t ih =>
    intro d D A1 B1 e1 A2 B2 e2 Q hD h1 h2 w1 w2 v1 v2 hQ
    refine sv_body (d := d + 2 * (t + 1)) hj hw hj2 hw2 (fun X1 Y1 r1 X2 Y2 r2 k Q2 hk u1 u2 g1 g2 q => ?_) (by omega) h1 h2 w1 w2 v1 v2 hQ
    have z1 := congrArg List.length g1
    have z2 := congrArg List.length g2
    simp only [List.length_append] at z1 z2
    obtain ⟨r1e, nm1, wf1, el1⟩ := VD_h hk (by omega) u1
    obtain ⟨r2e, nm2, wf2, el2⟩ := VD_h hk (by omega) u2
    rw [smV, if_pos hk] at q
    generalize els r1 = es1 at *
    generalize els r2 = es2 at *
    subst r1e r2e
    have m1 : bl S j = (X1 ++ le4 (5 + (encs es1).length)) ++ (encs es1 ++ ([0] ++ Y1)) := by rw [g1, encD]; simp
    have m2 : bl S j2 = (X2 ++ le4 (5 + (encs es2).length)) ++ (encs es2 ++ ([0] ++ Y2)) := by rw [g2, encD]; simp
    refine cD_sameHolders (eB_last (d := d + 2 * t + 2) hj hw g1 ⟨_, rfl, eB_last (d := d + 2 * t + 2) hj2 hw2 g2 ⟨_, rfl, ?_⟩⟩)
    have p1 : nI X1.length + 4 = nI (X1 ++ le4 (5 + (encs es1).length)).length := by rw [nI_al, List.length_append, le4_len]
    have p2 : nI X2.length + 4 = nI (X2 ++ le4 (5 + (encs es2).length)).length := by rw [nI_al, List.length_append, le4_len]
    rw [p1, p2]
    exact sh_27 (t := t) (D := D + 1) (d := d + 2 * t + 2) (k := k) hj hw hj2 hw2 (fun A1 B1 e1 A2 B2 e2 Q2 a1 a2 a3 a4 a5 a6 a7 => ih d (D + 1) A1 B1 e1 A2 B2 e2 Q2 (by omega) a1 a2 a3 a4 a5 a6 a7) es1 es2 _ _ _ _ 0 0 m1 m2 (by rw [List.length_append, le4_len]) (by rw [List.length_append, le4_len]) (by omega) (fun e he => ⟨wf1 e he, (el1 e he).2.2⟩) (fun e he => ⟨wf2 e he, (el2 e he).2.2⟩) (fun c => ⟨nm1.2 c, nm2.2 c⟩) hk q
end Cs
