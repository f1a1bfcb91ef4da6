/-! the reference: isOne -/
def clsK (k : Nat) : Nat := if k = 18 then 16 else k
/-- two values are the same, but for what holders hold -/
def oneV (k1 : Nat) (r1 : List Nat) (k2 : Nat) (r2 : List Nat) : Bool := decide (clsK k1 = clsK k2) && (if k1 = 2 then decide (r1 = r2) else decide (nvR k1 r1 = nvR k2 r2))
theorem leaf_num {S : sT} {n k : Nat} {raw : List Nat} (h : leafV S n k raw) (h2 : k ≠ 2) : S.2.2 n = nvR k raw := by
  obtain ⟨-, h⟩ := h
  rcases h with ⟨rfl, -, h⟩ | ⟨rfl, -, h⟩ | ⟨rfl, -, h⟩ | ⟨rfl, rfl, h⟩ | ⟨rfl, -⟩
  · exact h
  · exact h
  · exact h
  · exact h
  · exact absurd rfl h2
theorem RV_num {t : Nat} {S : sT} {n k : Nat} {raw fp : List Nat} (h : RV t S n k raw fp) (h2 : k ≠ 2) : S.2.2 n = nvR k raw := by
  cases t with
  | zero => exact leaf_num h.2.2.2.2 h2
  | succ t =>
    rcases h.2.2.2 with ⟨-, q⟩ | ⟨q, h0, -⟩
    · exact leaf_num q h2
    · rcases q with rfl | rfl <;> exact h0
theorem RV_txt {t : Nat} {S : sT} {n : Nat} {raw fp : List Nat} (h : RV t S n 2 raw fp) : ∃ a tx, raw = le4 (tx.length + 1) ++ (tx ++ [0]) ∧ S.2.1 21 n = nI a ∧ S.2.1 22 n = nI tx.length ∧ a + tx.length ≤ 14100 ∧ slice (stl S) a (a + tx.length) = tx := by
  have hl : leafV S n 2 raw := by
    cases t with
    | zero => exact h.2.2.2.2
    | succ t =>
      rcases h.2.2.2 with ⟨-, q⟩ | ⟨q, -⟩
      · exact q
      · omega
  obtain ⟨-, hl⟩ := hl
  rcases hl with ⟨q, -⟩ | ⟨q, -⟩ | ⟨q, -⟩ | ⟨q, -⟩ | ⟨-, a, tx, q1, q2, q3, q4, q5, -⟩
  · omega
  · omega
  · omega
  · omega
  · exact ⟨a, tx, q1, q2, q3, q4, q5⟩
theorem RV_k {t : Nat} {S : sT} {n k : Nat} {raw fp : List Nat} (h : RV t S n k raw fp) : n < 6000 ∧ S.2.1 18 n = nI k ∧ k < 256 := by
  have lk : leafV S n k raw → k < 256 := by
    rintro ⟨-, q⟩
    rcases q with ⟨rfl, -⟩ | ⟨rfl, -⟩ | ⟨rfl, -⟩ | ⟨rfl, -⟩ | ⟨rfl, -⟩ <;> omega
  cases t with
  | zero => exact ⟨h.1, h.2.1, lk h.2.2.2.2⟩
  | succ t =>
    refine ⟨h.1, h.2.1, ?_⟩
    rcases h.2.2.2 with ⟨-, q⟩ | ⟨q, -⟩
    · exact lk q
    · omega
theorem txt_inj {a b : List Nat} : le4 (a.length + 1) ++ (a ++ [0]) = le4 (b.length + 1) ++ (b ++ [0]) ↔ a = b := by
  constructor
  · intro h
    have h1 : (a ++ [0]) = (b ++ [0]) := (List.append_inj h (by rw [le4_len, le4_len])).2
    exact List.append_cancel_right h1
  · intro h; rw [h]
section One
variable {S : sT} {N d : Nat} {Q : Option Value → sm_H → Prop}
theorem sM_classOf {k : Nat} (hk : k < 256) (hQ : Q (some (.int (nI (clsK k)))) (hp S)) : sm_T N (d + 1) mm_M_classOf [.int (nI k)] (hp S) Q := by
  unfold clsK at hQ
  refine cM_classOf ⟨fun c => ?_, fun c => ?_⟩
  · rw [nI_eql (by omega) (by omega)] at c
    rw [if_pos (show k = 18 from c)] at hQ
    exact hQ
  · rw [nI_eql (by omega) (by omega)] at c
    rw [if_neg (show ¬ k = 18 from c)] at hQ
    exact hQ
theorem clsK_lt {k : Nat} (h : k < 256) : clsK k < 256 := by
  unfold clsK
  split <;> omega
theorem sM_isOne {t1 t2 m n k1 k2 : Nat} {r1 r2 f1 f2 : List Nat} (hs : okSt S) (hA : RV t1 S m k1 r1 f1) (hB : RV t2 S n k2 r2 f2) (hQ : Q (some (.int (if oneV k1 r1 k2 r2 then 1 else 0))) (hp S)) : sm_V N (d + 2) mm_M_isOne 5 33 [.int (nI m), .int (nI n)] (hp S) Q := by
  obtain ⟨hm, km, kl1⟩ := RV_k hA
  obtain ⟨hn, kn, kl2⟩ := RV_k hB
  have c1 := clsK_lt kl1
  have c2 := clsK_lt kl2
  refine cM_isOne (hk_33 S) ⟨_, hg_33_7 S, _, (hq_r S hm).1, ?_⟩
  rw [km]
  refine sM_classOf kl1 ⟨_, rfl, _, hg_33_7 S, _, (hq_r S hn).1, ?_⟩
  rw [kn]
  refine sM_classOf kl2 ⟨_, rfl, fun c => ⟨_, hg_33_7 S, _, (hq_r S hm).1, ?_⟩, fun c => ?_⟩
  · rw [nI_eq (by omega) (by omega)] at c
    rw [oneV, decide_eq_true c, Bool.true_and] at hQ
    rw [km]
    refine ⟨fun e => ?_, fun e => ?_⟩
    · rw [nI_eql (by omega) (by omega)] at e
      have e2 : k1 = 2 := e
      have e3 : k2 = 2 := by
        unfold clsK at c
        rw [e2, if_neg (by omega)] at c
        split at c <;> omega
      subst e2
      subst e3
      rw [if_pos rfl] at hQ
      obtain ⟨a, tx, q1, q2, q3, q4, q5⟩ := RV_txt hA
      obtain ⟨b, ty, p1, p2, p3, p4, p5⟩ := RV_txt hB
      refine ⟨_, hg_33_11 S, _, (hq_r S hm).2.2.2.1, _, hg_33_12 S, _, (hq_r S hm).2.2.2.2.1, _, hg_33_11 S, _, (hq_r S hn).2.2.2.1, _, hg_33_12 S, _, (hq_r S hn).2.2.2.2.1, ?_⟩
      rw [q2, q3, p2, p3]
      have hq2 : Q (some (.int (if slice (stl S) a (a + tx.length) = slice (stl S) b (b + ty.length) then 1 else 0))) (hp S) := by
        rw [q5, p5]
        by_cases h : tx = ty
        · rw [if_pos (by simpa using (show r1 = r2 by rw [q1, p1, h]))] at hQ
          rw [if_pos h]
          exact hQ
        · rw [if_neg (by simpa using (show ¬ r1 = r2 from fun z => h (txt_inj.mp (by rw [← q1, ← p1]; exact z))))] at hQ
          rw [if_neg h]
          exact hQ
      refine sM_isAlike hs q4 p4 ⟨_, rfl, ?_, hq2⟩
      split
      · exact Or.inr rfl
      · exact Or.inl rfl
    · rw [nI_eql (by omega) (by omega)] at e
      have e2 : ¬ k1 = 2 := e
      have e3 : ¬ k2 = 2 := by
        intro z
        unfold clsK at c
        rw [z] at c
        split at c <;> simp at c <;> omega
      rw [if_neg e2] at hQ
      refine ⟨_, hg_33_10 S, _, hl_r S hm, _, hg_33_10 S, _, hl_r S hn, fun z => ?_, fun z => ?_⟩
      · rw [lg_cmp_eq, RV_num hA e2, RV_num hB e3] at z
        rw [if_pos (by simpa using z)] at hQ
        exact hQ
      · rw [lg_cmp_eq, RV_num hA e2, RV_num hB e3] at z
        rw [if_neg (by simpa using z)] at hQ
        exact hQ
  · rw [nI_eq (by omega) (by omega)] at c
    rw [oneV, decide_eq_false c, Bool.false_and] at hQ
    exact hQ
end One
