/-! the reference's writers: digits, numbers, values -/
def w8 (v : Int64) (i : Nat) : Nat := ub (Int64.toInt32 ((v >>> (Int32.toInt64 (8 * nI i) &&& 63)) &&& 255))
theorem sh64 (v : Int64) {i : Nat} (hi : i < 8) : (v >>> (Int32.toInt64 (8 * nI i) &&& 63)).toInt = v.toInt / 2 ^ (8 * i) := by
  have key : ∀ (s : Int64) (n : Nat), (s.toBitVec.smod 64).toNat = n → (v >>> s).toInt = v.toInt / 2 ^ n := by
    intro s n h
    have e : (v >>> s).toInt = (BitVec.sshiftRight' v.toBitVec (s.toBitVec.smod 64)).toInt := rfl
    rw [e, BitVec.sshiftRight', h, BitVec.toInt_sshiftRight, Int.shiftRight_eq_div_pow]
    rfl
  rcases (show i = 0 ∨ i = 1 ∨ i = 2 ∨ i = 3 ∨ i = 4 ∨ i = 5 ∨ i = 6 ∨ i = 7 by omega) with rfl | rfl | rfl | rfl | rfl | rfl | rfl | rfl <;> exact key _ _ (by decide)
theorem w8_t (v : Int64) {i : Nat} (hi : i < 8) : (w8 v i : Int) = v.toInt / 2 ^ (8 * i) % 256 := by
  have e : Int64.toInt32 ((v >>> (Int32.toInt64 (8 * nI i) &&& 63)) &&& 255) = Int64.toInt32 (v >>> (Int32.toInt64 (8 * nI i) &&& 63)) &&& 255 := by
    rw [Int64.toInt32_and]
    rfl
  rw [w8, e, ub_and, ub_nI (ub_lt _), ub_ti, Int64.toInt_toInt32, sh64 v hi]
  have h2 : ∀ x : Int, x.bmod (2 ^ 32) % 256 = x % 256 := by
    intro x
    have h1 := Int.bmod_emod (x := x) (m := 2 ^ 32)
    have h3 : x.bmod (2 ^ 32) % 4294967296 = x % 4294967296 := h1
    omega
  exact h2 _
theorem lw_4 (v : Int64) : lw v 4 = [w8 v 0, w8 v 1, w8 v 2, w8 v 3] := rfl
theorem lw_8 (v : Int64) : lw v 8 = [w8 v 0, w8 v 1, w8 v 2, w8 v 3, w8 v 4, w8 v 5, w8 v 6, w8 v 7] := rfl
theorem lw_1 (v : Int64) : lw v 1 = [w8 v 0] := rfl
theorem and64 (x : Int64) : (x &&& 4294967295).toInt = x.toInt % 4294967296 := by
  have e1 : (x &&& 4294967295).toInt = (x.toBitVec &&& 4294967295#64).toInt := rfl
  have e2 : x.toInt = x.toBitVec.toInt := rfl
  have e3 : (x.toBitVec &&& 4294967295#64).toNat = x.toBitVec.toNat % 4294967296 := by
    rw [BitVec.toNat_and]
    exact Nat.and_two_pow_sub_one_eq_mod _ 32
  rw [e1, e2, BitVec.toInt_eq_toNat_cond, BitVec.toInt_eq_toNat_cond, e3]
  have := x.toBitVec.isLt
  split <;> split <;> omega
theorem lw_le4 {n : Nat} {v : Int64} (hv : v.toInt = n) (hn : n < 4294967296) : lw v 4 = le4 n := by
  have a0 := w8_t v (i := 0) (by omega)
  have a1 := w8_t v (i := 1) (by omega)
  have a2 := w8_t v (i := 2) (by omega)
  have a3 := w8_t v (i := 3) (by omega)
  rw [hv] at a0 a1 a2 a3
  simp only [Nat.mul_zero, Int.pow_zero] at a0
  have p1 : (2 : Int) ^ (8 * 1) = 256 := by decide
  have p2 : (2 : Int) ^ (8 * 2) = 65536 := by decide
  have p3 : (2 : Int) ^ (8 * 3) = 16777216 := by decide
  rw [p1] at a1
  rw [p2] at a2
  rw [p3] at a3
  rw [lw_4, le4]
  simp only [List.cons.injEq, and_true]
  refine ⟨by omega, by omega, by omega, by omega⟩
theorem lw_n16 {raw : List Nat} (h4 : raw.length = 4) (hb : ∀ b ∈ raw, b < 256) : lw (nvR 16 raw) 4 = raw := by
  match raw, h4 with
  | [a, b, c, e], _ =>
    have ha := hb a (by simp)
    have hb1 := hb b (by simp)
    have hc := hb c (by simp)
    have he := hb e (by simp)
    have hu : u4 [a, b, c, e] 0 = a + 256 * b + 65536 * c + 16777216 * e := rfl
    have hv : (nvR 16 [a, b, c, e]).toInt = if u4 [a, b, c, e] 0 < 2147483648 then (u4 [a, b, c, e] 0 : Int) else u4 [a, b, c, e] 0 - 4294967296 := by
      show (Int32.toInt64 (nI (u4 [a, b, c, e] 0))).toInt = _
      rw [Int32.toInt_toInt64, nI_tc (by omega)]
    generalize nvR 16 [a, b, c, e] = v at *
    have a0 := w8_t v (i := 0) (by omega)
    have a1 := w8_t v (i := 1) (by omega)
    have a2 := w8_t v (i := 2) (by omega)
    have a3 := w8_t v (i := 3) (by omega)
    simp only [Nat.mul_zero, Int.pow_zero] at a0
    have p1 : (2 : Int) ^ (8 * 1) = 256 := by decide
    have p2 : (2 : Int) ^ (8 * 2) = 65536 := by decide
    have p3 : (2 : Int) ^ (8 * 3) = 16777216 := by decide
    rw [p1] at a1
    rw [p2] at a2
    rw [p3] at a3
    rw [hu] at hv
    rw [lw_4]
    simp only [List.cons.injEq, and_true]
    split at hv <;> refine ⟨by omega, by omega, by omega, by omega⟩
theorem lw_n18 {raw : List Nat} (h8 : raw.length = 8) (hb : ∀ b ∈ raw, b < 256) : lw (nvR 18 raw) 8 = raw := by
  match raw, h8 with
  | [a, b, c, e, a2, b2, c2, e2], _ =>
    have ha := hb a (by simp)
    have hb1 := hb b (by simp)
    have hc := hb c (by simp)
    have he := hb e (by simp)
    have ha2 := hb a2 (by simp)
    have hb2 := hb b2 (by simp)
    have hc2 := hb c2 (by simp)
    have he2 := hb e2 (by simp)
    have hu : u4 [a, b, c, e, a2, b2, c2, e2] 0 = a + 256 * b + 65536 * c + 16777216 * e := rfl
    have hw : u4 [a, b, c, e, a2, b2, c2, e2] 4 = a2 + 256 * b2 + 65536 * c2 + 16777216 * e2 := rfl
    have hv : (nvR 18 [a, b, c, e, a2, b2, c2, e2]).toInt = (if u4 [a, b, c, e, a2, b2, c2, e2] 4 < 2147483648 then (u4 [a, b, c, e, a2, b2, c2, e2] 4 : Int) else u4 [a, b, c, e, a2, b2, c2, e2] 4 - 4294967296) * 4294967296 + u4 [a, b, c, e, a2, b2, c2, e2] 0 := by
      show ((Int32.toInt64 (nI (u4 [a, b, c, e, a2, b2, c2, e2] 4)) * 4294967296) + (Int32.toInt64 (nI (u4 [a, b, c, e, a2, b2, c2, e2] 0)) &&& 4294967295)).toInt = _
      have c1 : (4294967296 : Int64).toInt = 4294967296 := by decide
      rw [Int64.toInt_add, Int64.toInt_mul, and64, Int32.toInt_toInt64, Int32.toInt_toInt64, nI_tc (by omega), nI_tc (by omega), c1, hu, hw]
      generalize hL : a + 256 * b + 65536 * c + 16777216 * e = L
      generalize hH : a2 + 256 * b2 + 65536 * c2 + 16777216 * e2 = W
      have l1 : L < 4294967296 := by omega
      have l2 : W < 4294967296 := by omega
      have m1 : ∀ x : Int, -9223372036854775808 ≤ x → x < 9223372036854775808 → x.bmod (2 ^ 64) = x := fun x x1 x2 => Int.bmod_eq_of_le (by simpa using x1) (by simpa using x2)
      split <;> split <;> rw [m1 (_ * _) (by omega) (by omega), m1 _ (by omega) (by omega)] <;> omega
    generalize nvR 18 [a, b, c, e, a2, b2, c2, e2] = v at *
    rw [hu, hw] at hv
    have q0 := w8_t v (i := 0) (by omega)
    have q1 := w8_t v (i := 1) (by omega)
    have q2 := w8_t v (i := 2) (by omega)
    have q3 := w8_t v (i := 3) (by omega)
    have q4 := w8_t v (i := 4) (by omega)
    have q5 := w8_t v (i := 5) (by omega)
    have q6 := w8_t v (i := 6) (by omega)
    have q7 := w8_t v (i := 7) (by omega)
    simp only [Nat.mul_zero, Int.pow_zero] at q0
    rw [show (2 : Int) ^ (8 * 1) = 256 by decide] at q1
    rw [show (2 : Int) ^ (8 * 2) = 65536 by decide] at q2
    rw [show (2 : Int) ^ (8 * 3) = 16777216 by decide] at q3
    rw [show (2 : Int) ^ (8 * 4) = 4294967296 by decide] at q4
    rw [show (2 : Int) ^ (8 * 5) = 1099511627776 by decide] at q5
    rw [show (2 : Int) ^ (8 * 6) = 281474976710656 by decide] at q6
    rw [show (2 : Int) ^ (8 * 7) = 72057594037927936 by decide] at q7
    rw [lw_8]
    simp only [List.cons.injEq, and_true]
    split at hv <;> refine ⟨by omega, by omega, by omega, by omega, by omega, by omega, by omega, by omega⟩
theorem lw_n8 {b : Nat} (hb : b ≤ 1) : lw (nvR 8 [b]) 1 = [b] := by
  rcases (show b = 0 ∨ b = 1 by omega) with rfl | rfl <;> decide
section MW2
variable {S : sT} {N d : Nat} {Q : Option Value → sm_H → Prop}
theorem sM_writeDigits {v : Nat} (hw : okO S) (hv : v < 100000) (hl : (ol S).length + nd v + 1 ≤ 16000) (hQ : ∀ S2, eqO (ol S ++ dg v) S S2 → Q none (hp S2)) : sm_V N (d + 2) mm_M_writeDigits 5 33 [.int (nI v)] (hp S) Q := by
  have h4 := nd_le v
  have w18 : ∀ (k : Nat) (T : sT) (l : List Nat), k ≤ 4 → eqO l S T → l.length + k + 1 ≤ 16000 → (∀ S2, eqO (l ++ dgf k v) S S2 → Q none (hp S2)) → sm_W N (d + 1 + 1) mm_M_writeDigits 18 [(0, .ref 33), (1, .int (nI v)), (2, .int (nI (10 ^ k)))] [] (hp T) Q := by
    intro k
    induction k with
    | zero =>
      intro T l hk e hl hq
      refine kM_writeDigits_18 ⟨fun c => absurd c (by decide), fun _ => ⟨by decide, ?_⟩⟩
      refine sM_write e.2.1 (by rw [e.2.2]; omega) (fun T2 e2 => ⟨rfl, ?_⟩)
      have e3 := eqO_tr e e2
      have hd1 : ub (48 + ((nI v / nI (10 ^ 0)) - (nI v / nI (10 ^ 0)) / 10 * 10)) = 48 + v % 10 := by
        rw [pk_div (by omega) (by decide) (by decide), show (10 : Int32) = nI 10 from rfl, pk_rem (by simp; omega) (by decide) (by decide), nI_la, ub_nI (by omega)]
        simp
      rw [e.2.2, hd1] at e3
      exact kM_writeDigits_18 ⟨fun _ => hq T2 e3, fun c => absurd (by decide) c⟩
    | succ k ih =>
      intro T l hk e hl hq
      have hp1 := p10 (k := k + 1) (by omega)
      have hp0 := p10 (k := k) (by omega)
      refine kM_writeDigits_18 ⟨fun c => absurd c (nI_nle hp1.1 (by omega)), fun _ => ⟨nI_ne0 hp1.1 (by omega), ?_⟩⟩
      refine sM_write e.2.1 (by rw [e.2.2]; omega) (fun T2 e2 => ⟨rfl, ?_⟩)
      have e3 := eqO_tr e e2
      have hd1 : ub (48 + ((nI v / nI (10 ^ (k + 1))) - (nI v / nI (10 ^ (k + 1))) / 10 * 10)) = 48 + v / 10 ^ (k + 1) % 10 := by
        have hle : v / 10 ^ (k + 1) ≤ v := Nat.div_le_self ..
        rw [pk_div (by omega) hp1.1 (by omega), show (10 : Int32) = nI 10 from rfl, pk_rem (by omega) (by decide) (by decide), nI_la, ub_nI (by omega)]
      rw [e.2.2, hd1] at e3
      have hu : nI (10 ^ (k + 1)) / 10 = nI (10 ^ k) := by
        rw [show (10 : Int32) = nI 10 from rfl, pk_div (by omega) (by decide) (by decide)]
        exact congrArg nI (by rw [Nat.pow_succ, Nat.mul_div_cancel _ (by decide)])
      rw [hu]
      refine ih T2 (l ++ [48 + v / 10 ^ (k + 1) % 10]) (by omega) e3 (by simp; omega) (fun S2 q => hq S2 ?_)
      rw [List.append_assoc] at q
      exact q
  have w2 : ∀ (m k : Nat), k + m = nd v → sm_W N (d + 1 + 1) mm_M_writeDigits 2 [(0, .ref 33), (1, .int (nI v)), (2, .int (nI (10 ^ k)))] [] (hp S) Q := by
    intro m
    induction m with
    | zero =>
      intro k hk
      have : k = nd v := by omega
      subst this
      have hp0 := p10 (k := nd v) (by omega)
      have hle : v / 10 ^ nd v ≤ v := Nat.div_le_self ..
      refine kM_writeDigits_2 ⟨nI_ne0 hp0.1 (by omega), fun _ => w18 (nd v) S (ol S) h4 (eqO_id hw) (by omega) hQ, fun c => absurd ?_ c⟩
      rw [pk_div (by omega) hp0.1 (by omega), nI_lel (by omega) (by omega)]
      have := nd_hi hv
      rw [Nat.pow_succ] at this
      have : v / 10 ^ nd v < 10 := Nat.div_lt_of_lt_mul this
      omega
    | succ m ih =>
      intro k hk
      have hp0 := p10 (k := k) (by omega)
      have hle : v / 10 ^ k ≤ v := Nat.div_le_self ..
      refine kM_writeDigits_2 ⟨nI_ne0 hp0.1 (by omega), fun c => ?_, fun c => ?_⟩
      · rw [pk_div (by omega) hp0.1 (by omega), nI_lel (by omega) (by omega)] at c
        have := nd_lo (v := v) (k := k) (by omega)
        rw [Nat.pow_succ, Nat.mul_comm] at this
        have := (Nat.le_div_iff_mul_le hp0.1).mpr this
        omega
      · rw [show (10 : Int32) = nI 10 from rfl, Int32.mul_comm, pk_mul, Nat.mul_comm, ← Nat.pow_succ]
        exact ih (k + 1) (by omega)
  exact cM_writeDigits (hk_33 S) (w2 (nd v) 0 (by omega))
end MW2
