/-! Bytes, with places as natural numbers -/
theorem nI_al (a n : Nat) : nI a + (no_index (OfNat.ofNat n) : Int32) = nI (a + OfNat.ofNat n) := nI_add a n
theorem nI_la (a n : Nat) : (no_index (OfNat.ofNat n) : Int32) + nI a = nI (OfNat.ofNat n + a) := nI_add n a
theorem nI_sl {a n : Nat} (h : OfNat.ofNat n ≤ a) : nI a - (no_index (OfNat.ofNat n) : Int32) = nI (a - OfNat.ofNat n) := pk_sub h
theorem nI_mul (a n : Nat) : (no_index (OfNat.ofNat n) : Int32) * nI a = nI (OfNat.ofNat n * a) := pk_mul n a
theorem nI_lel {a n : Nat} (ha : a < 2 ^ 31) (hn : (OfNat.ofNat n : Nat) < 2 ^ 31) : nI a ≤ (no_index (OfNat.ofNat n) : Int32) ↔ a ≤ OfNat.ofNat n := nI_leI ha hn
theorem nI_ltl {a n : Nat} (ha : a < 2 ^ 31) (hn : (OfNat.ofNat n : Nat) < 2 ^ 31) : nI a < (no_index (OfNat.ofNat n) : Int32) ↔ a < OfNat.ofNat n := nI_ltI ha hn
theorem nI_gel {a n : Nat} (ha : a < 2 ^ 31) (hn : (OfNat.ofNat n : Nat) < 2 ^ 31) : (no_index (OfNat.ofNat n) : Int32) ≤ nI a ↔ OfNat.ofNat n ≤ a := nI_leI hn ha
theorem nI_gtl {a n : Nat} (ha : a < 2 ^ 31) (hn : (OfNat.ofNat n : Nat) < 2 ^ 31) : (no_index (OfNat.ofNat n) : Int32) < nI a ↔ OfNat.ofNat n < a := nI_ltI hn ha
theorem nI_eql {a n : Nat} (ha : a < 2 ^ 31) (hn : (OfNat.ofNat n : Nat) < 2 ^ 31) : nI a = (no_index (OfNat.ofNat n) : Int32) ↔ a = OfNat.ofNat n := nI_eq ha hn
theorem hb_r (S : sT) {j k : Nat} (hj : j < 11) (hk : k < caps j) : sm_gi (hp S) (12 + 2 * j) 0 (nI k) = some (S.2.1 j k) := by
  have := caps_le j
  rw [hb_a S hj, nI_t (by omega), if_pos ⟨by omega, by omega⟩, nI_clamp (by omega)]
theorem gb_n (l : List Nat) (k : Nat) : gb l (k : Int) = l.getD k 0 := by simp [gb]
theorem bl_get {S : sT} {j n k : Nat} (hn : n ≤ caps j) (hl : S.1 (30 + j) = nI n) (hk : k < n) : (bl S j).getD k 0 = ub (S.2.1 j k) := by
  rw [bl_eq hn hl, bytesOf_get _ _ hk, Nat.zero_add]
theorem nI_or (a b : Nat) : nI a ||| nI b = nI (a ||| b) := by
  show Int32.ofNat a ||| Int32.ofNat b = Int32.ofNat (a ||| b)
  rw [← Int32.toBitVec_inj]
  simp [Int32.toBitVec_or, BitVec.ofNat_or]
theorem or_add {a b k : Nat} (h : a < 2 ^ k) : a ||| (b * 2 ^ k) = a + b * 2 ^ k := by
  have := Nat.two_pow_add_eq_or_of_lt h b
  rw [Nat.or_comm, Nat.mul_comm b, ← this]
  omega
theorem u4_or {a b c e : Nat} (ha : a < 256) (hb : b < 256) (hc : c < 256) (he : e < 256) : ((nI a ||| nI b <<< ((8 : Int32) &&& 31)) ||| nI c <<< ((16 : Int32) &&& 31)) ||| nI e <<< ((24 : Int32) &&& 31) = nI (a + 256 * b + 65536 * c + 16777216 * e) := by
  rw [pk_shlN (n := b) _ 8 (by decide) (by omega), pk_shlN (n := c) _ 16 (by decide) (by omega), pk_shlN (n := e) _ 24 (by decide) (by omega), nI_or, nI_or, nI_or, or_add (k := 8) (by omega), or_add (k := 16) (by omega), or_add (k := 24) (by omega)]
  congr 1
  omega
/-- the int at a place, 0 where there are no four bytes -/
def i4 (l : List Nat) (k : Nat) : Int32 := if k + 4 ≤ l.length then nI (u4 l k) else 0
section BSpecs2
variable {S : sT} {j N d : Nat} {Q : Option Value → sm_H → Prop}
theorem sB_atn {k : Nat} (hj : j < 11) (hw : okB S j) (hk : k < 2147483648) (hQ : Q (some (.int (nI ((bl S j).getD k 0)))) (hp S)) : sm_V N (d + 1) mm_B_at 0 (11 + 2 * j) [.int (nI k)] (hp S) Q := by
  refine sB_at hj hw ?_
  rw [nI_t hk, gb_n]
  exact hQ
theorem sB_intAt {k : Nat} (hj : j < 11) (hw : okB S j) (hk : k < 1000000) (hQ : Q (some (.int (i4 (bl S j) k))) (hp S)) : sm_V N (d + 1) mm_B_intAt 0 (11 + 2 * j) [.int (nI k)] (hp S) Q := by
  obtain ⟨n, hn, hl, hf⟩ := hw
  have hc := caps_le j
  have hlen := bl_len hn hl
  refine cB_intAt (hb_k S hj) ⟨fun c => ?_, fun c => ⟨_, hb_g1 S hj, fun c2 => ?_, fun c2 => ?_⟩⟩
  · exact absurd c (nI_pos (by omega))
  · rw [hl] at c2
    have c3 : k + 4 ≤ n := by
      rw [ti_le, nI_t (by omega), ti_sub (by rw [nI_t (by omega)]; simp; omega) (by rw [nI_t (by omega)]; simp; omega), nI_t (by omega)] at c2
      simp at c2
      omega
    simp only [nI_al]
    refine ⟨_, hb_g0 S hj, _, hb_r S hj (by omega), _, hb_g0 S hj, _, hb_r S hj (by omega), _, hb_g0 S hj, _, hb_r S hj (by omega), _, hb_g0 S hj, _, hb_r S hj (by omega), ?_⟩
    simp only [ub_and]
    rw [u4_or (ub_lt _) (ub_lt _) (ub_lt _) (ub_lt _)]
    rw [i4, if_pos (by omega), u4, bl_get hn hl (by omega), bl_get hn hl (by omega), bl_get hn hl (by omega), bl_get hn hl (by omega)] at hQ
    exact hQ
  · rw [hl] at c2
    have c3 : ¬ k + 4 ≤ n := by
      intro c3
      refine c2 ?_
      rw [ti_le, nI_t (by omega), ti_sub (by rw [nI_t (by omega)]; simp; omega) (by rw [nI_t (by omega)]; simp; omega), nI_t (by omega)]
      simp
      omega
    rw [i4, if_neg (by omega)] at hQ
    exact hQ
end BSpecs2
