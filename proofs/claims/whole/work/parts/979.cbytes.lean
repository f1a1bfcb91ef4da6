/-! the class's bytes: an element at a place, numbers, sizes put -/
theorem lng_eq (x y : Int64) : (x <<< (Int32.toInt64 (32 : Int32) &&& 63)) ||| (y &&& 4294967295) = x * 4294967296 + (y &&& 4294967295) := by
  have hs : (Int32.toInt64 (32 : Int32) &&& 63).toBitVec.smod 64 = 32#64 := by decide
  have e1 : (x <<< (Int32.toInt64 (32 : Int32) &&& 63)).toBitVec = x.toBitVec <<< 32 := by
    show x.toBitVec <<< ((Int32.toInt64 (32 : Int32) &&& 63).toBitVec.smod 64) = _
    rw [hs]
    rfl
  have e2 : x.toBitVec <<< 32 = x.toBitVec * 4294967296#64 := by
    apply BitVec.eq_of_toNat_eq
    rw [BitVec.toNat_shiftLeft, BitVec.toNat_mul, Nat.shiftLeft_eq]
    rfl
  have hb : ∀ i, i < 64 → 32 ≤ i → (4294967295#64).getLsbD i = false := by decide
  have e3 : (x.toBitVec <<< 32) &&& (y.toBitVec &&& 4294967295#64) = 0#64 := by
    apply BitVec.eq_of_getLsbD_eq
    intro i hi
    rw [BitVec.getLsbD_and, BitVec.getLsbD_and, BitVec.getLsbD_shiftLeft]
    by_cases c : i < 32
    · simp [c]
    · rw [hb i hi (by omega)]
      simp
  have e4 := BitVec.add_eq_or_of_and_eq_zero _ _ e3
  have h : ((x <<< (Int32.toInt64 (32 : Int32) &&& 63)) ||| (y &&& 4294967295)).toBitVec = (x * 4294967296 + (y &&& 4294967295)).toBitVec := by
    show (x <<< (Int32.toInt64 (32 : Int32) &&& 63)).toBitVec ||| (y.toBitVec &&& 4294967295#64) = x.toBitVec * 4294967296#64 + (y.toBitVec &&& 4294967295#64)
    rw [e1, ← e2, e4]
  exact Int64.toBitVec_inj.mp h
section Cb
variable {S : sT} {N d j : Nat} {Q : Option Value → sm_H → Prop} {A B : List Nat} {e : El}
theorem eB_len (hw : okB S j) (hl : bl S j = A ++ (enc1 e ++ B)) : A.length + (2 + e.2.1.length + e.2.2.length) + B.length ≤ 10000 ∧ (bl S j).length = A.length + (2 + e.2.1.length + e.2.2.length) + B.length := by
  have hlen := bl_lenB hw
  have hc := caps_le j
  have hl2 := congrArg List.length hl
  simp only [List.length_append, enc1_len] at hl2
  omega
theorem eB_kind (hj : j < 11) (hw : okB S j) (hl : bl S j = A ++ (enc1 e ++ B)) (hQ : Q (some (.int (nI e.1))) (hp S)) : sm_V N (d + 1) mm_B_at 0 (11 + 2 * j) [.int (nI A.length)] (hp S) Q := by
  have h := eB_len hw hl
  refine sB_atn hj hw (by omega) ?_
  rw [hl, at_kind rfl]
  exact hQ
theorem eB_vs (hj : j < 11) (hw : okB S j) (hl : bl S j = A ++ (enc1 e ++ B)) (he : wfE e) (hQ : Q (some (.int (nI (A.length + 2 + e.2.1.length)))) (hp S)) : sm_V N (d + 1) mm_B_valueStart 0 (11 + 2 * j) [.int (nI A.length)] (hp S) Q := by
  have h := eB_len hw hl
  refine sB_valueStart hj hw (by omega) ?_
  rw [hl, at_zf rfl he, show A.length + 1 + e.2.1.length + 1 = A.length + 2 + e.2.1.length by omega]
  exact hQ
theorem eB_ne (hj : j < 11) (hw : okB S j) (hl : bl S j = A ++ (enc1 e ++ B)) (he : wfE e) (hQ : Q (some (.int (nI (A.length + 1 + e.2.1.length)))) (hp S)) : sm_V N (d + 2) mm_B_nameEnd 0 (11 + 2 * j) [.int (nI A.length)] (hp S) Q := by
  have h := eB_len hw hl
  refine sB_nameEnd hj hw (by omega) ?_
  rw [hl, at_zf rfl he]
  exact hQ
theorem eB_ve (hj : j < 11) (hw : okB S j) (hl : bl S j = A ++ (enc1 e ++ B)) (he : wfE e) (hQ : Q (some (.int (nI (A ++ enc1 e).length))) (hp S)) : sm_V N (d + 2) mm_B_valueEnd 0 (11 + 2 * j) [.int (nI A.length)] (hp S) Q := by
  have h := eB_len hw hl
  refine sB_valueEnd hj hw (by omega) (fun c => ?_) ?_
  · rw [hl, at_kind rfl] at c
    rw [hl, at_zf rfl he, ← hl]
    have := he.2.2 c
    omega
  · rw [hl, at_ve rfl he]
    rw [List.length_append] at hQ
    exact hQ
theorem eB_nm (hl : bl S j = A ++ (enc1 e ++ B)) : slice (bl S j) (A.length + 1) (A.length + 1 + e.2.1.length) = e.2.1 := by
  have : A ++ (enc1 e ++ B) = (A ++ [e.1]) ++ (e.2.1 ++ 0 :: (e.2.2 ++ B)) := by simp [enc1]
  rw [hl, this, slice, List.drop_left' (by simp), show A.length + 1 + e.2.1.length - (A.length + 1) = e.2.1.length by omega, List.take_left]
theorem eB_raw (hl : bl S j = A ++ (enc1 e ++ B)) : slice (bl S j) (A.length + 2 + e.2.1.length) (A.length + 2 + e.2.1.length + e.2.2.length) = e.2.2 := by
  have : A ++ (enc1 e ++ B) = (A ++ (e.1 :: (e.2.1 ++ [0]))) ++ (e.2.2 ++ B) := by simp [enc1]
  rw [hl, this, slice, List.drop_left' (by simp; omega), show A.length + 2 + e.2.1.length + e.2.2.length - (A.length + 2 + e.2.1.length) = e.2.2.length by omega, List.take_left]
theorem sB_longAt {k : Nat} (hj : j < 11) (hw : okB S j) (hk : k + 8 ≤ (bl S j).length) (hQ : Q (some (.long (nvR 18 (slice (bl S j) k (k + 8))))) (hp S)) : sm_V N (d + 2) mm_B_longAt 0 (11 + 2 * j) [.int (nI k)] (hp S) Q := by
  have hlen := bl_lenB hw
  have hc := caps_le j
  refine cB_longAt (hb_k S hj) ?_
  rw [fB_longAt_0, nI_al]
  refine sB_intAt hj hw (by show k + 4 < _; omega) ⟨_, rfl, sB_intAt hj hw (by omega) ⟨_, rfl, ?_⟩⟩
  rw [i4, if_pos (show k + 4 + 4 ≤ _ by omega), i4, if_pos (by omega), lng_eq]
  have e1 : u4 (slice (bl S j) k (k + 8)) 0 = u4 (bl S j) k := sl_u4 (by omega)
  have e2 : u4 (slice (bl S j) k (k + 8)) 4 = u4 (bl S j) (k + 4) := sl_u4 (by omega)
  have e3 : nvR 18 (slice (bl S j) k (k + 8)) = (Int32.toInt64 (nI (u4 (bl S j) (k + 4))) * 4294967296) + (Int32.toInt64 (nI (u4 (bl S j) k)) &&& 4294967295) := by
    rw [nvR, if_neg (by decide), if_pos rfl, e1, e2]
  rw [e3] at hQ
  exact hQ
theorem sB_numberOf (hj : j < 11) (hw : okB S j) (hl : bl S j = A ++ (enc1 e ++ B)) (he : wfE e) (hk : e.1 = 16 ∨ e.1 = 18) (hQ : Q (some (.long (nvR e.1 e.2.2))) (hp S)) : sm_V N (d + 3) mm_B_numberOf 0 (11 + 2 * j) [.int (nI A.length)] (hp S) Q := by
  have h := eB_len hw hl
  have hr := eB_raw hl
  have hv := he.2.1
  refine cB_numberOf (hb_k S hj) (eB_vs hj hw hl he ⟨_, rfl, eB_kind hj hw hl ⟨_, rfl, fun c => ?_, fun c => ?_⟩⟩)
  · rw [nI_eql (by omega) (by omega)] at c
    have c16 : e.1 = 16 := c
    rw [c16] at hv hQ
    have h4 : e.2.2.length = 4 := hv.symm
    rw [h4] at hr
    refine sB_intAt (d := d + 1) hj hw (by omega) ⟨_, rfl, ?_⟩
    rw [i4, if_pos (by omega)]
    have e1 : u4 (bl S j) (A.length + 2 + e.2.1.length) = u4 e.2.2 0 := by
      rw [← hr, sl_u4 (by omega)]
      rfl
    rw [e1]
    exact hQ
  · rw [nI_eql (by omega) (by omega)] at c
    have c18 : e.1 = 18 := by
      rcases hk with hk | hk
      · exact absurd hk c
      · exact hk
    rw [c18] at hv hQ
    have h8 : e.2.2.length = 8 := hv.symm
    rw [h8] at hr
    refine sB_longAt hj hw (by omega) ⟨_, rfl, ?_⟩
    rw [hr]
    exact hQ
theorem sB_putInt {p n x0 x1 x2 x3 : Nat} (hj : j < 11) (hw : okB S j) (hn : n < 2147483648) (hl : bl S j = A ++ ([x0, x1, x2, x3] ++ B)) (hpa : p = A.length) (hQ : ∀ S2, eqB j (A ++ (le4 n ++ B)) S S2 → Q none (hp S2)) : sm_V N (d + 2) mm_B_putInt 0 (11 + 2 * j) [.int (nI p), .int (nI n)] (hp S) Q := by
  have hlen := bl_lenB hw
  have hc := caps_le j
  have hl2 := congrArg List.length hl
  simp only [List.length_append, List.length_cons, List.length_nil] at hl2
  have step : ∀ (T : sT) (k : Nat), k < 4 → okB T j → (∀ T2, eqB j ((bl T j).set (p + k) (n / 2 ^ (8 * k) % 256)) T T2 → sm_W N (d + 1 + 1) mm_B_putInt 2 [(0, .ref (11 + 2 * j)), (1, .int (nI p)), (2, .int (nI n)), (3, .int (nI (k + 1)))] [] (hp T2) Q) → sm_W N (d + 1 + 1) mm_B_putInt 2 [(0, .ref (11 + 2 * j)), (1, .int (nI p)), (2, .int (nI n)), (3, .int (nI k))] [] (hp T) Q := by
    intro T k hk hT hW
    refine kB_putInt_2 ⟨fun c => ?_, fun _ => ?_⟩
    · rw [nI_gel (by omega) (by omega)] at c
      have : 4 ≤ k := c
      omega
    · rw [nI_add]
      refine sB_put hj hT (by rw [nI_t (by omega)]; omega) (fun T2 t2 => ⟨rfl, ?_⟩)
      rw [nI_1]
      rw [nI_t (by omega), ub_sh hn hk] at t2
      exact hW T2 t2
  refine cB_putInt (hb_k S hj) ?_
  refine step S 0 (by omega) hw (fun T1 t1 => step T1 1 (by omega) t1.2.1 (fun T2 t2 => step T2 2 (by omega) t2.2.1 (fun T3 t3 => step T3 3 (by omega) t3.2.1 (fun T4 t4 => kB_putInt_2 ⟨fun _ => ?_, fun c => absurd (by decide) c⟩))))
  have tt := eqB_tr t1 (eqB_tr t2 (eqB_tr t3 t4))
  rw [t3.2.2, t2.2.2, t1.2.2, hl, set4 hpa] at tt
  have el : [n / 2 ^ (8 * 0) % 256, n / 2 ^ (8 * 1) % 256, n / 2 ^ (8 * 2) % 256, n / 2 ^ (8 * 3) % 256] = le4 n := by
    simp [le4]
  rw [el] at tt
  exact hQ T4 tt
/-- a holder's last byte -/
theorem eB_last {es : List El} (hj : j < 11) (hw : okB S j) (hl : bl S j = A ++ (encD es ++ B)) (hQ : Q (some (.int (nI (A.length + 4 + (encs es).length)))) (hp S)) : sm_V N (d + 2) mm_B_lastOf 0 (11 + 2 * j) [.int (nI A.length)] (hp S) Q := by
  have hlen := bl_lenB hw
  have hc := caps_le j
  have hl2 := congrArg List.length hl
  simp only [List.length_append, encD_len] at hl2
  have hu : u4 (bl S j) A.length = 5 + (encs es).length := by
    rw [hl, u4_app_r (l := A) (k := 0) (p := A.length) rfl]
    exact u4_encD (by omega) B
  refine sB_lastOf hj hw (by omega) (by omega) ?_
  rw [hu, show A.length + (5 + (encs es).length) - 1 = A.length + 4 + (encs es).length by omega]
  exact hQ
end Cb
