/-! numbers written and read again; what a path does at its last holder -/
theorem lw_b (v : Int64) (n : Nat) : ∀ b ∈ lw v n, b < 256 := by
  intro b hb
  rw [lw] at hb
  obtain ⟨i, -, rfl⟩ := List.mem_map.mp hb
  exact ub_lt _
theorem nvR_lw8 (v : Int64) : nvR 18 (lw v 8) = v := by
  have h := lw_n18 (raw := lw v 8) (lw_len v 8) (lw_b v 8)
  generalize nvR 18 (lw v 8) = x at *
  rw [lw_8, lw_8] at h
  simp only [List.cons.injEq, and_true] at h
  obtain ⟨h0, h1, h2, h3, h4, h5, h6, h7⟩ := h
  have a0 := w8_t x (i := 0) (by omega)
  have a1 := w8_t x (i := 1) (by omega)
  have a2 := w8_t x (i := 2) (by omega)
  have a3 := w8_t x (i := 3) (by omega)
  have a4 := w8_t x (i := 4) (by omega)
  have a5 := w8_t x (i := 5) (by omega)
  have a6 := w8_t x (i := 6) (by omega)
  have a7 := w8_t x (i := 7) (by omega)
  rw [h0, w8_t v (by omega)] at a0
  rw [h1, w8_t v (by omega)] at a1
  rw [h2, w8_t v (by omega)] at a2
  rw [h3, w8_t v (by omega)] at a3
  rw [h4, w8_t v (by omega)] at a4
  rw [h5, w8_t v (by omega)] at a5
  rw [h6, w8_t v (by omega)] at a6
  rw [h7, w8_t v (by omega)] at a7
  simp only [Nat.mul_zero, Int.pow_zero] at a0
  rw [show (2 : Int) ^ (8 * 1) = 256 by decide] at a1
  rw [show (2 : Int) ^ (8 * 2) = 65536 by decide] at a2
  rw [show (2 : Int) ^ (8 * 3) = 16777216 by decide] at a3
  rw [show (2 : Int) ^ (8 * 4) = 4294967296 by decide] at a4
  rw [show (2 : Int) ^ (8 * 5) = 1099511627776 by decide] at a5
  rw [show (2 : Int) ^ (8 * 6) = 281474976710656 by decide] at a6
  rw [show (2 : Int) ^ (8 * 7) = 72057594037927936 by decide] at a7
  have b1 := Int64.le_toInt x
  have b2 := Int64.toInt_lt x
  have b3 := Int64.le_toInt v
  have b4 := Int64.toInt_lt v
  refine Int64.toInt_inj.mp ?_
  generalize x.toInt = X at *
  generalize v.toInt = V at *
  omega
theorem nvR_lw4 {v : Int64} (hv : v = Int32.toInt64 (Int64.toInt32 v)) : nvR 16 (lw v 4) = v := by
  have h := lw_n16 (raw := lw v 4) (lw_len v 4) (lw_b v 4)
  have hr : ∃ z : Int32, nvR 16 (lw v 4) = Int32.toInt64 z := ⟨nI (u4 (lw v 4) 0), rfl⟩
  generalize nvR 16 (lw v 4) = x at *
  obtain ⟨z, hz⟩ := hr
  rw [lw_4, lw_4] at h
  simp only [List.cons.injEq, and_true] at h
  obtain ⟨h0, h1, h2, h3⟩ := h
  have a0 := w8_t x (i := 0) (by omega)
  have a1 := w8_t x (i := 1) (by omega)
  have a2 := w8_t x (i := 2) (by omega)
  have a3 := w8_t x (i := 3) (by omega)
  rw [h0, w8_t v (by omega)] at a0
  rw [h1, w8_t v (by omega)] at a1
  rw [h2, w8_t v (by omega)] at a2
  rw [h3, w8_t v (by omega)] at a3
  simp only [Nat.mul_zero, Int.pow_zero] at a0
  rw [show (2 : Int) ^ (8 * 1) = 256 by decide] at a1
  rw [show (2 : Int) ^ (8 * 2) = 65536 by decide] at a2
  rw [show (2 : Int) ^ (8 * 3) = 16777216 by decide] at a3
  have b1 : x.toInt = z.toInt := by rw [hz, Int32.toInt_toInt64]
  have b2 : v.toInt = (Int64.toInt32 v).toInt := by
    conv => lhs; rw [hv]
    rw [Int32.toInt_toInt64]
  have b3 := ti_bd z
  have b4 := ti_bd (Int64.toInt32 v)
  refine Int64.toInt_inj.mp ?_
  generalize x.toInt = X at *
  generalize v.toInt = V at *
  generalize (Int64.toInt32 v).toInt = V2 at *
  generalize z.toInt = Z at *
  omega
/-- a number's bytes -/
def numR (k : Nat) (v : Int64) : List Nat := if k = 16 then lw v 4 else lw v 8
def ovB (a b : Int64) : Bool := (decide (a < 0) == decide (b < 0)) && !(decide (a + b < 0) == decide (a < 0))
theorem ovB_iff {a b : Int64} : ovB a b = true ↔ ovf a b := by
  rw [ovB, ovf, Bool.and_eq_true, Bool.not_eq_true', beq_iff_eq]
  by_cases h1 : a < 0 <;> by_cases h2 : b < 0 <;> by_cases h3 : a + b < 0 <;> simp [h1, h2, h3]
/-- what comes where nothing is -/
def nwE (op : Nat) (a : El) (w : List Nat) : El := if op = 4 ∨ op = 6 then (4, w, encD [(a.1, dg 0, a.2.2)]) else (a.1, w, a.2.2)
/-- what is done where something is: the fault (0 for none), the elements then -/
def chE (op : Nat) (a : El) (k : Nat) (l1 : List El) (e : El) (l2 : List El) : Nat × List El :=
  if op = 1 then (0, l1 ++ (a.1, e.2.1, a.2.2) :: l2)
  else if op = 2 then (if k = 3 then (0, l1 ++ l2) else (0, l1 ++ (10, e.2.1, []) :: l2))
  else if op = 3 then (if e.1 = 16 ∨ e.1 = 18 then (if ovB (nvR e.1 e.2.2) (nvR a.1 a.2.2) = true then (8, l1 ++ e :: l2) else (0, l1 ++ (sumK e.1 a.1 (nvR e.1 e.2.2 + nvR a.1 a.2.2), e.2.1, numR (sumK e.1 a.1 (nvR e.1 e.2.2 + nvR a.1 a.2.2)) (nvR e.1 e.2.2 + nvR a.1 a.2.2)) :: l2)) else (7, l1 ++ e :: l2))
  else if e.1 ≠ 4 then (7, l1 ++ e :: l2)
  else if op = 5 then (0, l1 ++ (4, e.2.1, encD (rnm 0 ((els e.2.2).filter (fun x => !sameV 24 x.1 x.2.2 a.1 a.2.2)))) :: l2)
  else if op = 6 ∧ (els e.2.2).any (fun x => sameV 24 x.1 x.2.2 a.1 a.2.2) = true then (0, l1 ++ e :: l2)
  else (0, l1 ++ (4, e.2.1, encD (els e.2.2 ++ [(a.1, dg (els e.2.2).length, a.2.2)])) :: l2)
def fnE (op : Nat) (a : El) (k : Nat) (es : List El) (w : List Nat) : Nat × List El := match fsp w es with
  | none => if op = 2 ∨ op = 5 then (0, es) else (0, es ++ [nwE op a w])
  | some x => chE op a k x.1 x.2.1 x.2.2
/-- one path: the fault, the document's bytes then -/
def doP (op : Nat) (a : El) (raw : List Nat) : Nat × List Nat := match wlk (decide (op ≠ 2 ∧ op ≠ 5)) (stp a.2.1) 3 raw with
  | none => (if op = 2 ∨ op = 5 then 0 else 6, raw)
  | some x => ((fnE op a x.2.1 x.2.2 ((stp a.2.1).getLastD [])).1, plg x.1 (encD (fnE op a x.2.1 x.2.2 ((stp a.2.1).getLastD [])).2))
theorem AtN_RV {S : sT} {P : Nat → Prop} {R c : Nat} {fs : List Frm} {p k u : Nat} {es : List El} {O : Nat → Prop} {ks f : List Nat} (h : AtN S P R c fs p k u es O ks f) : ∃ fp, fp.Nodup ∧ RV 24 S R 3 (plg fs (encD es)) fp ∧ ∀ i ∈ fp, i < c ∧ ¬ P i := by
  obtain ⟨fp, g1, g2, g3⟩ := AtN_out (T := S) h ⟨rfl, fun q _ => ⟨sOwn_rf S q, rfl⟩, rfl, rfl, rfl⟩ h.2.1 h.2.2.1 h.2.2.2.1
  exact ⟨fp, g1, g2, fun i hi => h.2.2.2.2 i (g3 i hi)⟩
