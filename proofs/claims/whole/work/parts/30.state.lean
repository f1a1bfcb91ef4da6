/-! the state: whole-number fields, arrays of bytes and ints, the one array of longs; hp S: the cells that hold it. Printed by wip/whole/mk_state.py -/
abbrev sT : Type := (Nat → Int32) × (Nat → Nat → Int32) × (Nat → Int64)
def sI (S : sT) (k : Nat) (x : Int32) : sT := (va_up S.1 k x, S.2)
def sA (S : sT) (k : Nat) (f : Nat → Int32) : sT := (S.1, va_up S.2.1 k f, S.2.2)
def sL (S : sT) (f : Nat → Int64) : sT := (S.1, S.2.1, f)
def caps (j : Nat) : Nat := match j with
  | 5 => 10
  | 7 => 10000
  | 8 => 5
  | 9 => 10
  | 10 => 8
  | _ => 2000
def slF : Nat → Option Nat := fun i => if i < 4 then some (13 + 2 * i) else none
def hp (S : sT) : sm_H := [
  .inr (4, [.ref 11, .ref 1, .ref 2, .ref 4, .ref 9, .int (S.1 0), .int (S.1 1), .int (S.1 2)]),
  .inl (3, 4, .inr (.inr (.inr (.inr slF)))),
  .inr (1, [.ref 3, .ref 21, .int (S.1 3)]),
  .inl (1, 1000, .inl (S.2.1 11)),
  .inr (3, [.ref 23, .ref 5, .ref 6, .ref 7, .ref 8, .int (S.1 4), .int (S.1 5), .int (S.1 6)]),
  .inl (1, 1000, .inl (S.2.1 12)),
  .inl (1, 1000, .inl (S.2.1 13)),
  .inl (1, 1000, .inl (S.2.1 14)),
  .inl (1, 1000, .inl (S.2.1 15)),
  .inr (2, [.ref 25, .ref 10, .ref 27, .ref 29, .ref 31, .int (S.1 7), .int (S.1 8), .int (S.1 9), .int (S.1 10), .int (S.1 11), .int (S.1 12), .int (S.1 13)]),
  .inl (1, 9, .inl (S.2.1 16)),
  .inr (0, [.ref 12, .int (S.1 30)]),
  .inl (0, 2000, .inl (S.2.1 0)),
  .inr (0, [.ref 14, .int (S.1 31)]),
  .inl (0, 2000, .inl (S.2.1 1)),
  .inr (0, [.ref 16, .int (S.1 32)]),
  .inl (0, 2000, .inl (S.2.1 2)),
  .inr (0, [.ref 18, .int (S.1 33)]),
  .inl (0, 2000, .inl (S.2.1 3)),
  .inr (0, [.ref 20, .int (S.1 34)]),
  .inl (0, 2000, .inl (S.2.1 4)),
  .inr (0, [.ref 22, .int (S.1 35)]),
  .inl (0, 10, .inl (S.2.1 5)),
  .inr (0, [.ref 24, .int (S.1 36)]),
  .inl (0, 2000, .inl (S.2.1 6)),
  .inr (0, [.ref 26, .int (S.1 37)]),
  .inl (0, 10000, .inl (S.2.1 7)),
  .inr (0, [.ref 28, .int (S.1 38)]),
  .inl (0, 5, .inl (S.2.1 8)),
  .inr (0, [.ref 30, .int (S.1 39)]),
  .inl (0, 10, .inl (S.2.1 9)),
  .inr (0, [.ref 32, .int (S.1 40)]),
  .inl (0, 8, .inl (S.2.1 10)),
  .inr (5, [.int (S.1 14), .ref 34, .int (S.1 15), .int (S.1 16), .int (S.1 17), .int (S.1 18), .int (S.1 19), .ref 35, .ref 36, .ref 37, .ref 38, .ref 39, .ref 40, .ref 41, .ref 42, .ref 43, .ref 44, .ref 45, .ref 46, .int (S.1 20), .int (S.1 21), .ref 47, .int (S.1 22), .ref 48, .int (S.1 23), .ref 49, .ref 50]),
  .inl (0, 14100, .inl (S.2.1 17)),
  .inl (1, 6000, .inl (S.2.1 18)),
  .inl (1, 6000, .inl (S.2.1 19)),
  .inl (1, 6000, .inl (S.2.1 20)),
  .inl (2, 6000, .inr (.inl S.2.2)),
  .inl (1, 6000, .inl (S.2.1 21)),
  .inl (1, 6000, .inl (S.2.1 22)),
  .inl (1, 6000, .inl (S.2.1 23)),
  .inl (1, 6000, .inl (S.2.1 24)),
  .inl (1, 6000, .inl (S.2.1 25)),
  .inl (1, 60, .inl (S.2.1 26)),
  .inl (1, 60, .inl (S.2.1 27)),
  .inl (1, 60, .inl (S.2.1 28)),
  .inl (0, 16000, .inl (S.2.1 29)),
  .inl (0, 16000, .inl (S.2.1 30)),
  .inl (1, 8, .inl (S.2.1 31)),
  .inl (1, 8, .inl (S.2.1 32))]
theorem hp_len (S : sT) : (hp S).length = 51 := rfl
section Hp
variable (S : sT)
theorem hk_0 : ∃ fs, (hp S)[0]? = some (.inr (4, fs)) := ⟨_, rfl⟩
theorem hg_0_0 : sm_g (hp S) 0 4 0 = some (.ref 11) := rfl
theorem hg_0_1 : sm_g (hp S) 0 4 1 = some (.ref 1) := rfl
theorem hg_0_2 : sm_g (hp S) 0 4 2 = some (.ref 2) := rfl
theorem hg_0_3 : sm_g (hp S) 0 4 3 = some (.ref 4) := rfl
theorem hg_0_4 : sm_g (hp S) 0 4 4 = some (.ref 9) := rfl
theorem hg_0_5 : sm_g (hp S) 0 4 5 = some (.int (S.1 0)) := rfl
theorem hu_0_5 (x : Int32) : sm_p (hp S) 0 4 5 (.int x) = some (hp (sI S 0 x)) := rfl
theorem hg_0_6 : sm_g (hp S) 0 4 6 = some (.int (S.1 1)) := rfl
theorem hu_0_6 (x : Int32) : sm_p (hp S) 0 4 6 (.int x) = some (hp (sI S 1 x)) := rfl
theorem hg_0_7 : sm_g (hp S) 0 4 7 = some (.int (S.1 2)) := rfl
theorem hu_0_7 (x : Int32) : sm_p (hp S) 0 4 7 (.int x) = some (hp (sI S 2 x)) := rfl
theorem hk_2 : ∃ fs, (hp S)[2]? = some (.inr (1, fs)) := ⟨_, rfl⟩
theorem hg_2_0 : sm_g (hp S) 2 1 0 = some (.ref 3) := rfl
theorem hg_2_1 : sm_g (hp S) 2 1 1 = some (.ref 21) := rfl
theorem hg_2_2 : sm_g (hp S) 2 1 2 = some (.int (S.1 3)) := rfl
theorem hu_2_2 (x : Int32) : sm_p (hp S) 2 1 2 (.int x) = some (hp (sI S 3 x)) := rfl
theorem ha_3 (i : Int32) : sm_gi (hp S) 3 1 i = if 0 ≤ i.toInt ∧ i.toInt < 1000 then some (S.2.1 11 i.toNatClampNeg) else none := by
  show (if (1 : Nat) = 1 ∧ 0 ≤ i.toInt ∧ i.toInt < ((1000 : Nat) : Int) then _ else _) = _
  simp only [true_and]
  rfl
theorem hw_3 (i x : Int32) : sm_pi (hp S) 3 i x = if 0 ≤ i.toInt ∧ i.toInt < 1000 then some (hp (sA S 11 (upd (S.2.1 11) i.toNatClampNeg x))) else none := rfl
theorem hn_3 : sm_n (hp S) 3 = some 1000 := rfl
theorem hk_4 : ∃ fs, (hp S)[4]? = some (.inr (3, fs)) := ⟨_, rfl⟩
theorem hg_4_0 : sm_g (hp S) 4 3 0 = some (.ref 23) := rfl
theorem hg_4_1 : sm_g (hp S) 4 3 1 = some (.ref 5) := rfl
theorem hg_4_2 : sm_g (hp S) 4 3 2 = some (.ref 6) := rfl
theorem hg_4_3 : sm_g (hp S) 4 3 3 = some (.ref 7) := rfl
theorem hg_4_4 : sm_g (hp S) 4 3 4 = some (.ref 8) := rfl
theorem hg_4_5 : sm_g (hp S) 4 3 5 = some (.int (S.1 4)) := rfl
theorem hu_4_5 (x : Int32) : sm_p (hp S) 4 3 5 (.int x) = some (hp (sI S 4 x)) := rfl
theorem hg_4_6 : sm_g (hp S) 4 3 6 = some (.int (S.1 5)) := rfl
theorem hu_4_6 (x : Int32) : sm_p (hp S) 4 3 6 (.int x) = some (hp (sI S 5 x)) := rfl
theorem hg_4_7 : sm_g (hp S) 4 3 7 = some (.int (S.1 6)) := rfl
theorem hu_4_7 (x : Int32) : sm_p (hp S) 4 3 7 (.int x) = some (hp (sI S 6 x)) := rfl
theorem ha_5 (i : Int32) : sm_gi (hp S) 5 1 i = if 0 ≤ i.toInt ∧ i.toInt < 1000 then some (S.2.1 12 i.toNatClampNeg) else none := by
  show (if (1 : Nat) = 1 ∧ 0 ≤ i.toInt ∧ i.toInt < ((1000 : Nat) : Int) then _ else _) = _
  simp only [true_and]
  rfl
theorem hw_5 (i x : Int32) : sm_pi (hp S) 5 i x = if 0 ≤ i.toInt ∧ i.toInt < 1000 then some (hp (sA S 12 (upd (S.2.1 12) i.toNatClampNeg x))) else none := rfl
theorem hn_5 : sm_n (hp S) 5 = some 1000 := rfl
theorem ha_6 (i : Int32) : sm_gi (hp S) 6 1 i = if 0 ≤ i.toInt ∧ i.toInt < 1000 then some (S.2.1 13 i.toNatClampNeg) else none := by
  show (if (1 : Nat) = 1 ∧ 0 ≤ i.toInt ∧ i.toInt < ((1000 : Nat) : Int) then _ else _) = _
  simp only [true_and]
  rfl
theorem hw_6 (i x : Int32) : sm_pi (hp S) 6 i x = if 0 ≤ i.toInt ∧ i.toInt < 1000 then some (hp (sA S 13 (upd (S.2.1 13) i.toNatClampNeg x))) else none := rfl
theorem hn_6 : sm_n (hp S) 6 = some 1000 := rfl
theorem ha_7 (i : Int32) : sm_gi (hp S) 7 1 i = if 0 ≤ i.toInt ∧ i.toInt < 1000 then some (S.2.1 14 i.toNatClampNeg) else none := by
  show (if (1 : Nat) = 1 ∧ 0 ≤ i.toInt ∧ i.toInt < ((1000 : Nat) : Int) then _ else _) = _
  simp only [true_and]
  rfl
theorem hw_7 (i x : Int32) : sm_pi (hp S) 7 i x = if 0 ≤ i.toInt ∧ i.toInt < 1000 then some (hp (sA S 14 (upd (S.2.1 14) i.toNatClampNeg x))) else none := rfl
theorem hn_7 : sm_n (hp S) 7 = some 1000 := rfl
theorem ha_8 (i : Int32) : sm_gi (hp S) 8 1 i = if 0 ≤ i.toInt ∧ i.toInt < 1000 then some (S.2.1 15 i.toNatClampNeg) else none := by
  show (if (1 : Nat) = 1 ∧ 0 ≤ i.toInt ∧ i.toInt < ((1000 : Nat) : Int) then _ else _) = _
  simp only [true_and]
  rfl
theorem hw_8 (i x : Int32) : sm_pi (hp S) 8 i x = if 0 ≤ i.toInt ∧ i.toInt < 1000 then some (hp (sA S 15 (upd (S.2.1 15) i.toNatClampNeg x))) else none := rfl
theorem hn_8 : sm_n (hp S) 8 = some 1000 := rfl
theorem hk_9 : ∃ fs, (hp S)[9]? = some (.inr (2, fs)) := ⟨_, rfl⟩
theorem hg_9_0 : sm_g (hp S) 9 2 0 = some (.ref 25) := rfl
theorem hg_9_1 : sm_g (hp S) 9 2 1 = some (.ref 10) := rfl
theorem hg_9_2 : sm_g (hp S) 9 2 2 = some (.ref 27) := rfl
theorem hg_9_3 : sm_g (hp S) 9 2 3 = some (.ref 29) := rfl
theorem hg_9_4 : sm_g (hp S) 9 2 4 = some (.ref 31) := rfl
theorem hg_9_5 : sm_g (hp S) 9 2 5 = some (.int (S.1 7)) := rfl
theorem hu_9_5 (x : Int32) : sm_p (hp S) 9 2 5 (.int x) = some (hp (sI S 7 x)) := rfl
theorem hg_9_6 : sm_g (hp S) 9 2 6 = some (.int (S.1 8)) := rfl
theorem hu_9_6 (x : Int32) : sm_p (hp S) 9 2 6 (.int x) = some (hp (sI S 8 x)) := rfl
theorem hg_9_7 : sm_g (hp S) 9 2 7 = some (.int (S.1 9)) := rfl
theorem hu_9_7 (x : Int32) : sm_p (hp S) 9 2 7 (.int x) = some (hp (sI S 9 x)) := rfl
theorem hg_9_8 : sm_g (hp S) 9 2 8 = some (.int (S.1 10)) := rfl
theorem hu_9_8 (x : Int32) : sm_p (hp S) 9 2 8 (.int x) = some (hp (sI S 10 x)) := rfl
theorem hg_9_9 : sm_g (hp S) 9 2 9 = some (.int (S.1 11)) := rfl
theorem hu_9_9 (x : Int32) : sm_p (hp S) 9 2 9 (.int x) = some (hp (sI S 11 x)) := rfl
theorem hg_9_10 : sm_g (hp S) 9 2 10 = some (.int (S.1 12)) := rfl
theorem hu_9_10 (x : Int32) : sm_p (hp S) 9 2 10 (.int x) = some (hp (sI S 12 x)) := rfl
theorem hg_9_11 : sm_g (hp S) 9 2 11 = some (.int (S.1 13)) := rfl
theorem hu_9_11 (x : Int32) : sm_p (hp S) 9 2 11 (.int x) = some (hp (sI S 13 x)) := rfl
theorem ha_10 (i : Int32) : sm_gi (hp S) 10 1 i = if 0 ≤ i.toInt ∧ i.toInt < 9 then some (S.2.1 16 i.toNatClampNeg) else none := by
  show (if (1 : Nat) = 1 ∧ 0 ≤ i.toInt ∧ i.toInt < ((9 : Nat) : Int) then _ else _) = _
  simp only [true_and]
  rfl
theorem hw_10 (i x : Int32) : sm_pi (hp S) 10 i x = if 0 ≤ i.toInt ∧ i.toInt < 9 then some (hp (sA S 16 (upd (S.2.1 16) i.toNatClampNeg x))) else none := rfl
theorem hn_10 : sm_n (hp S) 10 = some 9 := rfl
theorem hk_33 : ∃ fs, (hp S)[33]? = some (.inr (5, fs)) := ⟨_, rfl⟩
theorem hg_33_0 : sm_g (hp S) 33 5 0 = some (.int (S.1 14)) := rfl
theorem hu_33_0 (x : Int32) : sm_p (hp S) 33 5 0 (.int x) = some (hp (sI S 14 x)) := rfl
theorem hg_33_1 : sm_g (hp S) 33 5 1 = some (.ref 34) := rfl
theorem hg_33_2 : sm_g (hp S) 33 5 2 = some (.int (S.1 15)) := rfl
theorem hu_33_2 (x : Int32) : sm_p (hp S) 33 5 2 (.int x) = some (hp (sI S 15 x)) := rfl
theorem hg_33_3 : sm_g (hp S) 33 5 3 = some (.int (S.1 16)) := rfl
theorem hu_33_3 (x : Int32) : sm_p (hp S) 33 5 3 (.int x) = some (hp (sI S 16 x)) := rfl
theorem hg_33_4 : sm_g (hp S) 33 5 4 = some (.int (S.1 17)) := rfl
theorem hu_33_4 (x : Int32) : sm_p (hp S) 33 5 4 (.int x) = some (hp (sI S 17 x)) := rfl
theorem hg_33_5 : sm_g (hp S) 33 5 5 = some (.int (S.1 18)) := rfl
theorem hu_33_5 (x : Int32) : sm_p (hp S) 33 5 5 (.int x) = some (hp (sI S 18 x)) := rfl
theorem hg_33_6 : sm_g (hp S) 33 5 6 = some (.int (S.1 19)) := rfl
theorem hu_33_6 (x : Int32) : sm_p (hp S) 33 5 6 (.int x) = some (hp (sI S 19 x)) := rfl
theorem hg_33_7 : sm_g (hp S) 33 5 7 = some (.ref 35) := rfl
theorem hg_33_8 : sm_g (hp S) 33 5 8 = some (.ref 36) := rfl
theorem hg_33_9 : sm_g (hp S) 33 5 9 = some (.ref 37) := rfl
theorem hg_33_10 : sm_g (hp S) 33 5 10 = some (.ref 38) := rfl
theorem hg_33_11 : sm_g (hp S) 33 5 11 = some (.ref 39) := rfl
theorem hg_33_12 : sm_g (hp S) 33 5 12 = some (.ref 40) := rfl
theorem hg_33_13 : sm_g (hp S) 33 5 13 = some (.ref 41) := rfl
theorem hg_33_14 : sm_g (hp S) 33 5 14 = some (.ref 42) := rfl
theorem hg_33_15 : sm_g (hp S) 33 5 15 = some (.ref 43) := rfl
theorem hg_33_16 : sm_g (hp S) 33 5 16 = some (.ref 44) := rfl
theorem hg_33_17 : sm_g (hp S) 33 5 17 = some (.ref 45) := rfl
theorem hg_33_18 : sm_g (hp S) 33 5 18 = some (.ref 46) := rfl
theorem hg_33_19 : sm_g (hp S) 33 5 19 = some (.int (S.1 20)) := rfl
theorem hu_33_19 (x : Int32) : sm_p (hp S) 33 5 19 (.int x) = some (hp (sI S 20 x)) := rfl
theorem hg_33_20 : sm_g (hp S) 33 5 20 = some (.int (S.1 21)) := rfl
theorem hu_33_20 (x : Int32) : sm_p (hp S) 33 5 20 (.int x) = some (hp (sI S 21 x)) := rfl
theorem hg_33_21 : sm_g (hp S) 33 5 21 = some (.ref 47) := rfl
theorem hg_33_22 : sm_g (hp S) 33 5 22 = some (.int (S.1 22)) := rfl
theorem hu_33_22 (x : Int32) : sm_p (hp S) 33 5 22 (.int x) = some (hp (sI S 22 x)) := rfl
theorem hg_33_23 : sm_g (hp S) 33 5 23 = some (.ref 48) := rfl
theorem hg_33_24 : sm_g (hp S) 33 5 24 = some (.int (S.1 23)) := rfl
theorem hu_33_24 (x : Int32) : sm_p (hp S) 33 5 24 (.int x) = some (hp (sI S 23 x)) := rfl
theorem hg_33_25 : sm_g (hp S) 33 5 25 = some (.ref 49) := rfl
theorem hg_33_26 : sm_g (hp S) 33 5 26 = some (.ref 50) := rfl
theorem ha_34 (i : Int32) : sm_gi (hp S) 34 0 i = if 0 ≤ i.toInt ∧ i.toInt < 14100 then some (S.2.1 17 i.toNatClampNeg) else none := by
  show (if (0 : Nat) = 0 ∧ 0 ≤ i.toInt ∧ i.toInt < ((14100 : Nat) : Int) then _ else _) = _
  simp only [true_and]
  rfl
theorem hw_34 (i x : Int32) : sm_pb (hp S) 34 i x = if 0 ≤ i.toInt ∧ i.toInt < 14100 then some (hp (sA S 17 (upd (S.2.1 17) i.toNatClampNeg (vp_nar .byte x)))) else none := rfl
theorem hn_34 : sm_n (hp S) 34 = some 14100 := rfl
theorem ha_35 (i : Int32) : sm_gi (hp S) 35 1 i = if 0 ≤ i.toInt ∧ i.toInt < 6000 then some (S.2.1 18 i.toNatClampNeg) else none := by
  show (if (1 : Nat) = 1 ∧ 0 ≤ i.toInt ∧ i.toInt < ((6000 : Nat) : Int) then _ else _) = _
  simp only [true_and]
  rfl
theorem hw_35 (i x : Int32) : sm_pi (hp S) 35 i x = if 0 ≤ i.toInt ∧ i.toInt < 6000 then some (hp (sA S 18 (upd (S.2.1 18) i.toNatClampNeg x))) else none := rfl
theorem hn_35 : sm_n (hp S) 35 = some 6000 := rfl
theorem ha_36 (i : Int32) : sm_gi (hp S) 36 1 i = if 0 ≤ i.toInt ∧ i.toInt < 6000 then some (S.2.1 19 i.toNatClampNeg) else none := by
  show (if (1 : Nat) = 1 ∧ 0 ≤ i.toInt ∧ i.toInt < ((6000 : Nat) : Int) then _ else _) = _
  simp only [true_and]
  rfl
theorem hw_36 (i x : Int32) : sm_pi (hp S) 36 i x = if 0 ≤ i.toInt ∧ i.toInt < 6000 then some (hp (sA S 19 (upd (S.2.1 19) i.toNatClampNeg x))) else none := rfl
theorem hn_36 : sm_n (hp S) 36 = some 6000 := rfl
theorem ha_37 (i : Int32) : sm_gi (hp S) 37 1 i = if 0 ≤ i.toInt ∧ i.toInt < 6000 then some (S.2.1 20 i.toNatClampNeg) else none := by
  show (if (1 : Nat) = 1 ∧ 0 ≤ i.toInt ∧ i.toInt < ((6000 : Nat) : Int) then _ else _) = _
  simp only [true_and]
  rfl
theorem hw_37 (i x : Int32) : sm_pi (hp S) 37 i x = if 0 ≤ i.toInt ∧ i.toInt < 6000 then some (hp (sA S 20 (upd (S.2.1 20) i.toNatClampNeg x))) else none := rfl
theorem hn_37 : sm_n (hp S) 37 = some 6000 := rfl
theorem ha_39 (i : Int32) : sm_gi (hp S) 39 1 i = if 0 ≤ i.toInt ∧ i.toInt < 6000 then some (S.2.1 21 i.toNatClampNeg) else none := by
  show (if (1 : Nat) = 1 ∧ 0 ≤ i.toInt ∧ i.toInt < ((6000 : Nat) : Int) then _ else _) = _
  simp only [true_and]
  rfl
theorem hw_39 (i x : Int32) : sm_pi (hp S) 39 i x = if 0 ≤ i.toInt ∧ i.toInt < 6000 then some (hp (sA S 21 (upd (S.2.1 21) i.toNatClampNeg x))) else none := rfl
theorem hn_39 : sm_n (hp S) 39 = some 6000 := rfl
theorem ha_40 (i : Int32) : sm_gi (hp S) 40 1 i = if 0 ≤ i.toInt ∧ i.toInt < 6000 then some (S.2.1 22 i.toNatClampNeg) else none := by
  show (if (1 : Nat) = 1 ∧ 0 ≤ i.toInt ∧ i.toInt < ((6000 : Nat) : Int) then _ else _) = _
  simp only [true_and]
  rfl
theorem hw_40 (i x : Int32) : sm_pi (hp S) 40 i x = if 0 ≤ i.toInt ∧ i.toInt < 6000 then some (hp (sA S 22 (upd (S.2.1 22) i.toNatClampNeg x))) else none := rfl
theorem hn_40 : sm_n (hp S) 40 = some 6000 := rfl
theorem ha_41 (i : Int32) : sm_gi (hp S) 41 1 i = if 0 ≤ i.toInt ∧ i.toInt < 6000 then some (S.2.1 23 i.toNatClampNeg) else none := by
  show (if (1 : Nat) = 1 ∧ 0 ≤ i.toInt ∧ i.toInt < ((6000 : Nat) : Int) then _ else _) = _
  simp only [true_and]
  rfl
theorem hw_41 (i x : Int32) : sm_pi (hp S) 41 i x = if 0 ≤ i.toInt ∧ i.toInt < 6000 then some (hp (sA S 23 (upd (S.2.1 23) i.toNatClampNeg x))) else none := rfl
theorem hn_41 : sm_n (hp S) 41 = some 6000 := rfl
theorem ha_42 (i : Int32) : sm_gi (hp S) 42 1 i = if 0 ≤ i.toInt ∧ i.toInt < 6000 then some (S.2.1 24 i.toNatClampNeg) else none := by
  show (if (1 : Nat) = 1 ∧ 0 ≤ i.toInt ∧ i.toInt < ((6000 : Nat) : Int) then _ else _) = _
  simp only [true_and]
  rfl
theorem hw_42 (i x : Int32) : sm_pi (hp S) 42 i x = if 0 ≤ i.toInt ∧ i.toInt < 6000 then some (hp (sA S 24 (upd (S.2.1 24) i.toNatClampNeg x))) else none := rfl
theorem hn_42 : sm_n (hp S) 42 = some 6000 := rfl
theorem ha_43 (i : Int32) : sm_gi (hp S) 43 1 i = if 0 ≤ i.toInt ∧ i.toInt < 6000 then some (S.2.1 25 i.toNatClampNeg) else none := by
  show (if (1 : Nat) = 1 ∧ 0 ≤ i.toInt ∧ i.toInt < ((6000 : Nat) : Int) then _ else _) = _
  simp only [true_and]
  rfl
theorem hw_43 (i x : Int32) : sm_pi (hp S) 43 i x = if 0 ≤ i.toInt ∧ i.toInt < 6000 then some (hp (sA S 25 (upd (S.2.1 25) i.toNatClampNeg x))) else none := rfl
theorem hn_43 : sm_n (hp S) 43 = some 6000 := rfl
theorem ha_44 (i : Int32) : sm_gi (hp S) 44 1 i = if 0 ≤ i.toInt ∧ i.toInt < 60 then some (S.2.1 26 i.toNatClampNeg) else none := by
  show (if (1 : Nat) = 1 ∧ 0 ≤ i.toInt ∧ i.toInt < ((60 : Nat) : Int) then _ else _) = _
  simp only [true_and]
  rfl
theorem hw_44 (i x : Int32) : sm_pi (hp S) 44 i x = if 0 ≤ i.toInt ∧ i.toInt < 60 then some (hp (sA S 26 (upd (S.2.1 26) i.toNatClampNeg x))) else none := rfl
theorem hn_44 : sm_n (hp S) 44 = some 60 := rfl
theorem ha_45 (i : Int32) : sm_gi (hp S) 45 1 i = if 0 ≤ i.toInt ∧ i.toInt < 60 then some (S.2.1 27 i.toNatClampNeg) else none := by
  show (if (1 : Nat) = 1 ∧ 0 ≤ i.toInt ∧ i.toInt < ((60 : Nat) : Int) then _ else _) = _
  simp only [true_and]
  rfl
theorem hw_45 (i x : Int32) : sm_pi (hp S) 45 i x = if 0 ≤ i.toInt ∧ i.toInt < 60 then some (hp (sA S 27 (upd (S.2.1 27) i.toNatClampNeg x))) else none := rfl
theorem hn_45 : sm_n (hp S) 45 = some 60 := rfl
theorem ha_46 (i : Int32) : sm_gi (hp S) 46 1 i = if 0 ≤ i.toInt ∧ i.toInt < 60 then some (S.2.1 28 i.toNatClampNeg) else none := by
  show (if (1 : Nat) = 1 ∧ 0 ≤ i.toInt ∧ i.toInt < ((60 : Nat) : Int) then _ else _) = _
  simp only [true_and]
  rfl
theorem hw_46 (i x : Int32) : sm_pi (hp S) 46 i x = if 0 ≤ i.toInt ∧ i.toInt < 60 then some (hp (sA S 28 (upd (S.2.1 28) i.toNatClampNeg x))) else none := rfl
theorem hn_46 : sm_n (hp S) 46 = some 60 := rfl
theorem ha_47 (i : Int32) : sm_gi (hp S) 47 0 i = if 0 ≤ i.toInt ∧ i.toInt < 16000 then some (S.2.1 29 i.toNatClampNeg) else none := by
  show (if (0 : Nat) = 0 ∧ 0 ≤ i.toInt ∧ i.toInt < ((16000 : Nat) : Int) then _ else _) = _
  simp only [true_and]
  rfl
theorem hw_47 (i x : Int32) : sm_pb (hp S) 47 i x = if 0 ≤ i.toInt ∧ i.toInt < 16000 then some (hp (sA S 29 (upd (S.2.1 29) i.toNatClampNeg (vp_nar .byte x)))) else none := rfl
theorem hn_47 : sm_n (hp S) 47 = some 16000 := rfl
theorem ha_48 (i : Int32) : sm_gi (hp S) 48 0 i = if 0 ≤ i.toInt ∧ i.toInt < 16000 then some (S.2.1 30 i.toNatClampNeg) else none := by
  show (if (0 : Nat) = 0 ∧ 0 ≤ i.toInt ∧ i.toInt < ((16000 : Nat) : Int) then _ else _) = _
  simp only [true_and]
  rfl
theorem hw_48 (i x : Int32) : sm_pb (hp S) 48 i x = if 0 ≤ i.toInt ∧ i.toInt < 16000 then some (hp (sA S 30 (upd (S.2.1 30) i.toNatClampNeg (vp_nar .byte x)))) else none := rfl
theorem hn_48 : sm_n (hp S) 48 = some 16000 := rfl
theorem ha_49 (i : Int32) : sm_gi (hp S) 49 1 i = if 0 ≤ i.toInt ∧ i.toInt < 8 then some (S.2.1 31 i.toNatClampNeg) else none := by
  show (if (1 : Nat) = 1 ∧ 0 ≤ i.toInt ∧ i.toInt < ((8 : Nat) : Int) then _ else _) = _
  simp only [true_and]
  rfl
theorem hw_49 (i x : Int32) : sm_pi (hp S) 49 i x = if 0 ≤ i.toInt ∧ i.toInt < 8 then some (hp (sA S 31 (upd (S.2.1 31) i.toNatClampNeg x))) else none := rfl
theorem hn_49 : sm_n (hp S) 49 = some 8 := rfl
theorem ha_50 (i : Int32) : sm_gi (hp S) 50 1 i = if 0 ≤ i.toInt ∧ i.toInt < 8 then some (S.2.1 32 i.toNatClampNeg) else none := by
  show (if (1 : Nat) = 1 ∧ 0 ≤ i.toInt ∧ i.toInt < ((8 : Nat) : Int) then _ else _) = _
  simp only [true_and]
  rfl
theorem hw_50 (i x : Int32) : sm_pi (hp S) 50 i x = if 0 ≤ i.toInt ∧ i.toInt < 8 then some (hp (sA S 32 (upd (S.2.1 32) i.toNatClampNeg x))) else none := rfl
theorem hn_50 : sm_n (hp S) 50 = some 8 := rfl
theorem ha_38 (i : Int32) : sm_gl (hp S) 38 2 i = if 0 ≤ i.toInt ∧ i.toInt < 6000 then some (S.2.2 i.toNatClampNeg) else none := by
  show (if (2 : Nat) = 2 ∧ 0 ≤ i.toInt ∧ i.toInt < ((6000 : Nat) : Int) then _ else _) = _
  simp only [true_and]
  rfl
theorem hw_38 (i : Int32) (x : Int64) : sm_pl (hp S) 38 i x = if 0 ≤ i.toInt ∧ i.toInt < 6000 then some (hp (sL S (vp_updL S.2.2 i.toNatClampNeg x))) else none := rfl
theorem ha_1 (i : Int32) : sm_gq (hp S) 1 3 i = if 0 ≤ i.toInt ∧ i.toInt < 4 then some (slF i.toNatClampNeg) else none := by
  show (if (3 : Nat) = 3 ∧ 0 ≤ i.toInt ∧ i.toInt < ((4 : Nat) : Int) then _ else _) = _
  simp only [true_and]
  rfl
theorem hn_1 : sm_n (hp S) 1 = some 4 := rfl
variable {j : Nat} (hj : j < 11)
theorem hb_o {j : Nat} (hj : j < 11) : (hp S)[11 + 2 * j]? = some (.inr (0, [.ref (12 + 2 * j), .int (S.1 (30 + j))])) := by
  match j, hj with
  | 0, _ => rfl
  | 1, _ => rfl
  | 2, _ => rfl
  | 3, _ => rfl
  | 4, _ => rfl
  | 5, _ => rfl
  | 6, _ => rfl
  | 7, _ => rfl
  | 8, _ => rfl
  | 9, _ => rfl
  | 10, _ => rfl
theorem hb_d {j : Nat} (hj : j < 11) : (hp S)[12 + 2 * j]? = some (.inl (0, caps j, .inl (S.2.1 j))) := by
  match j, hj with
  | 0, _ => rfl
  | 1, _ => rfl
  | 2, _ => rfl
  | 3, _ => rfl
  | 4, _ => rfl
  | 5, _ => rfl
  | 6, _ => rfl
  | 7, _ => rfl
  | 8, _ => rfl
  | 9, _ => rfl
  | 10, _ => rfl
theorem hb_so {j : Nat} (hj : j < 11) (x : Int32) : (hp S).set (11 + 2 * j) (.inr (0, [.ref (12 + 2 * j), .int x])) = hp (sI S (30 + j) x) := by
  match j, hj with
  | 0, _ => rfl
  | 1, _ => rfl
  | 2, _ => rfl
  | 3, _ => rfl
  | 4, _ => rfl
  | 5, _ => rfl
  | 6, _ => rfl
  | 7, _ => rfl
  | 8, _ => rfl
  | 9, _ => rfl
  | 10, _ => rfl
theorem hb_sd {j : Nat} (hj : j < 11) (f : Nat → Int32) : (hp S).set (12 + 2 * j) (.inl (0, caps j, .inl f)) = hp (sA S j f) := by
  match j, hj with
  | 0, _ => rfl
  | 1, _ => rfl
  | 2, _ => rfl
  | 3, _ => rfl
  | 4, _ => rfl
  | 5, _ => rfl
  | 6, _ => rfl
  | 7, _ => rfl
  | 8, _ => rfl
  | 9, _ => rfl
  | 10, _ => rfl
theorem hb_k {j : Nat} (hj : j < 11) : ∃ fs, (hp S)[11 + 2 * j]? = some (.inr (0, fs)) := ⟨_, hb_o S hj⟩
theorem hb_g0 {j : Nat} (hj : j < 11) : sm_g (hp S) (11 + 2 * j) 0 0 = some (.ref (12 + 2 * j)) := by rw [sm_g, hb_o S hj]; rfl
theorem hb_g1 {j : Nat} (hj : j < 11) : sm_g (hp S) (11 + 2 * j) 0 1 = some (.int (S.1 (30 + j))) := by rw [sm_g, hb_o S hj]; rfl
theorem hb_p1 {j : Nat} (hj : j < 11) (x : Int32) : sm_p (hp S) (11 + 2 * j) 0 1 (.int x) = some (hp (sI S (30 + j) x)) := by rw [sm_p, hb_o S hj, ← hb_so S hj x]; rfl
theorem hb_a {j : Nat} (hj : j < 11) (i : Int32) : sm_gi (hp S) (12 + 2 * j) 0 i = if 0 ≤ i.toInt ∧ i.toInt < caps j then some (S.2.1 j i.toNatClampNeg) else none := by
  rw [sm_gi, hb_d S hj]
  simp only [true_and]
theorem hb_w {j : Nat} (hj : j < 11) (i x : Int32) : sm_pb (hp S) (12 + 2 * j) i x = if 0 ≤ i.toInt ∧ i.toInt < caps j then some (hp (sA S j (upd (S.2.1 j) i.toNatClampNeg (vp_nar .byte x)))) else none := by
  rw [sm_pb, hb_d S hj]
  simp only [hb_sd S hj]
theorem hb_n {j : Nat} (hj : j < 11) : sm_n (hp S) (12 + 2 * j) = some (Int32.ofNat (caps j)) := by rw [sm_n, hb_d S hj]; rfl
end Hp
