/-! bytes and whole numbers -/
/-- the byte without sign -/
def ub (x : Int32) : Nat := x.toBitVec.toNat % 256
theorem ub_lt (x : Int32) : ub x < 256 := Nat.mod_lt _ (by decide)
theorem ub_and (x : Int32) : x &&& 255 = nI (ub x) := pk_and x 8 (by decide)
theorem ti_lt {a b : Int32} : a < b ↔ a.toInt < b.toInt := Int32.lt_iff_toInt_lt
theorem ti_le {a b : Int32} : a ≤ b ↔ a.toInt ≤ b.toInt := Int32.le_iff_toInt_le
theorem ti_eq {a b : Int32} : a = b ↔ a.toInt = b.toInt := Int32.toInt_inj.symm
theorem ti_bd (a : Int32) : -2147483648 ≤ a.toInt ∧ a.toInt < 2147483648 := ⟨Int32.le_toInt a, Int32.toInt_lt a⟩
theorem ti_add {a b : Int32} (h1 : -2147483648 ≤ a.toInt + b.toInt) (h2 : a.toInt + b.toInt < 2147483648) : (a + b).toInt = a.toInt + b.toInt := by
  rw [Int32.toInt_add]
  exact Int.bmod_eq_of_le (by omega) (by omega)
theorem ti_sub {a b : Int32} (h1 : -2147483648 ≤ a.toInt - b.toInt) (h2 : a.toInt - b.toInt < 2147483648) : (a - b).toInt = a.toInt - b.toInt := by
  rw [Int32.toInt_sub]
  exact Int.bmod_eq_of_le (by omega) (by omega)
theorem ti_mul {a b : Int32} (h1 : -2147483648 ≤ a.toInt * b.toInt) (h2 : a.toInt * b.toInt < 2147483648) : (a * b).toInt = a.toInt * b.toInt := by
  rw [Int32.toInt_mul]
  exact Int.bmod_eq_of_le (by omega) (by omega)
theorem ti_cl (a : Int32) : a.toNatClampNeg = a.toInt.toNat := rfl
/-- a number between -2^31 and 2^31 as an int -/
def jI (z : Int) : Int32 := Int32.ofInt z
theorem jI_t {z : Int} (h1 : -2147483648 ≤ z) (h2 : z < 2147483648) : (jI z).toInt = z := by
  rw [jI, Int32.toInt_ofInt]
  show z.bmod 4294967296 = z
  exact Int.bmod_eq_of_le (by omega) (by omega)
theorem jI_of (a : Int32) : a = jI a.toInt := by
  have h := ti_bd a
  rw [ti_eq, jI_t h.1 h.2]
theorem nI_t {n : Nat} (h : n < 2147483648) : (nI n).toInt = n := nI_toInt h
theorem nI_jI (n : Nat) : nI n = jI (n : Int) := rfl
-- what a list of bytes has at a place, 0 outside
def gb (l : List Nat) (i : Int) : Nat := if 0 ≤ i then l.getD i.toNat 0 else 0
/-- four bytes from a place on, lowest first, as a number without sign -/
def u4 (l : List Nat) (i : Nat) : Nat := l.getD i 0 + 256 * l.getD (i + 1) 0 + 65536 * l.getD (i + 2) 0 + 16777216 * l.getD (i + 3) 0
def bytesOf (f : Nat → Int32) (o n : Nat) : List Nat := (List.range n).map (fun i => ub (f (o + i)))
theorem bytesOf_len (f : Nat → Int32) (o n : Nat) : (bytesOf f o n).length = n := by simp [bytesOf]
theorem bytesOf_get (f : Nat → Int32) (o : Nat) {n i : Nat} (h : i < n) : (bytesOf f o n).getD i 0 = ub (f (o + i)) := by
  simp [bytesOf, List.getD_eq_getElem?_getD, h]
theorem bytesOf_out (f : Nat → Int32) (o : Nat) {n i : Nat} (h : n ≤ i) : (bytesOf f o n).getD i 0 = 0 := by
  simp [bytesOf, List.getD_eq_getElem?_getD, h]
theorem bytesOf_lt {f : Nat → Int32} {o n b : Nat} (h : b ∈ bytesOf f o n) : b < 256 := by
  simp only [bytesOf, List.mem_map] at h
  obtain ⟨i, -, rfl⟩ := h
  exact ub_lt _
def sB (x : Int32) : Prop := fits .byte (.int x) = true
/-- Bytes number j of the state: its length n is in its room, all of its array are bytes -/
def okB (S : sT) (j : Nat) : Prop := ∃ n : Nat, n ≤ caps j ∧ S.1 (30 + j) = nI n ∧ ∀ i, sB (S.2.1 j i)
def bl (S : sT) (j : Nat) : List Nat := bytesOf (S.2.1 j) 0 (S.1 (30 + j)).toInt.toNat
theorem caps_le (j : Nat) : caps j ≤ 10000 := by
  unfold caps
  split <;> decide
theorem bl_eq {S : sT} {j n : Nat} (hn : n ≤ caps j) (hl : S.1 (30 + j) = nI n) : bl S j = bytesOf (S.2.1 j) 0 n := by
  have := caps_le j
  rw [bl, hl, nI_t (by omega)]
  rfl
theorem bl_len {S : sT} {j n : Nat} (hn : n ≤ caps j) (hl : S.1 (30 + j) = nI n) : (bl S j).length = n := by
  rw [bl_eq hn hl, bytesOf_len]
theorem nI_0' : (0 : Int32) = nI 0 := rfl
theorem sB_at {S : sT} {j N d : Nat} {i : Int32} {Q : Option Value → sm_H → Prop} (hj : j < 11) (hw : okB S j) (hQ : Q (some (.int (nI (gb (bl S j) i.toInt)))) (hp S)) : sm_V N (d + 1) mm_B_at 0 (11 + 2 * j) [.int i] (hp S) Q := by
  obtain ⟨n, hn, hl, hf⟩ := hw
  have hc := caps_le j
  refine cB_at (hb_k S hj) ⟨fun c => ?_, fun c => ⟨_, hb_g1 S hj, fun c2 => ?_, fun c2 => ⟨_, hb_g0 S hj, S.2.1 j i.toInt.toNat, ?_, ?_⟩⟩⟩
  · rw [ti_lt] at c
    rw [gb, if_neg (by simp at c; omega)] at hQ
    exact hQ
  · rw [ti_lt] at c
    rw [hl, ti_le, nI_t (by omega)] at c2
    simp at c
    rw [gb, if_pos c, bl_eq hn hl, bytesOf_out _ _ (by omega)] at hQ
    exact hQ
  · rw [ti_lt] at c
    rw [hl, ti_le, nI_t (by omega)] at c2
    simp at c
    rw [hb_a S hj, if_pos ⟨c, by omega⟩]
    rfl
  · rw [ti_lt] at c
    rw [hl, ti_le, nI_t (by omega)] at c2
    simp at c
    rw [gb, if_pos c, bl_eq hn hl, bytesOf_get _ _ (by omega), Nat.zero_add] at hQ
    rw [ub_and]
    exact hQ
