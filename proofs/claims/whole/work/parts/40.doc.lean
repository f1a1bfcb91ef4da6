/-! documents as lists of bytes: an element is its kind, its name, its value's bytes -/
abbrev El : Type := Nat × List Nat × List Nat
def enc1 (e : El) : List Nat := e.1 :: (e.2.1 ++ 0 :: e.2.2)
def encs (es : List El) : List Nat := es.flatMap enc1
def le4 (n : Nat) : List Nat := [n % 256, n / 256 % 256, n / 65536 % 256, n / 16777216 % 256]
def encD (es : List El) : List Nat := le4 (5 + (encs es).length) ++ (encs es ++ [0])
theorem le4_len (n : Nat) : (le4 n).length = 4 := rfl
theorem enc1_len (e : El) : (enc1 e).length = 2 + e.2.1.length + e.2.2.length := by simp [enc1]; omega
theorem encs_nil : encs [] = [] := rfl
theorem encs_cons (e : El) (es : List El) : encs (e :: es) = enc1 e ++ encs es := by simp [encs]
theorem encs_app (a b : List El) : encs (a ++ b) = encs a ++ encs b := by simp [encs]
theorem encD_len (es : List El) : (encD es).length = 5 + (encs es).length := by simp [encD, le4_len]; omega
theorem getD_app_r {l m : List Nat} {k : Nat} : (l ++ m).getD (l.length + k) 0 = m.getD k 0 := by
  simp [List.getD_eq_getElem?_getD, List.getElem?_append_right]
theorem getD_app_r' {l m : List Nat} {k p : Nat} (h : p = l.length + k) : (l ++ m).getD p 0 = m.getD k 0 := by
  subst h; exact getD_app_r
theorem getD_app_l {l m : List Nat} {k : Nat} (h : k < l.length) : (l ++ m).getD k 0 = l.getD k 0 := by
  simp [List.getD_eq_getElem?_getD, List.getElem?_append_left h]
theorem u4_app_r {l m : List Nat} {k p : Nat} (h : p = l.length + k) : u4 (l ++ m) p = u4 m k := by
  subst h
  simp only [u4, Nat.add_assoc, getD_app_r]
theorem u4_app_l {l m : List Nat} {k : Nat} (h : k + 4 ≤ l.length) : u4 (l ++ m) k = u4 l k := by
  rw [u4, u4, getD_app_l (by omega), getD_app_l (by omega), getD_app_l (by omega), getD_app_l (by omega)]
theorem u4_le4 {n : Nat} (h : n < 4294967296) (m : List Nat) : u4 (le4 n ++ m) 0 = n := by
  simp [u4, le4]
  omega
theorem u4_encD {es : List El} (h : 5 + (encs es).length < 4294967296) (m : List Nat) : u4 (encD es ++ m) 0 = 5 + (encs es).length := by
  rw [encD, List.append_assoc]
  exact u4_le4 h _
theorem zf_app {l : List Nat} {nm m : List Nat} {p : Nat} (h : p = l.length) (hz : ∀ b ∈ nm, b ≠ 0) : zf (l ++ (nm ++ 0 :: m)) p = p + nm.length := by
  subst h
  rw [zf, if_pos (by simp), List.drop_left]
  congr 1
  induction nm with
  | nil => simp
  | cons b nm ih =>
    rw [List.cons_append, List.takeWhile_cons_of_pos (by simpa using hz b (List.mem_cons_self))]
    simp [ih (fun c hc => hz c (List.mem_cons_of_mem _ hc))]
/-- how many bytes a value of this kind has, read off its bytes -/
def vlen (k : Nat) (r : List Nat) : Nat := match k with
  | 16 => 4
  | 18 => 8
  | 8 => 1
  | 2 => 4 + u4 r 0
  | 3 => u4 r 0
  | 4 => u4 r 0
  | _ => 0
/-- the end of the element at k -/
def ve (l : List Nat) (k : Nat) : Nat := zf l (k + 1) + 1 + vlen (l.getD k 0) (l.drop (zf l (k + 1) + 1))
/-- an element that can be stepped over -/
def wfE (e : El) : Prop := (∀ b ∈ e.2.1, b ≠ 0) ∧ vlen e.1 e.2.2 = e.2.2.length ∧ ((e.1 = 2 ∨ e.1 = 3 ∨ e.1 = 4) → 4 ≤ e.2.2.length)
theorem u4_drop {l : List Nat} {a k : Nat} : u4 (l.drop a) k = u4 l (a + k) := by
  simp [u4, List.getD_eq_getElem?_getD, Nat.add_assoc]
theorem u4_pre {r m : List Nat} (h : 4 ≤ r.length) : u4 (r ++ m) 0 = u4 r 0 := u4_app_l (by omega)
theorem vlen_pre {k : Nat} {r m : List Nat} (h : (k = 2 ∨ k = 3 ∨ k = 4) → 4 ≤ r.length) : vlen k (r ++ m) = vlen k r := by
  by_cases h2 : k = 2
  · subst h2; simp only [vlen, u4_pre (h (Or.inl rfl))]
  · by_cases h3 : k = 3
    · subst h3; simp only [vlen, u4_pre (h (Or.inr (Or.inl rfl)))]
    · by_cases h4 : k = 4
      · subst h4; simp only [vlen, u4_pre (h (Or.inr (Or.inr rfl)))]
      · unfold vlen
        split <;> simp_all
section Walk
variable {A B : List Nat} {e : El}
theorem at_kind {k : Nat} (hk : k = A.length) : (A ++ (enc1 e ++ B)).getD k 0 = e.1 := by
  rw [getD_app_r' (k := 0) (by omega)]
  rfl
theorem at_zf {k : Nat} (hk : k = A.length) (h : wfE e) : zf (A ++ (enc1 e ++ B)) (k + 1) = k + 1 + e.2.1.length := by
  have : A ++ (enc1 e ++ B) = (A ++ [e.1]) ++ (e.2.1 ++ 0 :: (e.2.2 ++ B)) := by simp [enc1]
  rw [this]
  exact zf_app (by simp [hk]) h.1
theorem at_val {k : Nat} (hk : k = A.length) (h : wfE e) : (A ++ (enc1 e ++ B)).drop (k + 1 + e.2.1.length + 1) = e.2.2 ++ B := by
  have : A ++ (enc1 e ++ B) = (A ++ (e.1 :: (e.2.1 ++ [0]))) ++ (e.2.2 ++ B) := by simp [enc1]
  rw [this]
  exact List.drop_left' (by simp; omega)
theorem at_ve {k : Nat} (hk : k = A.length) (h : wfE e) : ve (A ++ (enc1 e ++ B)) k = k + (enc1 e).length := by
  rw [ve, at_zf hk h, at_kind hk, at_val hk h, vlen_pre h.2.2, h.2.1, enc1_len]
  omega
end Walk
