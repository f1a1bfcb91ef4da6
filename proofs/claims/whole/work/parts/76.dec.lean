/-! elements read back out of bytes; how deep a value is -/
def dcs : Nat → List Nat → List El
  | 0, _ => []
  | _ + 1, [] => []
  | f + 1, b :: r => match spl r with
    | none => []
    | some (nm, r2) => (b, nm, r2.take (vlen b r2)) :: dcs f (r2.drop (vlen b r2))
def mxl : List Nat → Nat
  | [] => 0
  | a :: l => max a (mxl l)
def dep : Nat → Nat → List Nat → Nat
  | 0, _, _ => 0
  | t + 1, k, raw => if k = 3 ∨ k = 4 then 1 + mxl ((dcs raw.length (slice raw 4 (raw.length - 1))).map (fun e => dep t e.1 e.2.2)) else 0
theorem dr_nm (nm m : List Nat) : (nm ++ 0 :: m).drop (nm.length + 1) = m := by
  induction nm with
  | nil => rfl
  | cons b nm ih => simpa using ih
theorem spl_nm {nm m : List Nat} (hz : ∀ b ∈ nm, b ≠ 0) : spl (nm ++ 0 :: m) = some (nm, m) := by
  have h : (nm ++ 0 :: m).takeWhile (fun b => b != 0) = nm := by
    induction nm with
    | nil => simp
    | cons b nm ih =>
      rw [List.cons_append, List.takeWhile_cons_of_pos (by simpa using hz b (List.mem_cons_self))]
      rw [ih (fun c hc => hz c (List.mem_cons_of_mem _ hc))]
  rw [spl, h, if_pos (by simp), dr_nm]
theorem dcs_encs : ∀ (es : List El) (f : Nat), (∀ e ∈ es, wfE e) → (encs es).length ≤ f → dcs f (encs es) = es := by
  intro es
  induction es with
  | nil =>
    intro f _ _
    cases f <;> rfl
  | cons e es ih =>
    intro f hw hf
    have he := hw e List.mem_cons_self
    rw [encs_cons, List.length_append, enc1_len] at hf
    cases f with
    | zero => omega
    | succ f =>
      have e1 : encs (e :: es) = e.1 :: (e.2.1 ++ 0 :: (e.2.2 ++ encs es)) := by rw [encs_cons, enc1]; simp
      rw [e1]
      show (match spl (e.2.1 ++ 0 :: (e.2.2 ++ encs es)) with
        | none => []
        | some (nm, r2) => (e.1, nm, r2.take (vlen e.1 r2)) :: dcs f (r2.drop (vlen e.1 r2))) = _
      rw [spl_nm he.1]
      show (e.1, e.2.1, (e.2.2 ++ encs es).take (vlen e.1 (e.2.2 ++ encs es))) :: dcs f ((e.2.2 ++ encs es).drop (vlen e.1 (e.2.2 ++ encs es))) = _
      rw [vlen_pre he.2.2, he.2.1, List.take_left, List.drop_left, ih f (fun x hx => hw x (List.mem_cons_of_mem _ hx)) (by omega)]
theorem sl_encD (es : List El) : slice (encD es) 4 ((encD es).length - 1) = encs es := by
  rw [encD_len, slice, encD, List.drop_left' (le4_len _), show 5 + (encs es).length - 1 - 4 = (encs es).length by omega, List.take_left]
theorem dep_h {t k : Nat} {es : List El} (hk : k = 3 ∨ k = 4) (hw : ∀ e ∈ es, wfE e) : dep (t + 1) k (encD es) = 1 + mxl (es.map (fun e => dep t e.1 e.2.2)) := by
  rw [dep, if_pos hk, sl_encD, dcs_encs es _ hw (by rw [encD_len]; omega)]
theorem dep_l {t k : Nat} {raw : List Nat} (hk : ¬ (k = 3 ∨ k = 4)) : dep t k raw = 0 := by
  cases t with
  | zero => rfl
  | succ t => rw [dep, if_neg hk]
theorem leaf_k {S : sT} {n k : Nat} {raw : List Nat} (h : leafV S n k raw) : ¬ (k = 3 ∨ k = 4) := by
  obtain ⟨-, h⟩ := h
  rcases h with ⟨rfl, -⟩ | ⟨rfl, -⟩ | ⟨rfl, -⟩ | ⟨rfl, -⟩ | ⟨rfl, -⟩ <;> omega
theorem leaf_wf {S : sT} {n k : Nat} {raw : List Nat} (hl : raw.length < 4294967296) (h : leafV S n k raw) : vlen k raw = raw.length ∧ ((k = 2 ∨ k = 3 ∨ k = 4) → 4 ≤ raw.length) := by
  obtain ⟨-, h⟩ := h
  rcases h with ⟨rfl, h, -⟩ | ⟨rfl, h, -⟩ | ⟨rfl, ⟨b, -, rfl⟩, -⟩ | ⟨rfl, rfl, -⟩ | ⟨rfl, a, tx, rfl, -⟩
  · exact ⟨h.symm, fun _ => by omega⟩
  · exact ⟨h.symm, fun _ => by omega⟩
  · exact ⟨rfl, fun h => by omega⟩
  · exact ⟨rfl, fun h => by omega⟩
  · have : (le4 (tx.length + 1) ++ (tx ++ [0])).length = 5 + tx.length := by simp [le4_len]; omega
    refine ⟨?_, fun _ => by omega⟩
    show 4 + u4 _ 0 = _
    rw [u4_le4 (by omega), this]
    omega
theorem RV_wf {t : Nat} {S : sT} {n k : Nat} {raw fp : List Nat} (hl : raw.length < 4294967296) (h : RV t S n k raw fp) : vlen k raw = raw.length ∧ ((k = 2 ∨ k = 3 ∨ k = 4) → 4 ≤ raw.length) := by
  cases t with
  | zero => exact leaf_wf hl h.2.2.2.2
  | succ t =>
    rcases h.2.2.2 with h | ⟨hk, -, es, ks, f2, rfl, -⟩
    · exact leaf_wf hl h.2
    · rw [encD_len] at hl
      refine ⟨?_, fun _ => by rw [encD_len]; omega⟩
      have hu := u4_encD (es := es) (by omega) []
      rw [List.append_nil] at hu
      rcases hk with rfl | rfl
      · show u4 _ 0 = _
        rw [hu, encD_len]
      · show u4 _ 0 = _
        rw [hu, encD_len]
theorem RL_wf {t : Nat} {S : sT} {k : Nat} : ∀ {ks : List Nat} {es : List El} {fp : List Nat} {i : Nat}, (encs es).length < 4294967296 → RL (RV t S) S k i ks es fp → ∀ e ∈ es, wfE e := by
  intro ks
  induction ks with
  | nil =>
    intro es fp i _ h
    cases es with
    | nil => intro e he; simp at he
    | cons e es => exact absurd h (by simp [RL])
  | cons n ks ih =>
    intro es fp i hl h
    cases es with
    | nil => exact absurd h (by simp [RL])
    | cons e es =>
      obtain ⟨f1, f2, rfl, -, hz, h1, h2⟩ := h
      rw [encs_cons, List.length_append, enc1_len] at hl
      intro x hx
      rcases List.mem_cons.mp hx with rfl | hx
      · have := RV_wf (by omega) h1
        exact ⟨hz, this.1, this.2⟩
      · exact ih (by omega) h2 x hx
