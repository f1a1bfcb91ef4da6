/-! the state behind the constructors -/
def S0 : sT := (fun k => match k with
  | 1 => -1
  | 2 => -1
  | 6 => -1
  | 8 => 3
  | 9 => -1
  | 13 => -1
  | 17 => -1
  | 18 => -1
  | 31 => 5
  | 32 => 5
  | 33 => 5
  | 34 => 5
  | 38 => 5
  | _ => 0, fun j => match j with
  | 1 => e5
  | 2 => e5
  | 3 => e5
  | 4 => e5
  | 8 => e5
  | 17 => upd (upd (upd (upd (fun _ => 0) 0 5) 2000 5) 4000 5) 6000 5
  | _ => fun _ => 0, fun _ => 0)
theorem e5_v (i : Nat) : e5 i = 0 ∨ e5 i = 5 := by
  unfold e5 upd
  repeat' split
  all_goals first | exact Or.inl rfl | exact Or.inr rfl
theorem s5_v (i : Nat) : upd (upd (upd (upd (fun _ => 0) 0 5) 2000 5) 4000 5) 6000 5 i = 0 ∨ upd (upd (upd (upd (fun _ => 0) 0 5) 2000 5) 4000 5) 6000 5 i = 5 := by
  unfold upd
  repeat' split
  all_goals first | exact Or.inl rfl | exact Or.inr rfl
theorem S0_v (j i : Nat) : S0.2.1 j i = 0 ∨ S0.2.1 j i = 5 := by
  unfold S0
  dsimp only
  split
  all_goals first | exact e5_v i | exact s5_v i | exact Or.inl rfl
theorem S0_sB (j i : Nat) : sB (S0.2.1 j i) := by
  rcases S0_v j i with h | h <;> (rw [h]; rfl)
theorem S0_st {k i : Nat} (hk : k < 4) (hi : i < 5) : (stl S0).getD (2000 * k + i) 0 = [5, 0, 0, 0, 0].getD (0 + i) 0 := by
  rw [stl_get (by omega)]
  rcases (show k = 0 ∨ k = 1 ∨ k = 2 ∨ k = 3 by omega) with rfl | rfl | rfl | rfl <;> rcases (show i = 0 ∨ i = 1 ∨ i = 2 ∨ i = 3 ∨ i = 4 by omega) with rfl | rfl | rfl | rfl | rfl <;> decide +kernel
theorem S0_u4 {k : Nat} (hk : k < 4) : u4 (stl S0) (2000 * k) = 5 := by
  have h0 := S0_st hk (i := 0) (by omega)
  have h1 := S0_st hk (i := 1) (by omega)
  have h2 := S0_st hk (i := 2) (by omega)
  have h3 := S0_st hk (i := 3) (by omega)
  rw [u4, h1, h2, h3, show 2000 * k = 2000 * k + 0 from rfl, h0]
  rfl
theorem S0_sl {k : Nat} (hk : k < 4) : slice (stl S0) (2000 * k) (2000 * k + 5) = [5, 0, 0, 0, 0] := by
  have hlen := stl_len S0
  have h := sl_ext (l := stl S0) (m := [5, 0, 0, 0, 0]) (a := 2000 * k) (b := 2000 * k + 5) (c := 0) (e := 5) (by omega) (by decide) (by omega) (fun i hi => S0_st hk (by omega))
  rw [h]
  rfl
theorem S0_Inv : Inv S0 := by
  refine ⟨⟨fun i => S0_sB 17 i, fun j hj => ?_, by decide +kernel, fun i => S0_sB 29 i, ⟨0, by omega, rfl, fun i => S0_sB 30 i⟩⟩, ⟨rfl, rfl, rfl⟩, ⟨0, by omega, rfl, ?_⟩, ⟨fun k hk => ?_, fun k hk => ?_⟩, Or.inl rfl⟩
  · rcases (show j = 0 ∨ j = 1 ∨ j = 2 ∨ j = 3 ∨ j = 4 ∨ j = 5 ∨ j = 6 ∨ j = 7 ∨ j = 8 ∨ j = 9 ∨ j = 10 by omega) with rfl | rfl | rfl | rfl | rfl | rfl | rfl | rfl | rfl | rfl | rfl
    all_goals first | exact ⟨0, by decide, rfl, fun i => S0_sB _ i⟩ | exact ⟨5, by decide, rfl, fun i => S0_sB _ i⟩
  · rw [sl_nil (by omega)]
    rfl
  · rw [S0_u4 hk, S0_sl hk]
    exact ⟨by omega, by decide +kernel⟩
  · rw [sld, S0_u4 hk, S0_sl hk]
    rcases (show k = 0 ∨ k = 1 ∨ k = 2 ∨ k = 3 by omega) with rfl | rfl | rfl | rfl <;> decide +kernel
