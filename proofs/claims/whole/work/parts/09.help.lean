/-! links, printed by wip/whole/mk_blocks.py -/
theorem sm_rfc (o : Option Nat) : (va_rf o).category = 1 := by cases o <;> rfl
theorem sm_rfo (o : Option Nat) : va_rf o = .null ∨ (∃ a, va_rf o = .ref a) ∨ ∃ a, va_rf o = .retAddr a := by cases o with
  | none => exact Or.inl rfl
  | some a => exact Or.inr (Or.inl ⟨a, rfl⟩)
theorem sm_sub {N d : Nat} {M : sm_M} {pc : Nat} {L L2 : List (Nat × Value)} {st : List Value} {h : sm_H} {Q : Option Value → sm_H → Prop} (ks : List Nat) (hl : lv_pick L ks = L2) (k : sm_W N d M pc L2 st h Q) : sm_W N d M pc L st h Q := by
  refine sm_goL (fun l G p e s m args below meth c H locs ls Z X hls w => w ls (lv_sub hls ks ?_)) k
  subst hl
  simp only [lv_pick, List.getElem?_map, List.map_filterMap]
theorem sm_astoreQ {N d : Nat} {M : sm_M} {pc : Nat} {L : List (Nat × Value)} {st : List Value} {h : sm_H} {Q : Option Value → sm_H → Prop} {i : Nat} {x : Option Nat} (n : Nat) (L2 : List (Nat × Value)) (hd : decode M.2.1 pc = .ok (.astore i, 2)) (hn : i < M.2.2.1) (hL : (i, va_rf x) :: L.filter (fun q : Nat × Value => !(q.1 == i) && !(q.1 + 1 == i && q.2.category == 2)) = L2) (hp : pc + 2 = n) (k : sm_W N d M n L2 st h Q) : sm_W N d M pc L (va_rf x :: st) h Q := by
  subst hp
  refine sm_goL (fun l G p e s m args below meth c H locs ls Z X hl w => ?_) k
  cases x with
  | none => exact lv_astoreN X.1 X.2.1 hd hl hn (by rw [← hL, List.map_cons, sm_filt G L _ (sm_f1 G i)]; rfl) w
  | some a => exact lv_astore X.1 X.2.1 hd hl hn (by rw [← hL, List.map_cons, sm_filt G L _ (sm_f1 G i)]; rfl) w
theorem sm_aloadQ {N d : Nat} {M : sm_M} {pc : Nat} {L : List (Nat × Value)} {st : List Value} {h : sm_H} {Q : Option Value → sm_H → Prop} {i : Nat} {x : Option Nat} (n j : Nat) (hd : decode M.2.1 pc = .ok (.aload i, 2)) (hj : L[j]? = some (i, va_rf x)) (hp : pc + 2 = n) (k : sm_W N d M n L (va_rf x :: st) h Q) : sm_W N d M pc L st h Q := by
  subst hp
  refine sm_go (fun l G p e s m args below meth c H locs ls Z X hl w => ?_) k
  have hg := sm_at hl j hj
  cases x with
  | none => exact lv_aloadN X.1 X.2.1 hd hg w
  | some a => exact lv_aload X.1 X.2.1 hd hg w
theorem sm_ne {x : Int32} {v : Int} (k : Int32) (hk : k.toInt = v) (g : ¬ x = k) : ¬ x.toInt = v := fun e => g (Int32.toInt_inj.mp (e.trans hk.symm))
theorem sm_out {x : Int32} {lo hi : Int} (g : ∀ v : Int, lo ≤ v → v ≤ hi → ¬ x.toInt = v) : x.toInt < lo ∨ hi < x.toInt := by
  rcases Int.lt_or_le x.toInt lo with a | a
  · exact Or.inl a
  · rcases Int.lt_or_le hi x.toInt with b | b
    · exact Or.inr b
    · exact absurd rfl (g _ a b)
theorem sm_iv0_2 {v : Int} (a1 : 0 ≤ v) (a2 : v ≤ 2) : v = 0 ∨ v = 1 ∨ v = 2 := by omega
theorem sm_iv0_4 {v : Int} (a1 : 0 ≤ v) (a2 : v ≤ 4) : v = 0 ∨ v = 1 ∨ v = 2 ∨ v = 3 ∨ v = 4 := by omega
theorem sm_iv0_5 {v : Int} (a1 : 0 ≤ v) (a2 : v ≤ 5) : v = 0 ∨ v = 1 ∨ v = 2 ∨ v = 3 ∨ v = 4 ∨ v = 5 := by omega
theorem sm_iv2_18 {v : Int} (a1 : 2 ≤ v) (a2 : v ≤ 18) : v = 2 ∨ v = 3 ∨ v = 4 ∨ v = 5 ∨ v = 6 ∨ v = 7 ∨ v = 8 ∨ v = 9 ∨ v = 10 ∨ v = 11 ∨ v = 12 ∨ v = 13 ∨ v = 14 ∨ v = 15 ∨ v = 16 ∨ v = 17 ∨ v = 18 := by omega
