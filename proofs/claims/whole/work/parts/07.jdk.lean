/-! Math.max and System.arraycopy, as rows -/
theorem sm_mx1 : Cond.static Lib.Math.max.name ∈ sm_big := sm_in 98 (by decide +kernel) (by decide +kernel)
theorem sm_mx2 : Cond.code Lib.Math.max.name Lib.Math.max.code 2 (some .int) ∈ sm_big := sm_in 99 (by decide +kernel) (by decide +kernel)
theorem sm_mx3 : Cond.initialized "java/lang/Math" ∈ sm_big := sm_in 73 (by decide +kernel) (by decide +kernel)
theorem sm_ac1 : Cond.static arraycopyName ∈ sm_big := sm_in 339 (by decide +kernel) (by decide +kernel)
theorem sm_ac2 : Cond.native arraycopyName ∈ sm_big := sm_in 340 (by decide +kernel) (by decide +kernel)
theorem sm_ac3 : Cond.initialized "java/lang/System" ∈ sm_big := sm_in 78 (by decide +kernel) (by decide +kernel)
section Rows5
variable {N d : Nat} {M : sm_M} {pc : Nat} {L : List (Nat × Value)} {st : List Value} {h : sm_H} {Q : Option Value → sm_H → Prop}
theorem sm_cats (G : sm_G) (rest : List Value) : ((rest.map (sm_v G)).map (fun v => v.category)).sum = (rest.map (fun v => v.category)).sum := by
  rw [List.map_map]
  have : ((fun v : Value => v.category) ∘ sm_v G) = (fun v : Value => v.category) := funext (sm_v_cat G)
  rw [this]
theorem sm_mmax {idx : Nat} {x y : Int32} (n : Nat) (hd : decode M.2.1 pc = .ok (.invokestatic idx, 3)) (hl : Cond.methodLink M.1.cls idx Lib.Math.max.name ∈ sm_big) (hdc : 1 ≤ d) (hc : (st.map (fun v => v.category)).sum ≤ 8) (hp : pc + 3 = n) (k : sm_W N d M n L (.int (if x < y then y else x) :: st) h Q) : sm_W N d M pc L (.int y :: .int x :: st) h Q := by
  subst hp
  refine sm_go (fun l G p e s m args below meth c H locs ls Z X hls w => ?_) k
  have hts := X.2.2.2.2.2.2.1
  exact va_mmax X.1 X.2.1 (X.2.2.2.2.1.trans hls.1.symm) X.2.2.2.2.2.1 (hts _ (sm_in_code M hl)) (hts _ (sm_in_code M sm_mx1)) (hts _ (sm_in_code M sm_mx3)) (hts _ (sm_in_code M sm_mx2)) hdc (by rw [sm_cats]; show _ ≤ 40 * d; omega) (Nat.le_refl _) (Nat.le_refl _) hd w
theorem sm_nn {z : Int32} (h : 0 ≤ z.toInt) : ¬ z < 0 := by
  intro q
  have := Int32.lt_iff_toInt_lt.mp q
  simp at this
  omega
theorem sm_nnT {z : Int32} (h : 0 ≤ z.toInt) : (z.toNatClampNeg : Int) = z.toInt := by
  show ((z.toInt.toNat : Nat) : Int) = z.toInt
  omega
theorem sm_copy {idx a b : Nat} {sp dp q : Int32} {h2 : sm_H} (n : Nat) (hd : decode M.2.1 pc = .ok (.invokestatic idx, 3)) (hl : Cond.methodLink M.1.cls idx arraycopyName ∈ sm_big) (hdc : 1 ≤ d) (hc : (st.map (fun v => v.category)).sum ≤ 8) (hg : sm_cp h a sp b dp q h2) (hp : pc + 3 = n) (k : sm_W N d M n L st h2 Q) : sm_W N d M pc L (.int q :: .int dp :: .ref b :: .int sp :: .ref a :: st) h Q := by
  subst hp
  obtain ⟨n0, n1, f, g, c0, c1, g1, g2, g3, g4, g5, g6, rfl⟩ := hg
  refine sm_goP (List.length_set ..) (fun l G p e s m args below meth c H locs ls Z X B hls w => ?_) k
  have hts := X.2.2.2.2.2.2.1
  have he : (sm_w G h).set b (G.1 b, .inl (G.2.2.2.2 0, n1, .inl (va_cpy f g sp.toNatClampNeg dp.toNatClampNeg q.toNatClampNeg))) = sm_w G (h.set b (.inl (0, n1, .inl (va_cpy f g sp.toNatClampNeg dp.toNatClampNeg q.toNatClampNeg)))) := by rw [← sm_w_set]; rfl
  have t1 := sm_nnT g1
  have t2 := sm_nnT g2
  have t3 := sm_nnT g3
  have hloc : ((st.map (sm_v G)).map (fun v => v.category)).sum + (nativeFrameWords "java/lang/System" "arraycopy" 5 + 11) ≤ (sm_R d).locals := by
    have h7 : nativeFrameWords "java/lang/System" "arraycopy" 5 = 7 := by decide
    rw [sm_cats, h7]
    show _ ≤ 40 * d
    omega
  exact va_copyi X.1 X.2.1 (X.2.2.2.2.1.trans hls.1.symm) X.2.2.2.2.2.1 (hts _ (sm_in_code M hl)) (hts _ (sm_in_code M sm_ac2)) (hts _ (sm_in_code M sm_ac1)) (hts _ (sm_in_code M sm_ac3)) X.2.2.2.2.2.2.2.1 B.1 B.2.1 B.2.2 a b 0 0 (sm_w_at c0) (sm_w_at c1) rfl rfl rfl (sm_nn g1) (sm_nn g2) (sm_nn g3) (by omega) (by omega) g6 hdc hloc hd (fun H1 locs1 a1 a2 a3 => w H1 locs1 ⟨he ▸ a1, he ▸ a2, a3⟩)
end Rows5
