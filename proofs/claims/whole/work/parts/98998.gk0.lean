/-! what the claim's premises give at the start -/
def tm0 (i : Nat) : Term := .string "UpdateDesk$Plan" (sm_sx.getD i 0)
theorem kn0 {s : State} {args : Array Value} (hts : ∀ w ∈ lw_tbl, w.before args s = true) : ∃ D : va_G, ∀ (c : Nat) (q : vw_C), sm_cl[c]? = some q → u_Kn s q.1 q.2.1 q.2.2 (D.1 c) (D.2 c) := by
  have hi : ∀ {w : Cond}, w ∈ sm_big → w ∈ lw_tbl := lw_big
  obtain ⟨c0, i0, k0⟩ := u_known (C := sm_R0) (T := sm_F0) (N := 2) (n := 2) hts (fun w hw => hi (sm_u0 w hw)) (hts _ (List.mem_of_getElem? (i := 92) (by decide +kernel)))
  obtain ⟨c1, i1, k1⟩ := u_known (C := sm_R1) (T := sm_F1) (N := 3) (n := 3) hts (fun w hw => hi (sm_u1 w hw)) (hts _ (List.mem_of_getElem? (i := 114) (by decide +kernel)))
  obtain ⟨c2, i2, k2⟩ := u_known (C := sm_R2) (T := sm_F2) (N := 12) (n := 12) hts (fun w hw => hi (sm_u2 w hw)) (hts _ (List.mem_of_getElem? (i := 172) (by decide +kernel)))
  obtain ⟨c3, i3, k3⟩ := u_known (C := sm_R3) (T := sm_F3) (N := 8) (n := 8) hts (fun w hw => hi (sm_u3 w hw)) (hts _ (List.mem_of_getElem? (i := 133) (by decide +kernel)))
  obtain ⟨c4, i4, k4⟩ := u_known (C := sm_R4) (T := sm_F4) (N := 8) (n := 8) hts (fun w hw => hi (sm_u4 w hw)) (hts _ (List.mem_of_getElem? (i := 84) (by decide +kernel)))
  obtain ⟨c5, i5, k5⟩ := u_known (C := sm_R5) (T := sm_F5) (N := 27) (n := 27) hts (fun w hw => hi (sm_u5 w hw)) (hts _ (List.mem_of_getElem? (i := 623) (by decide +kernel)))
  refine ⟨(fun c => [c0, c1, c2, c3, c4, c5].getD c c0, fun c => [i0, i1, i2, i3, i4, i5].getD c i0), fun c q hq => ?_⟩
  have hc : c < 6 := (List.getElem?_eq_some_iff.mp hq).1
  rcases (show c = 0 ∨ c = 1 ∨ c = 2 ∨ c = 3 ∨ c = 4 ∨ c = 5 by omega) with rfl | rfl | rfl | rfl | rfl | rfl
  · cases hq; exact k0
  · cases hq; exact k1
  · cases hq; exact k2
  · cases hq; exact k3
  · cases hq; exact k4
  · cases hq; exact k5
theorem ar0 {s : State} {args : Array Value} (hts : ∀ w ∈ lw_tbl, w.before args s = true) : va_AO "UpdateDesk$Bytes" s ∧ ∃ ac : Nat → ClassId, ∀ (k : Nat) (q : ClassId × FieldType), [(ac 0, FieldType.byte), (ac 1, .int), (ac 2, .long), (ac 3, .object "UpdateDesk$Bytes")][k]? = some q → ArrOfT s q.1 q.2 ∧ va_RA s q.1 q.2 := by
  have hAO : va_AO "UpdateDesk$Bytes" s := va_AO.of (hts _ (List.mem_of_getElem? (i := 112) (by decide +kernel)))
  obtain ⟨cB, kB, pB, b1, b2, b3⟩ := Cond.arrayClass_spec (type := .byte) (hts _ (List.mem_of_getElem? (i := 111) (by decide +kernel)))
  obtain ⟨cI, kI, pI, i1, i2, i3⟩ := Cond.arrayClass_spec (type := .int) (hts _ (List.mem_of_getElem? (i := 131) (by decide +kernel)))
  obtain ⟨cL, kL, pL, l1, l2, l3⟩ := Cond.arrayClass_spec (type := .long) (hts _ (List.mem_of_getElem? (i := 709) (by decide +kernel)))
  obtain ⟨pO, cO, kO, o1, o2, o3, o4, o5⟩ := Cond.arrayOver_spec hAO
  refine ⟨hAO, fun c => [cB, cI, cL, cO].getD c cB, fun k q hq => ?_⟩
  have hk : k < 4 := (List.getElem?_eq_some_iff.mp hq).1
  rcases (show k = 0 ∨ k = 1 ∨ k = 2 ∨ k = 3 by omega) with rfl | rfl | rfl | rfl
  · cases hq; exact ⟨fun n z => ⟨fun k h => (by cases h), kB, b2, pB, b3⟩, b1⟩
  · cases hq; exact ⟨fun n z => ⟨fun k h => (by cases h), kI, i2, pI, i3⟩, i1⟩
  · cases hq; exact ⟨fun n z => ⟨fun k h => (by cases h), kL, l2, pL, l3⟩, l1⟩
  · cases hq; exact ⟨fun n z => ⟨fun k h => (by cases h), kO, o3, pO, o4⟩, kO, pO, o3, o4, o1, o5⟩
theorem tx0 {s : State} {b : Nat} {A : Nat → Prop} (hg : (Jvm.Cond.and given_1 narrow_1).before #[Value.ref b] s = true) (hA : ∀ a : Nat, a < s.heap.size → ¬ A a) : ∃ adK adV : Nat → Nat, vk_S 6 sm_sl sm_sb adK adV A s s.heap ∧ ∀ i, i < 6 → (tm0 i).eval #[Value.ref b] s none [] s = some (.ref (adK i)) := by
  have hs := flat_of_before _ hg
  have m1 : ∀ i, i < 6 → Cond.exactly (tm0 i) "java/lang/String" ∈ flatC (Jvm.Cond.and given_1 narrow_1) := by decide +kernel
  have m2 : ∀ i, i < 6 → Cond.eq (.field (tm0 i) "java/lang/String" "coder" "B") (.int 0) ∈ flatC (Jvm.Cond.and given_1 narrow_1) := by decide +kernel
  have m3 : ∀ i, i < 6 → Cond.arrayOf (.field (tm0 i) "java/lang/String" "value" "[B") .byte ∈ flatC (Jvm.Cond.and given_1 narrow_1) := by decide +kernel
  have m4 : ∀ i, i < 6 → Cond.eq (.length (.field (tm0 i) "java/lang/String" "value" "[B")) (.int (Int32.ofNat (sm_sl.getD i 0))) ∈ flatC (Jvm.Cond.and given_1 narrow_1) := by decide +kernel
  have m5 : ∀ i, i < 6 → ∀ j, j < sm_sl.getD i 0 → Cond.eq (.elem (.field (tm0 i) "java/lang/String" "value" "[B") (.int (Int32.ofNat j))) (.int ((sm_sb.getD i []).getD j 0)) ∈ flatC (Jvm.Cond.and given_1 narrow_1) := by decide +kernel
  have m6 : ∀ i, i < 6 → ∀ j, j < 6 → i ≠ j → Cond.not (Cond.eq (tm0 i) (tm0 j)) ∈ flatC (Jvm.Cond.and given_1 narrow_1) ∨ Cond.not (Cond.eq (tm0 j) (tm0 i)) ∈ flatC (Jvm.Cond.and given_1 narrow_1) := by decide +kernel
  have m7 : ∀ i, i < 6 → sm_sl.getD i 0 < 2 ^ 31 := by decide +kernel
  exact vk_Sof (tm := tm0) m7 (fun i hi => hs _ (m1 i hi)) (fun i hi => hs _ (m2 i hi)) (fun i hi => hs _ (m3 i hi)) (fun i hi => hs _ (m4 i hi)) (fun i hi j hj => hs _ (m5 i hi j hj)) (fun i j hi hj hne => by
    rcases m6 i hi j hj hne with h | h
    · exact Or.inl (hs _ h)
    · exact Or.inr (hs _ h)) hA
theorem gk0 {p : Program} {s : State} {m : MethodId} {meth : Method} {c : Code} {b L : Nat} {xs : Nat → Int32} (C0 : lw_At p s m meth c b L xs) : ∃ G : sm_G, gk G (fun q => s.heap.size ≤ q) s := by
  have hts := C0.2.2.2.2.2.1
  have hg := C0.2.2.2.2.2.2.2.2.2
  have hs := flat_of_before _ hg
  have hA : ∀ a : Nat, a < s.heap.size → ¬ s.heap.size ≤ a := fun a h z => by omega
  obtain ⟨D, hD⟩ := kn0 hts
  obtain ⟨hAO, ac, hac⟩ := ar0 hts
  obtain ⟨adK, adV, hS, hev⟩ := tx0 (A := fun q => s.heap.size ≤ q) hg hA
  have hZ := va_Zof (C := "java/lang/String") (n := "COMPACT_STRINGS") (d := "Z") (A := fun q => s.heap.size ≤ q) (hts _ (List.mem_of_getElem? (i := 394) (by decide +kernel))) (hts _ (List.mem_of_getElem? (i := 79) (by decide +kernel))) (va_eqt (hs (Cond.eq (.static "java/lang/String" "COMPACT_STRINGS" "Z") (.int 1)) (by decide +kernel))) hA
  have hQ := va_Zqof (C := "jdk/internal/util/Preconditions") (n := "SIOOBE_FORMATTER") (d := "Ljava/util/function/BiFunction;") (A := fun q => s.heap.size ≤ q) (hts _ (List.mem_of_getElem? (i := 411) (by decide +kernel))) (hts _ (List.mem_of_getElem? (i := 81) (by decide +kernel))) (hs (Cond.isRef (.static "jdk/internal/util/Preconditions" "SIOOBE_FORMATTER" "Ljava/util/function/BiFunction;")) (by decide +kernel)) hA
  have hR : ∀ i, i < 6 → vk_R "UpdateDesk$Plan" (sm_sx.getD i 0) (sm_st.getD i "") (adK i) s := by
    intro i hi
    have hw : ∀ i, i < 6 → Cond.stringRef "UpdateDesk$Plan" (sm_sx.getD i 0) (sm_st.getD i "") ∈ lw_tbl := by
      intro i hi
      rcases (show i = 0 ∨ i = 1 ∨ i = 2 ∨ i = 3 ∨ i = 4 ∨ i = 5 by omega) with rfl | rfl | rfl | rfl | rfl | rfl
      · exact List.mem_of_getElem? (i := 375) (by decide +kernel)
      · exact List.mem_of_getElem? (i := 376) (by decide +kernel)
      · exact List.mem_of_getElem? (i := 377) (by decide +kernel)
      · exact List.mem_of_getElem? (i := 378) (by decide +kernel)
      · exact List.mem_of_getElem? (i := 379) (by decide +kernel)
      · exact List.mem_of_getElem? (i := 380) (by decide +kernel)
    exact vk_R.of (hts _ (hw i hi)) (hev i hi)
  have hN : ∀ w ∈ sm_nest, va_Nw w s := by
    intro w hw
    have h1 := hts w (List.mem_filter.mp hw).1
    have hm := (List.mem_filter.mp hw).2
    cases w <;> first | exact va_Nw.of rfl h1 | (simp [sm_isN] at hm)
  have fin : ∀ fv : Nat, va_Z "jdk/internal/util/Preconditions" "SIOOBE_FORMATTER" "Ljava/util/function/BiFunction;" (va_rf (if fv = 0 then none else some (fv - 1))) (fun q => s.heap.size ≤ q) s s.heap → ∃ G : sm_G, gk G (fun q => s.heap.size ≤ q) s := by
    intro fv hF
    refine ⟨(fun _ => 0, adK, (fun k => if k = 6 then fv else adV k), D, ac), ⟨hD, hac⟩, hN, hR, ⟨fun i hi => ?_, hS.2⟩, hZ, ?_, hAO⟩
    · have := hS.1 i hi
      simp only [show ¬ i = 6 by omega, if_false]
      exact this
    · exact hF
  rcases hQ with h | ⟨t, h⟩
  · exact fin 0 h
  · exact fin (t + 1) h
