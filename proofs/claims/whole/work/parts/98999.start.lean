/-! from the law's entry to its loop; printed by wip/whole/mk_start.py out of start.body.txt -/
def lG (p : Program) (l : Launch) (e : Env) (s : State) (m : MethodId) (below : List Frame) (meth : Method) (c : Code) (b : Nat) (G : sm_G) (pc : Nat) (Lc : List (Nat × Value)) (st : List Value) (w : va_W) (k j : Nat) : Prop := ∀ (H : Heap) (locs : List Loc) (ls : Array Slot), gB G (fun q => s.heap.size ≤ q) w s H locs → lv_has ls 4 Lc → W p l e room_1 s m #[Value.ref b] below meth c H locs k j (lw_Z below #[Value.ref b] s) (F0 m pc ls st)
section St0
variable {p : Program} {l : Launch} {e : Env} {s : State} {m : MethodId} {below : List Frame} {meth : Method} {c : Code} {b L : Nat} {xs : Nat → Int32} {G : sm_G} {pc : Nat} {Lc : List (Nat × Value)} {st : List Value} {w : va_W} {k j : Nat}
theorem lg_new {C : String} {T : u_T} {N ci idx : Nat} {fs : List Value} (n : Nat) (C0 : lw_At p s m meth c b L xs) (hg : gk G (fun q => s.heap.size ≤ q) s) (ty : Nat → FieldType) (hd : decode code pc = .ok (.new idx, 3)) (hc : sm_cl[ci]? = some (C, T, N)) (hu : ∀ w ∈ u_ws C T N, w ∈ sm_big) (hty : ∀ k, k < N → parseFieldDescriptor (T k).2.2.1 = some (ty k)) (h1 : Cond.classLink "UpdateDeskLaw" idx C ∈ sm_big) (h2 : Cond.instantiable C N ∈ sm_big) (h3 : Cond.initialized C ∈ sm_big) (hfs : ∀ j, j < N → defaultValue (ty j) = vp_V fs j) (hk : k + 1 ≤ room_1.cells) (hj : j + N ≤ room_1.slots) (hp : pc + 3 = n) (kk : ∀ q, lG p l e s m below meth c b G n Lc (.ref q :: st) (w ++ [(q, .inr (ci, fs))]) (k + 1) (j + N)) : lG p l e s m below meth c b G pc Lc st w k j := by
  subst hp
  intro H locs ls B hls
  have hts := C0.2.2.2.2.2.1
  exact va_new (own := "UpdateDeskLaw") C0.1 C0.2.1 hts (fun w hw => lw_big (hu w hw)) ty hty C0.2.2.2.2.1 (hts _ (lw_big h1)) (hts _ (lw_big h2)) (hts _ (lw_big h3)) hg.1 B.1 B.2.1 B.2.2 (fun q h => h) hc hfs hk hj hd (fun q H1 a1 a2 a3 => kk q H1 locs ls ⟨a1, a2, a3⟩ hls)
theorem lg_go {n : Nat} {st2 : List Value} (hk : ∀ (H : Heap) (locs : List Loc) (ls : Array Slot) (Z : State → Prop), lv_has ls 4 Lc → W p l e room_1 s m #[Value.ref b] below meth c H locs k j Z (F0 m n ls st2) → W p l e room_1 s m #[Value.ref b] below meth c H locs k j Z (F0 m pc ls st)) (kk : lG p l e s m below meth c b G n Lc st2 w k j) : lG p l e s m below meth c b G pc Lc st w k j :=
  fun H locs ls B hl => hk H locs ls _ hl (kk H locs ls B hl)
theorem lg_init {K2 n2 dc idx a : Nat} {M2 : sm_M} {rest : List Value} {wc wr : va_W} {Po2 : va_W → Prop} (n : Nat) (C0 : lw_At p s m meth c b L xs) (hg : gk G (fun q => s.heap.size ≤ q) s) (hd : decode code pc = .ok (.invokespecial idx, 3)) (m1 : Cond.methodLink "UpdateDeskLaw" idx M2.1 ∈ sm_big) (m2 : Cond.instanceMethod M2.1 ∈ sm_big) (m3 : M2.1.name = "<init>") (m4 : M2.2.2.2 = none) (hok : sm_okM M2 0) (hdc : dc ≤ 100) (hst : st = .ref a :: rest) (hc : (rest.map (fun v => v.category)).sum ≤ 8) (hk : k + K2 ≤ room_1.cells) (hj : j + n2 ≤ room_1.slots) (isC isR : List Nat) (hC : isC.map (fun i => w[i]?) = wc.map some) (hR : isR.map (fun i => w[i]?) = wr.map some) (hn1 : va_nd isC = true) (hnd : va_nd isR = true) (hdis : ∀ i ∈ isR, i ∉ isC) (hp : pc + 3 = n) (hT : gC G dc K2 n2 M2 [.ref a] wc Po2)
    (kk : ∀ w1, Po2 w1 → lG p l e s m below meth c b G n Lc rest (wr ++ w1) (k + K2) (j + n2)) : lG p l e s m below meth c b G pc Lc st w k j := by
  subst hp
  obtain ⟨o1, o2, o3, o4, o5, o6⟩ := hok
  intro H locs ls B hl T hT2 XX
  have hts := C0.2.2.2.2.2.1
  have hF := va_free (A0 := fun q => s.heap.size ≤ q) B.2.1 B.2.2 (fun q h => h) isC hC
  have hf : isC.filterMap (fun i => w[i]?) = wc := by
    have h1 : isC.filterMap (fun i => w[i]?) = (isC.map (fun i => w[i]?)).filterMap id := by rw [List.filterMap_map]; rfl
    rw [h1, hC, List.filterMap_map]
    exact List.filterMap_some
  have hpre : PreS s H (gP G [.ref a] wc H.size) [.ref a] := ⟨gP_blind G _ wc H.size, fun U hU hW => ⟨rfl, by rw [hU], by rw [hU]; exact B.1.sub isC hf, gk.narrow hF (gk.go hW (fun q a1 a2 => by rw [hU]; exact B.2.2.2.1 q a1 a2) hg), (B.2.1.sub isC hn1 hC).self⟩⟩
  have hcw := cwI (R := room_1) (rm := gR dc K2 n2) (mc := K2) (ms := n2) (bytes := M2.2.1) (maxL := M2.2.2.1) 0 hts (lw_goodIn M2 o2) (by rw [sm_ws, m4]) rfl rfl (hts _ (lw_big o1)) (hts _ (lw_big m1)) (hts _ (lw_big m2)) m3 ⟨o3, o4, o5⟩ ⟨by show dc + 1 ≤ 2048; omega, by show 8 + (M2.2.2.1 + 11) + 40 * dc ≤ 84000; omega⟩
  have hrun := va_runI (As := []) (rest := rest) (b := a) (g := F0 m pc ls st) (cells := k) (slots := j) (e := e) (locs := locs) (below := below) (meth := meth) ⟨C0.1, C0.2.1, C0.2.2.2.1, C0.2.2.2.2.1, hts⟩ (hT l H.size) hcw hpre rfl rfl hl.1 hst (lv_room hc) hd ⟨hk, hj⟩
  obtain ⟨v, st₀, t, T2, L2, h0, X2, hL2, f1, f2, ⟨hv, ⟨w1, hw1, hP1, hD1⟩, hz, hFr⟩, stp⟩ := hrun T hT2 XX
  cases hv
  rw [h0] at hz hFr
  obtain ⟨hP, hD⟩ := va_join B.1 B.2.1 isC isR hC hR hnd hdis hFr hF hP1 hD1
  have B2 : gB G (fun q => s.heap.size ≤ q) (wr ++ w1) s T2.heap (locs ++ L2) := by
    refine ⟨by rw [f1]; exact hP, hD, Nat.le_trans B.2.2.1 (by rw [f1]; exact hz), fun q g1 g2 => ?_, fun q hq => ?_⟩
    · rw [f1, hFr q (Nat.lt_of_lt_of_le g1 B.2.2.1) (fun z => g2 (hF q z))]
      exact B.2.2.2.1 q g1 g2
    · rcases List.mem_append.mp hq with z | z
      · exact B.2.2.2.2 q z
      · exact hF _ (hL2 q z)
  obtain ⟨t2, a1, b1⟩ := kk w1 hw1 T2.heap (locs ++ L2) ls B2 hl T2 rfl X2
  exact ⟨t2, stp t2 a1, b1⟩
theorem lG_st {kx : Fin 4} {i x : Nat} (n : Nat) (L2 : List (Nat × Value)) (C0 : lw_At p s m meth c b L xs) (hd : decode code pc = .ok (.astore_n kx, 1)) (hi : (kx : Nat) = i) (hn : i < 4) (hL : (i, Value.ref x) :: Lc.filter (fun q : Nat × Value => !(q.1 == i) && !(q.1 + 1 == i && q.2.category == 2)) = L2) (hp : pc + 1 = n) (kk : lG p l e s m below meth c b G n L2 st w k j) : lG p l e s m below meth c b G pc Lc (.ref x :: st) w k j := by
  subst hp
  exact fun H locs ls B hl => lv_astore_n C0.1 C0.2.1 hd hi hl hn hL (fun ls2 hl2 => kk H locs ls2 B hl2)
theorem lG_is {kx : Fin 4} {i : Nat} {x : Int32} (n : Nat) (L2 : List (Nat × Value)) (C0 : lw_At p s m meth c b L xs) (hd : decode code pc = .ok (.istore_n kx, 1)) (hi : (kx : Nat) = i) (hn : i < 4) (hL : (i, Value.int x) :: Lc.filter (fun q : Nat × Value => !(q.1 == i) && !(q.1 + 1 == i && q.2.category == 2)) = L2) (hp : pc + 1 = n) (kk : lG p l e s m below meth c b G n L2 st w k j) : lG p l e s m below meth c b G pc Lc (.int x :: st) w k j := by
  subst hp
  exact fun H locs ls B hl => lv_istore_n C0.1 C0.2.1 hd hi hl hn hL (fun ls2 hl2 => kk H locs ls2 B hl2)
theorem lW_sub {h : sm_H} {L2 : List (Nat × Value)} (ks : List Nat) (hl : lv_pick Lc ks = L2) (kk : lW p l e s m below meth c b G pc L2 st h) : lW p l e s m below meth c b G pc Lc st h :=
  fun H locs ls B hls => kk H locs ls B (lv_sub hls ks hl)
theorem fn0 (G : sm_G) (ad : Nat → Nat) : va_up (va_up (va_up (va_up (fun _ => none) 0 (some (ad 13))) 1 (some (ad 15))) 2 (some (ad 17))) 3 (some (ad 19)) = sm_o (ad, G.2) slF := by
  funext i
  by_cases h : i < 4
  · rcases (show i = 0 ∨ i = 1 ∨ i = 2 ∨ i = 3 by omega) with rfl | rfl | rfl | rfl <;> rfl
  · simp [sm_o, slF, h, va_up, show ¬ i = 3 by omega, show ¬ i = 2 by omega, show ¬ i = 1 by omega, show ¬ i = 0 by omega]
/-- the world of the two constructors, in the order of the state's cells -/
theorem lg_end (C0 : lw_At p s m meth c b L xs) (hg : gk G (fun q => s.heap.size ≤ q) s) (ad : Nat → Nat) (is : List Nat) (hnd : va_nd is = true) (h1 : is.filterMap (fun i => w[i]?) = sm_w (ad, G.2) (hp S0)) (h2 : is.map (fun i => w[i]?) = (sm_w (ad, G.2) (hp S0)).map some)
    (kk : lH p s m meth c b L xs (ad, G.2) → lW p l e s m below meth c b (ad, G.2) pc Lc st (hp S0)) : lG p l e s m below meth c b G pc Lc st w 51 127422 := by
  intro H locs ls B hl
  have hP := B.1.sub is h1
  have hD := B.2.1.sub is hnd h2
  have hat : ∀ i, i < 51 → ∃ q, (sm_w (ad, G.2) (hp S0))[i]? = some (ad i, q) := fun i hi => by
    have h3 : (hp S0)[i]? = some ((hp S0)[i]'(by rw [hp_len]; exact hi)) := List.getElem?_eq_getElem _
    exact ⟨_, sm_w_at h3⟩
  have hsz : ∀ i, i < 51 → s.heap.size ≤ ad i := fun i hi => by
    obtain ⟨q, hq⟩ := hat i hi
    exact hD.2 i _ hq
  have hAA : ∀ q, sm_A (ad, G.2) 51 q → s.heap.size ≤ q := by
    rintro q ⟨i, hi, rfl⟩
    exact hsz i hi
  refine kk ⟨C0, gk.K hg hAA, hsz⟩ H locs ls ⟨hP, ⟨hD.1, fun i q hq => ?_⟩, B.2.2⟩ hl
  have hi : i < 51 := by
    have := (List.getElem?_eq_some_iff.mp hq).1
    rw [sm_w_len, hp_len] at this
    exact this
  obtain ⟨q2, hq2⟩ := hat i hi
  rw [hq] at hq2
  exact ⟨i, hi, by rw [Option.some.inj hq2]⟩
set_option maxRecDepth 20000 in
set_option maxHeartbeats 1000000 in
theorem lg_fin (C0 : lw_At p s m meth c b L xs) (hg : gk G (fun q => s.heap.size ≤ q) s) (ad : Nat → Nat) (hL : L ≤ 3072) : lG p l e s m below meth c b G 18 [(3, .int 0), (2, .ref (ad 33)), (1, .ref (ad 0)), (0, .ref b)] [] [((ad 0), .inr (4, [.ref (ad 11), .ref (ad 1), .ref (ad 2), .ref (ad 4), .ref (ad 9), .int 0, .int (-1), .int (-1)])), ((ad 11), .inr (0, [.ref (ad 12), .int 0])), ((ad 12), .inl (G.2.2.2.2 0, 2000, .inl (fun _ => 0))), ((ad 1), .inl (G.2.2.2.2 3, 4, .inr (.inr (.inr (.inr (va_up (va_up (va_up (va_up (fun _ => none) 0 (some (ad 13))) 1 (some (ad 15))) 2 (some (ad 17))) 3 (some (ad 19)))))))), ((ad 2), .inr (1, [.ref (ad 3), .ref (ad 21), .int 0])), ((ad 3), .inl (G.2.2.2.2 1, 1000, .inl (fun _ => 0))), ((ad 21), .inr (0, [.ref (ad 22), .int 0])), ((ad 22), .inl (G.2.2.2.2 0, 10, .inl (fun _ => 0))), ((ad 4), .inr (3, [.ref (ad 23), .ref (ad 5), .ref (ad 6), .ref (ad 7), .ref (ad 8), .int 0, .int 0, .int (-1)])), ((ad 23), .inr (0, [.ref (ad 24), .int 0])), ((ad 24), .inl (G.2.2.2.2 0, 2000, .inl (fun _ => 0))), ((ad 5), .inl (G.2.2.2.2 1, 1000, .inl (fun _ => 0))), ((ad 6), .inl (G.2.2.2.2 1, 1000, .inl (fun _ => 0))), ((ad 7), .inl (G.2.2.2.2 1, 1000, .inl (fun _ => 0))), ((ad 8), .inl (G.2.2.2.2 1, 1000, .inl (fun _ => 0))), ((ad 9), .inr (2, [.ref (ad 25), .ref (ad 10), .ref (ad 27), .ref (ad 29), .ref (ad 31), .int 0, .int 3, .int (-1), .int 0, .int 0, .int 0, .int (-1)])), ((ad 25), .inr (0, [.ref (ad 26), .int 0])), ((ad 26), .inl (G.2.2.2.2 0, 10000, .inl (fun _ => 0))), ((ad 10), .inl (G.2.2.2.2 1, 9, .inl (fun _ => 0))), ((ad 29), .inr (0, [.ref (ad 30), .int 0])), ((ad 30), .inl (G.2.2.2.2 0, 10, .inl (fun _ => 0))), ((ad 31), .inr (0, [.ref (ad 32), .int 0])), ((ad 32), .inl (G.2.2.2.2 0, 8, .inl (fun _ => 0))), ((ad 27), .inr (0, [.ref (ad 28), .int 5])), ((ad 28), .inl (G.2.2.2.2 0, 5, .inl e5)), ((ad 13), .inr (0, [.ref (ad 14), .int 5])), ((ad 14), .inl (G.2.2.2.2 0, 2000, .inl e5)), ((ad 15), .inr (0, [.ref (ad 16), .int 5])), ((ad 16), .inl (G.2.2.2.2 0, 2000, .inl e5)), ((ad 17), .inr (0, [.ref (ad 18), .int 5])), ((ad 18), .inl (G.2.2.2.2 0, 2000, .inl e5)), ((ad 19), .inr (0, [.ref (ad 20), .int 5])), ((ad 20), .inl (G.2.2.2.2 0, 2000, .inl e5)), ((ad 33), .inr (5, [.int 0, .ref (ad 34), .int 0, .int 0, .int (-1), .int (-1), .int 0, .ref (ad 35), .ref (ad 36), .ref (ad 37), .ref (ad 38), .ref (ad 39), .ref (ad 40), .ref (ad 41), .ref (ad 42), .ref (ad 43), .ref (ad 44), .ref (ad 45), .ref (ad 46), .int 0, .int 0, .ref (ad 47), .int 0, .ref (ad 48), .int 0, .ref (ad 49), .ref (ad 50)])), ((ad 34), .inl (G.2.2.2.2 0, 14100, .inl (upd (upd (upd (upd (fun _ => 0) 0 5) 2000 5) 4000 5) 6000 5))), ((ad 35), .inl (G.2.2.2.2 1, 6000, .inl (fun _ => 0))), ((ad 36), .inl (G.2.2.2.2 1, 6000, .inl (fun _ => 0))), ((ad 37), .inl (G.2.2.2.2 1, 6000, .inl (fun _ => 0))), ((ad 38), .inl (G.2.2.2.2 2, 6000, .inr (.inl (fun _ => 0)))), ((ad 39), .inl (G.2.2.2.2 1, 6000, .inl (fun _ => 0))), ((ad 40), .inl (G.2.2.2.2 1, 6000, .inl (fun _ => 0))), ((ad 41), .inl (G.2.2.2.2 1, 6000, .inl (fun _ => 0))), ((ad 42), .inl (G.2.2.2.2 1, 6000, .inl (fun _ => 0))), ((ad 43), .inl (G.2.2.2.2 1, 6000, .inl (fun _ => 0))), ((ad 44), .inl (G.2.2.2.2 1, 60, .inl (fun _ => 0))), ((ad 45), .inl (G.2.2.2.2 1, 60, .inl (fun _ => 0))), ((ad 46), .inl (G.2.2.2.2 1, 60, .inl (fun _ => 0))), ((ad 47), .inl (G.2.2.2.2 0, 16000, .inl (fun _ => 0))), ((ad 48), .inl (G.2.2.2.2 0, 16000, .inl (fun _ => 0))), ((ad 49), .inl (G.2.2.2.2 1, 8, .inl (fun _ => 0))), ((ad 50), .inl (G.2.2.2.2 1, 8, .inl (fun _ => 0)))] 51 127422 := by
  have hfn : (va_up (va_up (va_up (va_up (fun _ => none) 0 (some (ad 13))) 1 (some (ad 15))) 2 (some (ad 17))) 3 (some (ad 19))) = sm_o (ad, G.2) slF := fn0 G ad
  rw [hfn]
  refine lg_end C0 hg ad [0, 3, 4, 5, 8, 11, 12, 13, 14, 15, 18, 1, 2, 25, 26, 27, 28, 29, 30, 31, 32, 6, 7, 9, 10, 16, 17, 23, 24, 19, 20, 21, 22, 33, 34, 35, 36, 37, 38, 39, 40, 41, 42, 43, 44, 45, 46, 47, 48, 49, 50] (by decide) ?_ ?_ (fun C => lW_sub [0, 3, 2, 1] rfl (ll_loop C hL (L + 6) 0 S0 (by omega) (by omega) S0_Inv))
  · rw [sw0]
    exact pm_f _ _ _ _ _ _ _ _ _ _ _ _ _ _ _ _ _ _ _ _ _ _ _ _ _ _ _ _ _ _ _ _ _ _ _ _ _ _ _ _ _ _ _ _ _ _ _ _ _ _ _
  · rw [sw0]
    exact pm_m _ _ _ _ _ _ _ _ _ _ _ _ _ _ _ _ _ _ _ _ _ _ _ _ _ _ _ _ _ _ _ _ _ _ _ _ _ _ _ _ _ _ _ _ _ _ _ _ _ _ _
end St0
set_option maxRecDepth 60000 in
set_option maxHeartbeats 8000000 in
theorem whole_start {p : Program} {e : Env} {s : State} {m : MethodId} {below : List Frame} {meth : Method} {c : Code} (l : Launch) {b L : Nat} {xs : Nat → Int32} (hL : L ≤ 3072) (C0 : lw_At p s m meth c b L xs) : W p l e room_1 s m #[Value.ref b] below meth c s.heap [] 0 0 (lw_Z below #[Value.ref b] s) (entryFrame m ([Value.ref b] : List Value).toArray 4) := by
  obtain ⟨G, hg⟩ := gk0 C0
  have key : lG p l e s m below meth c b G 0 [(0, .ref b)] [] [] 0 0 := by
    refine lg_new (ci := 4) (idx := 7) (fs := [.null, .null, .null, .null, .null, .int 0, .int 0, .int 0]) 3 C0 hg sm_t4 (by decide +kernel) rfl sm_u4 sm_ty4 (sm_in 83 (by decide +kernel) (by decide +kernel)) (sm_in 84 (by decide +kernel) (by decide +kernel)) (sm_in 71 (by decide +kernel) (by decide +kernel)) (by decide +kernel) (by decide) (by decide) rfl (fun a => ?_)
    refine lg_go (n := 4) (fun H locs ls Z hl q => lv_dup C0.1 C0.2.1 (by decide +kernel) rfl q) ?_
    refine lg_init (idx := 9) (M2 := mi_D) (rest := [.ref a]) (wr := []) 7 C0 hg (by decide +kernel) (sm_in 85 (by decide +kernel) (by decide +kernel)) (sm_in 86 (by decide +kernel) (by decide +kernel)) rfl rfl oi_D (by decide) rfl (Nat.le_of_ble_eq_true rfl) (by decide) (by decide) [0] [] rfl rfl (by decide) (by decide) (by decide) rfl (ci_D G (d := 0) (a := a)) ?_
    rintro w1 ⟨q1, q2, q3, q4, q5, q6, q7, q8, q9, q10, q11, q12, q13, q14, q15, q16, q17, q18, q19, q20, q21, q22, q23, q24, q25, q26, q27, q28, q29, q30, q31, q32, rfl⟩
    refine lG_st (kx := 1) 8 [(1, .ref a), (0, .ref b)] C0 (by decide +kernel) rfl (by decide) rfl rfl ?_
    refine lg_new (ci := 5) (idx := 10) (fs := [.int 0, .null, .int 0, .int 0, .int 0, .int 0, .int 0, .null, .null, .null, .null, .null, .null, .null, .null, .null, .null, .null, .null, .int 0, .int 0, .null, .int 0, .null, .int 0, .null, .null]) 11 C0 hg sm_t5 (by decide +kernel) rfl sm_u5 sm_ty5 (sm_in 622 (by decide +kernel) (by decide +kernel)) (sm_in 623 (by decide +kernel) (by decide +kernel)) (sm_in 77 (by decide +kernel) (by decide +kernel)) (by decide +kernel) (by decide) (by decide) rfl (fun mo => ?_)
    refine lg_go (n := 12) (fun H locs ls Z hl q => lv_dup C0.1 C0.2.1 (by decide +kernel) rfl q) ?_
    refine lg_init (idx := 12) (M2 := mi_M) (rest := [.ref mo]) (wr := [(a, .inr (4, [.ref q1, .ref q3, .ref q4, .ref q8, .ref q15, .int 0, .int (-1), .int (-1)])), (q1, .inr (0, [.ref q2, .int 0])), (q2, .inl (G.2.2.2.2 0, 2000, .inl (fun _ => 0))), (q3, .inl (G.2.2.2.2 3, 4, .inr (.inr (.inr (.inr (va_up (va_up (va_up (va_up (fun _ => none) 0 (some q25)) 1 (some q27)) 2 (some q29)) 3 (some q31))))))), (q4, .inr (1, [.ref q5, .ref q6, .int 0])), (q5, .inl (G.2.2.2.2 1, 1000, .inl (fun _ => 0))), (q6, .inr (0, [.ref q7, .int 0])), (q7, .inl (G.2.2.2.2 0, 10, .inl (fun _ => 0))), (q8, .inr (3, [.ref q9, .ref q11, .ref q12, .ref q13, .ref q14, .int 0, .int 0, .int (-1)])), (q9, .inr (0, [.ref q10, .int 0])), (q10, .inl (G.2.2.2.2 0, 2000, .inl (fun _ => 0))), (q11, .inl (G.2.2.2.2 1, 1000, .inl (fun _ => 0))), (q12, .inl (G.2.2.2.2 1, 1000, .inl (fun _ => 0))), (q13, .inl (G.2.2.2.2 1, 1000, .inl (fun _ => 0))), (q14, .inl (G.2.2.2.2 1, 1000, .inl (fun _ => 0))), (q15, .inr (2, [.ref q16, .ref q18, .ref q19, .ref q21, .ref q23, .int 0, .int 3, .int (-1), .int 0, .int 0, .int 0, .int (-1)])), (q16, .inr (0, [.ref q17, .int 0])), (q17, .inl (G.2.2.2.2 0, 10000, .inl (fun _ => 0))), (q18, .inl (G.2.2.2.2 1, 9, .inl (fun _ => 0))), (q21, .inr (0, [.ref q22, .int 0])), (q22, .inl (G.2.2.2.2 0, 10, .inl (fun _ => 0))), (q23, .inr (0, [.ref q24, .int 0])), (q24, .inl (G.2.2.2.2 0, 8, .inl (fun _ => 0))), (q19, .inr (0, [.ref q20, .int 5])), (q20, .inl (G.2.2.2.2 0, 5, .inl e5)), (q25, .inr (0, [.ref q26, .int 5])), (q26, .inl (G.2.2.2.2 0, 2000, .inl e5)), (q27, .inr (0, [.ref q28, .int 5])), (q28, .inl (G.2.2.2.2 0, 2000, .inl e5)), (q29, .inr (0, [.ref q30, .int 5])), (q30, .inl (G.2.2.2.2 0, 2000, .inl e5)), (q31, .inr (0, [.ref q32, .int 5])), (q32, .inl (G.2.2.2.2 0, 2000, .inl e5))]) 15 C0 hg (by decide +kernel) (sm_in 624 (by decide +kernel) (by decide +kernel)) (sm_in 625 (by decide +kernel) (by decide +kernel)) rfl rfl oi_M (by decide) rfl (Nat.le_of_ble_eq_true rfl) (by decide) (by decide) [33] [0, 1, 2, 3, 4, 5, 6, 7, 8, 9, 10, 11, 12, 13, 14, 15, 16, 17, 18, 19, 20, 21, 22, 23, 24, 25, 26, 27, 28, 29, 30, 31, 32] rfl rfl (by decide) (by decide) (by decide) rfl (ci_M G (d := 0) (a := mo)) ?_
    rintro w1 ⟨r1, r2, r3, r4, r5, r6, r7, r8, r9, r10, r11, r12, r13, r14, r15, r16, r17, rfl⟩
    refine lG_st (kx := 2) 16 [(2, .ref mo), (1, .ref a), (0, .ref b)] C0 (by decide +kernel) rfl (by decide) rfl rfl ?_
    refine lg_go (n := 17) (fun H locs ls Z hl q => lv_iconst C0.1 C0.2.1 (n := 0) (v := 0) (by decide +kernel) rfl q) ?_
    refine lG_is (kx := 3) 18 [(3, .int 0), (2, .ref mo), (1, .ref a), (0, .ref b)] C0 (by decide +kernel) rfl (by decide) rfl rfl ?_
    simp only [List.cons_append, List.nil_append]
    obtain ⟨ad, e0, e1, e2, e3, e4, e5, e6, e7, e8, e9, e10, e11, e12, e13, e14, e15, e16, e17, e18, e19, e20, e21, e22, e23, e24, e25, e26, e27, e28, e29, e30, e31, e32, e33, e34, e35, e36, e37, e38, e39, e40, e41, e42, e43, e44, e45, e46, e47, e48, e49, e50⟩ : ∃ ad : Nat → Nat, ad 0 = a ∧ ad 1 = q3 ∧ ad 2 = q4 ∧ ad 3 = q5 ∧ ad 4 = q8 ∧ ad 5 = q11 ∧ ad 6 = q12 ∧ ad 7 = q13 ∧ ad 8 = q14 ∧ ad 9 = q15 ∧ ad 10 = q18 ∧ ad 11 = q1 ∧ ad 12 = q2 ∧ ad 13 = q25 ∧ ad 14 = q26 ∧ ad 15 = q27 ∧ ad 16 = q28 ∧ ad 17 = q29 ∧ ad 18 = q30 ∧ ad 19 = q31 ∧ ad 20 = q32 ∧ ad 21 = q6 ∧ ad 22 = q7 ∧ ad 23 = q9 ∧ ad 24 = q10 ∧ ad 25 = q16 ∧ ad 26 = q17 ∧ ad 27 = q19 ∧ ad 28 = q20 ∧ ad 29 = q21 ∧ ad 30 = q22 ∧ ad 31 = q23 ∧ ad 32 = q24 ∧ ad 33 = mo ∧ ad 34 = r1 ∧ ad 35 = r2 ∧ ad 36 = r3 ∧ ad 37 = r4 ∧ ad 38 = r5 ∧ ad 39 = r6 ∧ ad 40 = r7 ∧ ad 41 = r8 ∧ ad 42 = r9 ∧ ad 43 = r10 ∧ ad 44 = r11 ∧ ad 45 = r12 ∧ ad 46 = r13 ∧ ad 47 = r14 ∧ ad 48 = r15 ∧ ad 49 = r16 ∧ ad 50 = r17 := ⟨fun k => [a, q3, q4, q5, q8, q11, q12, q13, q14, q15, q18, q1, q2, q25, q26, q27, q28, q29, q30, q31, q32, q6, q7, q9, q10, q16, q17, q19, q20, q21, q22, q23, q24, mo, r1, r2, r3, r4, r5, r6, r7, r8, r9, r10, r11, r12, r13, r14, r15, r16, r17].getD k 0, rfl, rfl, rfl, rfl, rfl, rfl, rfl, rfl, rfl, rfl, rfl, rfl, rfl, rfl, rfl, rfl, rfl, rfl, rfl, rfl, rfl, rfl, rfl, rfl, rfl, rfl, rfl, rfl, rfl, rfl, rfl, rfl, rfl, rfl, rfl, rfl, rfl, rfl, rfl, rfl, rfl, rfl, rfl, rfl, rfl, rfl, rfl, rfl, rfl, rfl, rfl⟩
    subst e0 e1 e2 e3 e4 e5 e6 e7 e8 e9 e10 e11 e12 e13 e14 e15 e16 e17 e18 e19 e20 e21 e22 e23 e24 e25 e26 e27 e28 e29 e30 e31 e32 e33 e34 e35 e36 e37 e38 e39 e40 e41 e42 e43 e44 e45 e46 e47 e48 e49 e50
    exact lg_fin C0 hg ad hL
  have hl := lv_entry ([.ref b]) (n := 4) (Nat.le_of_ble_eq_true rfl)
  rw [lg_entry_eq]
  exact key s.heap [] _ ⟨fun k q h => by simp at h, ⟨fun i j p q h => by simp at h, fun k q h => by simp at h⟩, va_S.rf⟩ hl
