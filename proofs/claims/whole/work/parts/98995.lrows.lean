/-! the law's own frame: rows over the fifty-one cells -/
def lB (G : sm_G) (h : sm_H) (s : State) (H : Heap) (locs : List Loc) : Prop := va_P G.2.2.2.1 sm_cl (sm_w G h) H ∧ va_D (sm_A G 51) (sm_w G h) ∧ va_S (fun q => s.heap.size ≤ q) s.heap H locs
def lW (p : Program) (l : Launch) (e : Env) (s : State) (m : MethodId) (below : List Frame) (meth : Method) (c : Code) (b : Nat) (G : sm_G) (pc : Nat) (Lc : List (Nat × Value)) (st : List Value) (h : sm_H) : Prop := ∀ (H : Heap) (locs : List Loc) (ls : Array Slot), lB G h s H locs → lv_has ls 4 Lc → W p l e room_1 s m #[Value.ref b] below meth c H locs 51 127422 (lw_Z below #[Value.ref b] s) (F0 m pc ls st)
def lH (p : Program) (s : State) (m : MethodId) (meth : Method) (c : Code) (b L : Nat) (xs : Nat → Int32) (G : sm_G) : Prop := lw_At p s m meth c b L xs ∧ sm_K G 51 s ∧ ∀ k, k < 51 → s.heap.size ≤ G.1 k
theorem lw_big {w : Cond} (h : w ∈ sm_big) : w ∈ lw_tbl := (List.mem_filter.mp h).1
theorem lw_goodIn (M2 : sm_M) (h : Cond.code M2.1 M2.2.1 M2.2.2.1 M2.2.2.2 ∈ sm_big) : GoodIn lw_tbl (sm_ws M2) := by
  intro w hw
  rcases List.mem_cons.mp hw with rfl | hw
  · exact ⟨lw_big h, sm_big_good h⟩
  · exact ⟨lw_big hw, sm_big_good hw⟩
section Lw
variable {p : Program} {l : Launch} {e : Env} {s : State} {m : MethodId} {below : List Frame} {meth : Method} {c : Code} {b L : Nat} {xs : Nat → Int32} {G : sm_G} {pc : Nat} {Lc : List (Nat × Value)} {st : List Value} {h : sm_H}
theorem lr_go {n : Nat} {st2 : List Value} (hk : ∀ (H : Heap) (locs : List Loc) (ls : Array Slot) (Z : State → Prop), lB G h s H locs → lv_has ls 4 Lc → W p l e room_1 s m #[Value.ref b] below meth c H locs 51 127422 Z (F0 m n ls st2) → W p l e room_1 s m #[Value.ref b] below meth c H locs 51 127422 Z (F0 m pc ls st)) (kk : lW p l e s m below meth c b G n Lc st2 h) : lW p l e s m below meth c b G pc Lc st h :=
  fun H locs ls B hl => hk H locs ls _ B hl (kk H locs ls B hl)
theorem lr_aload {kx : Fin 4} {i x : Nat} (n jx : Nat) (C : lH p s m meth c b L xs G) (hd : decode code pc = .ok (.aload_n kx, 1)) (hi : (kx : Nat) = i) (hj : Lc[jx]? = some (i, .ref x)) (hp : pc + 1 = n) (kk : lW p l e s m below meth c b G n Lc (.ref x :: st) h) : lW p l e s m below meth c b G pc Lc st h := by
  subst hp
  exact lr_go (fun H locs ls Z B hl q => lv_aload_n C.1.1 C.1.2.1 hd hi (lv_at hl jx hj) q) kk
theorem lr_iload {kx : Fin 4} {i : Nat} {x : Int32} (n jx : Nat) (C : lH p s m meth c b L xs G) (hd : decode code pc = .ok (.iload_n kx, 1)) (hi : (kx : Nat) = i) (hj : Lc[jx]? = some (i, .int x)) (hp : pc + 1 = n) (kk : lW p l e s m below meth c b G n Lc (.int x :: st) h) : lW p l e s m below meth c b G pc Lc st h := by
  subst hp
  exact lr_go (fun H locs ls Z B hl q => lv_iload_n C.1.1 C.1.2.1 hd hi (lv_at hl jx hj) q) kk
theorem lr_iconst {i : Int} {x : Int32} (n : Nat) (C : lH p s m meth c b L xs G) (hd : decode code pc = .ok (.iconst i, 1)) (hx : Int32.ofInt i = x) (hp : pc + 1 = n) (kk : lW p l e s m below meth c b G n Lc (.int x :: st) h) : lW p l e s m below meth c b G pc Lc st h := by
  subst hp
  exact lr_go (fun H locs ls Z B hl q => lv_iconst C.1.1 C.1.2.1 hd hx q) kk
theorem lr_bipush {i : Int} {x : Int32} (n : Nat) (C : lH p s m meth c b L xs G) (hd : decode code pc = .ok (.bipush i, 2)) (hx : (Int8.ofInt i).toInt32 = x) (hp : pc + 2 = n) (kk : lW p l e s m below meth c b G n Lc (.int x :: st) h) : lW p l e s m below meth c b G pc Lc st h := by
  subst hp
  exact lr_go (fun H locs ls Z B hl q => lv_bipush C.1.1 C.1.2.1 hd hx q) kk
theorem lr_iadd {x y z : Int32} (n : Nat) (C : lH p s m meth c b L xs G) (hd : decode code pc = .ok (.iadd, 1)) (hz : x + y = z) (hp : pc + 1 = n) (kk : lW p l e s m below meth c b G n Lc (.int z :: st) h) : lW p l e s m below meth c b G pc Lc (.int y :: .int x :: st) h := by
  subst hp
  subst hz
  exact lr_go (fun H locs ls Z B hl q => lv_iadd C.1.1 C.1.2.1 hd q) kk
theorem lr_isub {x y : Int32} (n : Nat) (C : lH p s m meth c b L xs G) (hd : decode code pc = .ok (.isub, 1)) (hp : pc + 1 = n) (kk : lW p l e s m below meth c b G n Lc (.int (x - y) :: st) h) : lW p l e s m below meth c b G pc Lc (.int y :: .int x :: st) h := by
  subst hp
  exact lr_go (fun H locs ls Z B hl q => lv_isub C.1.1 C.1.2.1 hd q) kk
theorem lr_iand {x y : Int32} (n : Nat) (C : lH p s m meth c b L xs G) (hd : decode code pc = .ok (.iand, 1)) (hp : pc + 1 = n) (kk : lW p l e s m below meth c b G n Lc (.int (x &&& y) :: st) h) : lW p l e s m below meth c b G pc Lc (.int y :: .int x :: st) h := by
  subst hp
  exact lr_go (fun H locs ls Z B hl q => lv_iand C.1.1 C.1.2.1 hd q) kk
theorem lr_goto {off : Int} (n : Nat) (C : lH p s m meth c b L xs G) (hd : decode code pc = .ok (.goto off, 3)) (ht : (pc : Int) + off = (n : Int)) (kk : lW p l e s m below meth c b G n Lc st h) : lW p l e s m below meth c b G pc Lc st h :=
  lr_go (fun H locs ls Z B hl q => lv_goto C.1.1 C.1.2.1 hd ht q) kk
theorem lr_gt {x y : Int32} {off : Int} (n t : Nat) (C : lH p s m meth c b L xs G) (hd : decode code pc = .ok (.if_icmp .gt off, 3)) (ht : (pc : Int) + off = (t : Int)) (hp : pc + 3 = n) (kt : y < x → lW p l e s m below meth c b G t Lc st h) (kf : ¬ y < x → lW p l e s m below meth c b G n Lc st h) : lW p l e s m below meth c b G pc Lc (.int y :: .int x :: st) h := by
  subst hp
  exact fun H locs ls B hl => lv_icmp_gt C.1.1 C.1.2.1 hd ht (fun q => kt q H locs ls B hl) (fun q => kf q H locs ls B hl)
theorem lr_eq {x : Int32} {off : Int} (n t : Nat) (C : lH p s m meth c b L xs G) (hd : decode code pc = .ok (.if_icmp .eq off, 3)) (ht : (pc : Int) + off = (t : Int)) (hp : pc + 3 = n) (kt : lW p l e s m below meth c b G t Lc st h) : lW p l e s m below meth c b G pc Lc (.int x :: .int x :: st) h := by
  subst hp
  exact fun H locs ls B hl => lv_icmp_eq C.1.1 C.1.2.1 hd ht (fun q => kt H locs ls B hl) (fun q => absurd rfl q)
theorem lr_tab {dflt lo hi : Int} {offs : Array Int} {len : Nat} {x : Int32} {off : Int} (n : Nat) (C : lH p s m meth c b L xs G) (hd : decode code pc = .ok (.tableswitch dflt lo hi offs, len)) (h1 : ¬ x.toInt < lo) (h2 : ¬ hi < x.toInt) (ho : offs[(x.toInt - lo).toNat]? = some off) (ht : (pc : Int) + off = (n : Int)) (kk : lW p l e s m below meth c b G n Lc st h) : lW p l e s m below meth c b G pc Lc (.int x :: st) h :=
  lr_go (fun H locs ls Z B hl q => lv_tableIn C.1.1 C.1.2.1 hd h1 h2 ho ht q) kk
theorem lr_iinc {i jx : Nat} {z : Int} {x y : Int32} (n : Nat) (L2 : List (Nat × Value)) (C : lH p s m meth c b L xs G) (hd : decode code pc = .ok (.iinc i z, 3)) (hj : Lc[jx]? = some (i, .int x)) (hy : x + Int32.ofInt z = y) (hn : i < 4) (hL : (i, Value.int y) :: Lc.filter (fun q : Nat × Value => !(q.1 == i) && !(q.1 + 1 == i && q.2.category == 2)) = L2) (hp : pc + 3 = n) (kk : lW p l e s m below meth c b G n L2 st h) : lW p l e s m below meth c b G pc Lc st h := by
  subst hp
  exact fun H locs ls B hl => lv_iinc C.1.1 C.1.2.1 hd hl hj hy hn hL (fun ls2 hl2 => kk H locs ls2 B hl2)
theorem lr_sld {i : Nat} (n : Nat) (C : lH p s m meth c b L xs G) (hd : decode code pc = .ok (.iaload, 1)) (hi : i < L) (hL : L ≤ 3072) (hp : pc + 1 = n) (kk : lW p l e s m below meth c b G n Lc (.int (xs i) :: st) h) : lW p l e s m below meth c b G pc Lc (.int (nI i) :: .ref b :: st) h := by
  subst hp
  refine lr_go (fun H locs ls Z B hl q => ?_) kk
  have hb := C.1.2.2.2.2.2.2.2.1
  refine va_sld C.1.1 C.1.2.1 C.1.2.2.2.2.2.2.1 hb (Nat.not_le.mpr hb) B.2.2 (sm_vpin (by rw [nI_t (by omega)]; omega) (by rw [nI_t (by omega)]; omega)) hd ?_
  rw [nI_clamp (by omega)]
  exact q
theorem lr_slen (n : Nat) (C : lH p s m meth c b L xs G) (hd : decode code pc = .ok (.arraylength, 1)) (hp : pc + 1 = n) (kk : lW p l e s m below meth c b G n Lc (.int (nI L) :: st) h) : lW p l e s m below meth c b G pc Lc (.ref b :: st) h := by
  subst hp
  have hb := C.1.2.2.2.2.2.2.2.1
  exact lr_go (fun H locs ls Z B hl q => va_slen C.1.1 C.1.2.1 C.1.2.2.2.2.2.2.1 hb (Nat.not_le.mpr hb) B.2.2 hd q) kk
theorem lr_ret (C : lH p s m meth c b L xs G) (hd : decode code pc = .ok (.ireturn, 1)) : lW p l e s m below meth c b G pc Lc [.int 1] h := by
  intro H locs ls B hl
  refine va_forget (fun q hq => B.2.2.2.2 q hq) ?_
  refine W.widen (k := 600000) (n := 7302250) (by omega) (by omega) ?_
  exact lw_ret C.1.1 C.1.2.1 C.1.2.2.1 C.1.2.2.2.2.2.2.2.2.1 hd
theorem lr_call {idx ci bp np : Nat} {M2 : sm_M} {av rest : List Value} {K : Option Value → sm_H → Prop} (n : Nat) (C : lH p s m meth c b L xs G) (hd : decode code pc = .ok (.invokevirtual idx, 3)) (hm : sm_mv "UpdateDeskLaw" idx M2 ci np) (hlen : h.length = 51) (hst : st = av.reverse ++ .ref (G.1 bp) :: rest) (hn : av.length = np) (hav : av.map (sm_v G) = av) (hc : (rest.map (fun v => v.category)).sum ≤ 8) (hp : pc + 3 = n) (hT : sm_V 51 60 M2 ci bp av h K)
    (kk : ∀ r h1, h1.length = 51 → K r h1 → lW p l e s m below meth c b G n Lc ((r.map (sm_v G)).toList ++ rest) h1) : lW p l e s m below meth c b G pc Lc st h := by
  subst hp
  obtain ⟨⟨fs, hfs⟩, r, h1, hC, hK⟩ := hT
  obtain ⟨e1, hM⟩ := hC hlen
  obtain ⟨m1, m2, m3, ⟨o1, o2, o3, o4, o5, o6⟩, q, hq1, hq2⟩ := hm
  intro H locs ls B hl T hT XX
  have hts := C.1.2.2.2.2.2.1
  have hG : GoodIn lw_tbl (wsV "UpdateDeskLaw" idx M2.1.cls M2.1 (sm_ws M2)) := by
    intro w hw
    rcases List.mem_append.mp hw with hw | hw
    · simp only [List.mem_cons, List.not_mem_nil, or_false] at hw
      rcases hw with rfl | rfl | rfl | rfl
      · exact ⟨lw_big m1, sm_big_good m1⟩
      · exact ⟨lw_big m2, sm_big_good m2⟩
      · exact ⟨lw_big m3, sm_big_good m3⟩
      · exact ⟨lw_big o1, sm_big_good o1⟩
    · exact lw_goodIn M2 o2 w hw
  have hcw := cwV (R := room_1) (rm := sm_R 60) (mc := 0) (ms := 0) np hts hG rfl rfl rfl ⟨rfl, o3, o4, o5⟩ ⟨by decide, by show 8 + (M2.2.2.1 + 11) + 2400 ≤ 84000; omega⟩
  have hrec := va_recv C.2.1.1 B.1 hq1 (q0 := bp) (sm_w_at hfs)
  rw [hq2] at hrec
  have hrun := va_runV (As := av) (rest := rest) (b := G.1 bp) (g := F0 m pc ls st) (cells := 51) (slots := 127422) (e := e) (locs := locs) (below := below) (meth := meth) (l := l) ⟨C.1.1, C.1.2.1, C.1.2.2.2.1, C.1.2.2.2.2.1, hts⟩ (hM l G) hcw ⟨sm_blind G 51 _ h, hrec, fun U hU hW => ⟨by rw [List.map_cons, hav]; rfl, by rw [hU]; exact B.1, B.2.1, sm_K.go hW (fun q a1 _ => by rw [hU]; exact B.2.2.2.1 q a1 (Nat.not_le.mpr a1)) C.2.1⟩⟩ rfl hn hl.1 hst (lv_room hc) hd ⟨by decide, by decide⟩
  obtain ⟨v, st₀, t, T2, L2, h0, X2, hL2, f1, f2, ⟨hv, hP1, hz, hF⟩, stp⟩ := hrun T hT XX
  cases hv
  rw [h0] at hz hF
  have hA : ∀ q, sm_A G 51 q → s.heap.size ≤ q := by
    rintro q ⟨k, hk, rfl⟩
    exact C.2.2 k hk
  have B2 : lB G h1 s T2.heap (locs ++ L2) := by
    refine ⟨by rw [f1]; exact hP1, sm_D_go (e1.trans hlen.symm) B.2.1, Nat.le_trans B.2.2.1 (by rw [f1]; exact hz), fun q g1 g2 => ?_, fun q hq => ?_⟩
    · rw [f1, hF q (Nat.lt_of_lt_of_le g1 B.2.2.1) (fun z => g2 (hA q z))]
      exact B.2.2.2.1 q g1 g2
    · rcases List.mem_append.mp hq with w | w
      · exact B.2.2.2.2 q w
      · exact hA _ (hL2 q w)
  obtain ⟨t2, a1, b1⟩ := kk r h1 e1 hK T2.heap (locs ++ L2) ls B2 hl T2 rfl X2
  exact ⟨t2, stp t2 a1, b1⟩
/-- the two calls of a comparison -/
theorem lr_pair {i1 i2 np : Nat} {mc mm : sm_M} {av : List Value} {S : sT} (C : lH p s m meth c b L xs G) (hm : sm_mv "UpdateDeskLaw" i1 mc 4 np) (hm2 : sm_mv "UpdateDeskLaw" i2 mm 5 np) (hn : av.length = np) (hav : av.map (sm_v G) = av) {p1 p2 : Nat} (hd1 : decode code p1 = .ok (.invokevirtual i1, 3)) (hd2 : decode code p2 = .ok (.invokevirtual i2, 3)) (hP : okP 51 60 mc mm av S)
    (kmid : ∀ (z : Int32) (h1 : sm_H), lW p l e s m below meth c b G p2 Lc (av.reverse ++ [.ref (G.1 33), .int z]) h1 → lW p l e s m below meth c b G (p1 + 3) Lc [.int z] h1) (kend : ∀ (z : Int32) (T : sT), Inv T → lW p l e s m below meth c b G (p2 + 3) Lc [.int z, .int z] (hp T)) : lW p l e s m below meth c b G p1 Lc (av.reverse ++ [.ref (G.1 0)]) (hp S) := by
  refine lr_call (p1 + 3) C hd1 hm (hp_len S) rfl hn hav (Nat.zero_le _) rfl hP ?_
  rintro r h1 e1 ⟨z, rfl, hP2⟩
  refine kmid z h1 ?_
  refine lr_call (p2 + 3) C hd2 hm2 e1 rfl hn hav (Nat.le_of_ble_eq_true rfl) rfl hP2 ?_
  rintro r2 h2 e2 ⟨rfl, T, rfl, hI⟩
  exact kend z T hI
end Lw
