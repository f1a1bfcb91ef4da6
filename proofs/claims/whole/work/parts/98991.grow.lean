/-! constructors: a judgement over a world that grows; addresses are the machine's own -/
def gk (G : sm_G) (A : Nat → Prop) (U : State) : Prop := va_K G.2.2.2.1 sm_cl (sm_tys G) U ∧ (∀ w ∈ sm_nest, va_Nw w U) ∧ (∀ i, i < 6 → vk_R "UpdateDesk$Plan" (sm_sx.getD i 0) (sm_st.getD i "") (G.2.1 i) U) ∧ vk_S 6 sm_sl sm_sb G.2.1 G.2.2.1 A U U.heap ∧ va_Z "java/lang/String" "COMPACT_STRINGS" "Z" (.int 1) A U U.heap ∧ va_Z "jdk/internal/util/Preconditions" "SIOOBE_FORMATTER" "Ljava/util/function/BiFunction;" (sm_v G (.float 0)) A U U.heap ∧ va_AO "UpdateDesk$Bytes" U
theorem gk.go {G : sm_G} {A : Nat → Prop} {s U : State} (hW : s.WarmedH U.vm) (hh : ∀ q : Nat, q < s.heap.size → ¬ A q → U.heap[q]? = s.heap[q]?) (h : gk G A s) : gk G A U :=
  ⟨va_K.moved hW.alike h.1, fun w hw => sm_nest_go hw hW (h.2.1 w hw), fun i hi => (h.2.2.1 i hi).warm hW, vk_S.kept (vk_S.moved hW.alike h.2.2.2.1) hh, va_Z.kept (va_Z.moved hW.alike h.2.2.2.2.1) hh, va_Z.kept (va_Z.moved hW.alike h.2.2.2.2.2.1) hh, va_AO.moved hW.alike h.2.2.2.2.2.2⟩
theorem gk.same {G : sm_G} {A : Nat → Prop} {s U : State} (hv : s.vm = U.vm) (hh : U.heap = s.heap) (h : gk G A s) : gk G A U :=
  ⟨va_K.moved (by rw [hv]; exact Vm.Alike.refl U.vm) h.1, fun w hw => sm_nest_same hw hv (h.2.1 w hw), fun i hi => (h.2.2.1 i hi).same hv.symm, by rw [hh]; exact vk_S.moved (by rw [hv]; exact Vm.Alike.refl U.vm) h.2.2.2.1, by rw [hh]; exact va_Z.moved (by rw [hv]; exact Vm.Alike.refl U.vm) h.2.2.2.2.1, by rw [hh]; exact va_Z.moved (by rw [hv]; exact Vm.Alike.refl U.vm) h.2.2.2.2.2.1, va_AO.moved (by rw [hv]; exact Vm.Alike.refl U.vm) h.2.2.2.2.2.2⟩
theorem gk.narrow {G : sm_G} {A B : Nat → Prop} {U : State} (hAB : ∀ q, B q → A q) (h : gk G A U) : gk G B U :=
  ⟨h.1, h.2.1, h.2.2.1, h.2.2.2.1.narrow hAB, h.2.2.2.2.1.narrow hAB, h.2.2.2.2.2.1.narrow hAB, h.2.2.2.2.2.2⟩
theorem gk.K {G : sm_G} {A : Nat → Prop} {U : State} {ad : Nat → Nat} {n : Nat} (h : gk G A U) (hAB : ∀ q, sm_A (ad, G.2) n q → A q) : sm_K (ad, G.2) n U :=
  ⟨h.1, h.2.1, h.2.2.1, h.2.2.2.1.narrow hAB, h.2.2.2.2.1.narrow hAB, h.2.2.2.2.2.1.narrow hAB⟩
def gR (d K n : Nat) : Room := { frames := d, cells := K, slots := n, locals := 40 * d }
def gX (G : sm_G) (A : Nat → Prop) (M : sm_M) (p : Program) (s : State) (m : MethodId) (args : Array Value) (meth : Method) (c : Code) : Prop := p.tables.exec = Jvm.exec ∧ c.code = M.2.1 ∧ meth.sig.returnType = M.2.2.2 ∧ meth.locks = false ∧ c.maxLocals = M.2.2.1 ∧ s.vm.findClass M.1.cls = some m.cls ∧ (∀ w ∈ sm_ws M, w.before args s = true) ∧ gk G A s ∧ meth.name = M.1.name ∧ ∀ q : Nat, s.heap.size ≤ q → A q
def gB (G : sm_G) (A : Nat → Prop) (w : va_W) (s : State) (H : Heap) (locs : List Loc) : Prop := va_P G.2.2.2.1 sm_cl w H ∧ va_D A w ∧ va_S A s.heap H locs
def gQ (G : sm_G) (A : Nat → Prop) (Po : va_W → Prop) : Array Value → State → Outcome → State → Prop := fun _ st o t => o = .returned none ∧ (∃ w1, Po w1 ∧ va_P G.2.2.2.1 sm_cl w1 t.heap ∧ va_D A w1) ∧ va_F A st t
def gW (G : sm_G) (A : Nat → Prop) (d K n : Nat) (M : sm_M) (Po : va_W → Prop) (pc : Nat) (L : List (Nat × Value)) (st : List Value) (w : va_W) (k j : Nat) : Prop :=
  ∀ (l : Launch) (p : Program) (e : Env) (s : State) (m : MethodId) (args : Array Value) (below : List Frame) (meth : Method) (c : Code) (H : Heap) (locs : List Loc) (ls : Array Slot), gX G A M p s m args meth c → gB G A w s H locs → lv_has ls M.2.2.1 L →
    W p l e (gR d K n) s m args below meth c H locs k j (MQ below (gQ G A Po) args s K n A) (F0 m pc ls st)
def gP (G : sm_G) (av : List Value) (w : va_W) (sz : Nat) : Array Value → State → Prop := va_Pc av (fun U => U.heap.size = sz ∧ va_P G.2.2.2.1 sm_cl w U.heap ∧ gk G (va_A w sz) U ∧ va_D (va_A w sz) w)
/-- a constructor's contract -/
def gC (G : sm_G) (d K n : Nat) (M : sm_M) (av : List Value) (w : va_W) (Po : va_W → Prop) : Prop := ∀ (l : Launch) (sz : Nat), Met l M.1 (sm_ws M) (gR d K n) (gP G av w sz) (gQ G (va_A w sz) Po) K n (va_A w sz)
theorem gP_blind (G : sm_G) (av : List Value) (w : va_W) (sz : Nat) : FrameBlind (gP G av w sz) := by
  intro a U g mk q
  obtain ⟨q0, q1, q2, q3, q4⟩ := q
  exact ⟨q0, q1, q2, gk.same (s := U) (U := U.calling g mk a) rfl rfl q3, q4⟩
section Gr
variable {G : sm_G} {A : Nat → Prop} {d K nn : Nat} {M : sm_M} {Po : va_W → Prop} {pc : Nat} {L : List (Nat × Value)} {st : List Value} {w : va_W} {k j : Nat}
theorem gs_meth {av : List Value} (hy : plainName M.1.cls = true) (hn : (lg_sl av).length ≤ M.2.2.1) (hL : lv_args 0 av = L) (hk : ∀ A, gW G A d K nn M Po 0 L [] w 0 0) : gC G d K nn M av w Po := by
  intro l sz
  refine Met.ofW (cc := M.2.1) (maxL := M.2.2.1) (ret := M.2.2.2) hy rfl ?_
  intro p e s m args below meth c s₁ Bd hml hv
  obtain ⟨ha, hsz, hP, hK, hD⟩ := hv
  subst ha
  subst hsz
  have hts := atoms_spec (ws := sm_ws M) Bd.pre
  have hl := lv_entry av (n := M.2.2.1) hn
  rw [lg_entry_eq]
  rw [hL] at hl
  exact hk (va_A w s.heap.size) l p e s m _ below meth c s.heap [] _ ⟨Bd.exec, Bd.bytes, Bd.returns, Bd.notSynchronized, hml, findClass_of_methodNamed Bd.named, hts, hK, (name_of_methodNamed Bd.named Bd.method).1, fun q h => Or.inr h⟩ ⟨hP, hD, va_S.rf⟩ hl
/-- rows that touch the stack alone -/
theorem gs_go {n : Nat} {st2 : List Value} (hk : ∀ (l : Launch) (p : Program) (e : Env) (s : State) (m : MethodId) (args : Array Value) (below : List Frame) (meth : Method) (c : Code) (H : Heap) (locs : List Loc) (ls : Array Slot) (Z : State → Prop), gX G A M p s m args meth c → gB G A w s H locs → lv_has ls M.2.2.1 L →
      W p l e (gR d K nn) s m args below meth c H locs k j Z (F0 m n ls st2) → W p l e (gR d K nn) s m args below meth c H locs k j Z (F0 m pc ls st)) (kk : gW G A d K nn M Po n L st2 w k j) : gW G A d K nn M Po pc L st w k j :=
  fun l p e s m args below meth c H locs ls X B hl => hk l p e s m args below meth c H locs ls _ X B hl (kk l p e s m args below meth c H locs ls X B hl)
theorem gs_aload {kx : Fin 4} {i : Nat} {x : Nat} (n jx : Nat) (hd : decode M.2.1 pc = .ok (.aload_n kx, 1)) (hi : (kx : Nat) = i) (hj : L[jx]? = some (i, .ref x)) (hp : pc + 1 = n) (kk : gW G A d K nn M Po n L (.ref x :: st) w k j) : gW G A d K nn M Po pc L st w k j := by
  subst hp
  exact gs_go (fun l p e s m args below meth c H locs ls Z X B hl q => lv_aload_n X.1 X.2.1 hd hi (lv_at hl jx hj) q) kk
theorem gs_iload {kx : Fin 4} {i : Nat} {x : Int32} (n jx : Nat) (hd : decode M.2.1 pc = .ok (.iload_n kx, 1)) (hi : (kx : Nat) = i) (hj : L[jx]? = some (i, .int x)) (hp : pc + 1 = n) (kk : gW G A d K nn M Po n L (.int x :: st) w k j) : gW G A d K nn M Po pc L st w k j := by
  subst hp
  exact gs_go (fun l p e s m args below meth c H locs ls Z X B hl q => lv_iload_n X.1 X.2.1 hd hi (lv_at hl jx hj) q) kk
theorem gs_iconst {i : Int} {x : Int32} (n : Nat) (hd : decode M.2.1 pc = .ok (.iconst i, 1)) (hx : Int32.ofInt i = x) (hp : pc + 1 = n) (kk : gW G A d K nn M Po n L (.int x :: st) w k j) : gW G A d K nn M Po pc L st w k j := by
  subst hp
  exact gs_go (fun l p e s m args below meth c H locs ls Z X B hl q => lv_iconst X.1 X.2.1 hd hx q) kk
theorem gs_bipush {i : Int} {x : Int32} (n : Nat) (hd : decode M.2.1 pc = .ok (.bipush i, 2)) (hx : (Int8.ofInt i).toInt32 = x) (hp : pc + 2 = n) (kk : gW G A d K nn M Po n L (.int x :: st) w k j) : gW G A d K nn M Po pc L st w k j := by
  subst hp
  exact gs_go (fun l p e s m args below meth c H locs ls Z X B hl q => lv_bipush X.1 X.2.1 hd hx q) kk
theorem gs_sipush {i : Int} {x : Int32} (n : Nat) (hd : decode M.2.1 pc = .ok (.sipush i, 3)) (hx : (Int16.ofInt i).toInt32 = x) (hp : pc + 3 = n) (kk : gW G A d K nn M Po n L (.int x :: st) w k j) : gW G A d K nn M Po pc L st w k j := by
  subst hp
  exact gs_go (fun l p e s m args below meth c H locs ls Z X B hl q => lv_sipush X.1 X.2.1 hd hx q) kk
theorem gs_dup {v : Value} (n : Nat) (hd : decode M.2.1 pc = .ok (.dup, 1)) (hv : v.category = 1) (hp : pc + 1 = n) (kk : gW G A d K nn M Po n L (v :: v :: st) w k j) : gW G A d K nn M Po pc L (v :: st) w k j := by
  subst hp
  exact gs_go (fun l p e s m args below meth c H locs ls Z X B hl q => lv_dup X.1 X.2.1 hd hv q) kk
theorem gs_imul {x y : Int32} (n : Nat) (hd : decode M.2.1 pc = .ok (.imul, 1)) (hp : pc + 1 = n) (kk : gW G A d K nn M Po n L (.int (x * y) :: st) w k j) : gW G A d K nn M Po pc L (.int y :: .int x :: st) w k j := by
  subst hp
  exact gs_go (fun l p e s m args below meth c H locs ls Z X B hl q => lv_imul X.1 X.2.1 hd q) kk
theorem gs_goto {off : Int} (n : Nat) (hd : decode M.2.1 pc = .ok (.goto off, 3)) (ht : (pc : Int) + off = (n : Int)) (kk : gW G A d K nn M Po n L st w k j) : gW G A d K nn M Po pc L st w k j :=
  gs_go (fun l p e s m args below meth c H locs ls Z X B hl q => lv_goto X.1 X.2.1 hd ht q) kk
theorem gs_icmp_ge {x y : Int32} {off : Int} (n t : Nat) (hd : decode M.2.1 pc = .ok (.if_icmp .ge off, 3)) (ht : (pc : Int) + off = (t : Int)) (hp : pc + 3 = n) (kt : y ≤ x → gW G A d K nn M Po t L st w k j) (kf : ¬ y ≤ x → gW G A d K nn M Po n L st w k j) : gW G A d K nn M Po pc L (.int y :: .int x :: st) w k j := by
  subst hp
  exact fun l p e s m args below meth c H locs ls X B hl => lv_icmp_ge X.1 X.2.1 hd ht (fun q => kt q l p e s m args below meth c H locs ls X B hl) (fun q => kf q l p e s m args below meth c H locs ls X B hl)
theorem gs_istore {kx : Fin 4} {i : Nat} {x : Int32} (n : Nat) (L2 : List (Nat × Value)) (hd : decode M.2.1 pc = .ok (.istore_n kx, 1)) (hi : (kx : Nat) = i) (hn : i < M.2.2.1) (hL : (i, Value.int x) :: L.filter (fun q : Nat × Value => !(q.1 == i) && !(q.1 + 1 == i && q.2.category == 2)) = L2) (hp : pc + 1 = n) (kk : gW G A d K nn M Po n L2 st w k j) : gW G A d K nn M Po pc L (.int x :: st) w k j := by
  subst hp
  exact fun l p e s m args below meth c H locs ls X B hl => lv_istore_n X.1 X.2.1 hd hi hl hn hL (fun ls2 hl2 => kk l p e s m args below meth c H locs ls2 X B hl2)
theorem gs_iinc {i jx : Nat} {z : Int} {x y : Int32} (n : Nat) (L2 : List (Nat × Value)) (hd : decode M.2.1 pc = .ok (.iinc i z, 3)) (hj : L[jx]? = some (i, .int x)) (hy : x + Int32.ofInt z = y) (hn : i < M.2.2.1) (hL : (i, Value.int y) :: L.filter (fun q : Nat × Value => !(q.1 == i) && !(q.1 + 1 == i && q.2.category == 2)) = L2) (hp : pc + 3 = n) (kk : gW G A d K nn M Po n L2 st w k j) : gW G A d K nn M Po pc L st w k j := by
  subst hp
  exact fun l p e s m args below meth c H locs ls X B hl => lv_iinc X.1 X.2.1 hd hl hj hy hn hL (fun ls2 hl2 => kk l p e s m args below meth c H locs ls2 X B hl2)
theorem gs_mmax {idx : Nat} {x y z : Int32} (n : Nat) (hd : decode M.2.1 pc = .ok (.invokestatic idx, 3)) (hl : Cond.methodLink M.1.cls idx Lib.Math.max.name ∈ sm_big) (hdc : 1 ≤ d) (hc : (st.map (fun v => v.category)).sum ≤ 8) (hk : k ≤ K) (hj : j ≤ nn) (hz : (if x < y then y else x) = z) (hp : pc + 3 = n) (kk : gW G A d K nn M Po n L (.int z :: st) w k j) : gW G A d K nn M Po pc L (.int y :: .int x :: st) w k j := by
  subst hp
  subst hz
  refine gs_go (fun l p e s m args below meth c H locs ls Z X B hls q => ?_) kk
  have hts := X.2.2.2.2.2.2.1
  exact va_mmax X.1 X.2.1 (X.2.2.2.2.1.trans hls.1.symm) X.2.2.2.2.2.1 (hts _ (sm_in_code M hl)) (hts _ (sm_in_code M sm_mx1)) (hts _ (sm_in_code M sm_mx3)) (hts _ (sm_in_code M sm_mx2)) hdc (by show _ ≤ 40 * d; omega) hk hj hd q
theorem gs_obj {idx a : Nat} (n : Nat) (hd : decode M.2.1 pc = .ok (.invokespecial idx, 3)) (hl : Cond.methodLink M.1.cls idx Lib.objectInit ∈ sm_big) (h1 : Cond.instanceMethod Lib.objectInit ∈ sm_big) (h2 : Cond.code Lib.objectInit ⟨#[0xb1]⟩ 1 none ∈ sm_big) (hdc : 1 ≤ d) (hp : pc + 3 = n) (kk : gW G A d K nn M Po n L [] w k j) : gW G A d K nn M Po pc L [.ref a] w k j := by
  subst hp
  refine gs_go (fun l p e s m args below meth c H locs ls Z X B hls q => ?_) kk
  have hts := X.2.2.2.2.2.2.1
  refine W.objInit X.1 X.2.1 X.2.2.2.2.2.1 (hts _ (sm_in_code M hl)) (hts _ (sm_in_code M h1)) (hts _ (sm_in_code M h2)) rfl (by rw [X.2.2.2.2.1]; exact hls.1) rfl hd hdc (by show 2 * 0 + 0 + 12 ≤ 40 * d; omega) ?_
  exact W.eq (g2 := F0 m (pc + 3) ls []) rfl q
theorem gs_vret (hr : M.2.2.2 = none) (hd : decode M.2.1 pc = .ok (.return_, 1)) (hk : k = K) (hj : j = nn) (hq : Po w) : gW G A d K nn M Po pc L [] w k j := by
  subst hk
  subst hj
  exact fun l p e s m args below meth c H locs ls X B hl => W.vret X.1 X.2.1 (X.2.2.1.trans hr) (fun t ht hW => ⟨rfl, ⟨w, hq, by rw [ht]; exact B.1, B.2.1⟩, B.2.2.F ht⟩) B.2.2.2.2 hd (hlocks := X.2.2.2.1)
theorem gs_get {idx ci kf a : Nat} {v : Value} {fs : List Value} (n q0 : Nat) (hd : decode M.2.1 pc = .ok (.getfield idx, 3)) (hf : sm_fl M.1.cls idx ci kf) (hw : w[q0]? = some (a, .inr (ci, fs))) (hv : fs[kf]? = some v) (hp : pc + 3 = n) (kk : gW G A d K nn M Po n L (v :: st) w k j) : gW G A d K nn M Po pc L (.ref a :: st) w k j := by
  subst hp
  obtain ⟨C, T, n, hcl, hk, hu, hT, hl⟩ := hf
  refine gs_go (fun l p e s m args below meth c H locs ls Z X B hls q => ?_) kk
  have hts := X.2.2.2.2.2.2.1
  have hin : ∀ w ∈ u_ws C T n, w ∈ sm_ws M := fun w hw => sm_in_code M (hu w hw)
  rcases hl with hl | ⟨host, hl⟩
  · exact va_get (own := M.1.cls) (ref := C) X.1 X.2.1 hts hin X.2.2.2.2.2.1 X.2.2.2.2.2.2.2.1.1 B.1 q0 hw hcl kf hk (hts _ (sm_in_code M hl)) (by rw [hT]; exact fun _ q => q) hv hd q
  · exact va_getN (own := M.1.cls) (ref := C) X.1 X.2.1 hts hin X.2.2.2.2.2.1 X.2.2.2.2.2.2.2.1.1 B.1 q0 hw hcl kf hk (va_Nw.use rfl (X.2.2.2.2.2.2.2.1.2.1 _ hl)) (by rw [hT]; exact fun _ q => q) hv hd q
/-- rows that change the world, nothing made -/
theorem gs_goP {n : Nat} {st2 : List Value} {w2 : va_W} (hk : ∀ (l : Launch) (p : Program) (e : Env) (s : State) (m : MethodId) (args : Array Value) (below : List Frame) (meth : Method) (c : Code) (H : Heap) (locs : List Loc) (ls : Array Slot) (Z : State → Prop), gX G A M p s m args meth c → gB G A w s H locs → lv_has ls M.2.2.1 L →
      (∀ (H2 : Heap) (locs2 : List Loc), gB G A w2 s H2 locs2 → W p l e (gR d K nn) s m args below meth c H2 locs2 k j Z (F0 m n ls st2)) → W p l e (gR d K nn) s m args below meth c H locs k j Z (F0 m pc ls st)) (kk : gW G A d K nn M Po n L st2 w2 k j) : gW G A d K nn M Po pc L st w k j :=
  fun l p e s m args below meth c H locs ls X B hl => hk l p e s m args below meth c H locs ls _ X B hl (fun H2 locs2 B2 => kk l p e s m args below meth c H2 locs2 ls X B2 hl)
/-- in the pool of own, idx is field kf of kind ci, written in its own constructor; fin: is it final -/
def gfp (own : String) (idx ci kf : Nat) (ty : FieldType) (fin : Bool) : Prop := ∃ (C : String) (T : u_T) (n : Nat) (ty0 : Nat → FieldType), sm_cl[ci]? = some (C, T, n) ∧ kf < n ∧ (∀ w ∈ u_ws C T n, w ∈ sm_big) ∧ (T kf).1 = C ∧ C = own ∧ Cond.fieldLink own idx C (T kf).2.1 (T kf).2.2.1 ∈ sm_big ∧ (∀ k, k < n → parseFieldDescriptor (T k).2.2.1 = some (ty0 k)) ∧ (∀ a, a < n → ∀ b, b < n → a ≠ b → (T a).2.1 ≠ (T b).2.1) ∧ (T kf).2.2.2 = fin ∧ parseFieldDescriptor (T kf).2.2.1 = some ty
theorem gs_put {idx ci kf a : Nat} {v : Value} {fs : List Value} {ty : FieldType} {fin : Bool} (n q0 : Nat) (w2 : va_W) (hd : decode M.2.1 pc = .ok (.putfield idx, 3)) (hf : gfp M.1.cls idx ci kf ty fin) (hM : M.1.name = "<init>") (hw : w[q0]? = some (a, .inr (ci, fs))) (hn : narrow ty v = v) (ht : fits ty v = true) (hl : kf < fs.length) (hw2 : w.set q0 (a, .inr (ci, fs.set kf v)) = w2) (hp : pc + 3 = n) (kk : gW G A d K nn M Po n L st w2 k j) : gW G A d K nn M Po pc L (v :: .ref a :: st) w k j := by
  subst hp
  subst hw2
  obtain ⟨C, T, n, ty0, hcl, hk, hu, hT, hC, hlk, hty, hnm, hfin, hpd⟩ := hf
  refine gs_goP (fun l p e s m args below meth c H locs ls Z X B hls q => ?_) kk
  have hts := X.2.2.2.2.2.2.1
  have hin : ∀ w ∈ u_ws C T n, w ∈ sm_ws M := fun w hw => sm_in_code M (hu w hw)
  cases fin with
  | true => exact va_putF (own := M.1.cls) (ref := C) X.1 X.2.1 hts hin ty0 hty hnm X.2.2.2.2.2.1 X.2.2.2.2.2.2.2.1.1 B.1 B.2.1 B.2.2 q0 hw hcl kf hk (hts _ (sm_in_code M hlk)) (by rw [hT]; exact fun _ q => q) hfin (X.2.2.2.2.2.2.2.2.1.trans hM) (hT.trans hC) hpd hn ht hl hd (fun H2 l2 a1 a2 a3 => q H2 l2 ⟨a1, a2, a3⟩)
  | false => exact va_put (own := M.1.cls) (ref := C) X.1 X.2.1 hts hin ty0 hty hnm X.2.2.2.2.2.1 X.2.2.2.2.2.2.2.1.1 B.1 B.2.1 B.2.2 q0 hw hcl kf hk (hts _ (sm_in_code M hlk)) (by rw [hT]; exact fun _ q => q) hfin hpd hn ht hl hd (fun H2 l2 a1 a2 a3 => q H2 l2 ⟨a1, a2, a3⟩)
theorem gs_bast {a nA : Nat} {f : Nat → Int32} {i x : Int32} (n q0 : Nat) (w2 : va_W) (hd : decode M.2.1 pc = .ok (.bastore, 1)) (hw : w[q0]? = some (a, .inl (G.2.2.2.2 0, nA, .inl f))) (hi : 0 ≤ i.toInt ∧ i.toInt < nA) (hw2 : w.set q0 (a, .inl (G.2.2.2.2 0, nA, .inl (upd f i.toNatClampNeg (vp_nar .byte x)))) = w2) (hp : pc + 1 = n) (kk : gW G A d K nn M Po n L st w2 k j) : gW G A d K nn M Po pc L (.int x :: .int i :: .ref a :: st) w k j := by
  subst hp
  subst hw2
  exact gs_goP (fun l p e s m args below meth c H locs ls Z X B hls q => va_bast X.1 X.2.1 X.2.2.2.2.2.2.2.1.1 B.1 B.2.1 B.2.2 q0 0 hw rfl (sm_vpin hi.1 hi.2) hd (fun H2 l2 a1 a2 a3 => q H2 l2 ⟨a1, a2, a3⟩)) kk
theorem gs_aast {a nA v : Nat} {f : Nat → Option Nat} {vs : List Value} {i : Int32} (n q0 qk : Nat) (w2 : va_W) (hd : decode M.2.1 pc = .ok (.aastore, 1)) (hw : w[q0]? = some (a, .inl (G.2.2.2.2 3, nA, .inr (.inr (.inr (.inr f)))))) (hv : w[qk]? = some (v, .inr (0, vs))) (hi : 0 ≤ i.toInt ∧ i.toInt < nA) (hw2 : w.set q0 (a, .inl (G.2.2.2.2 3, nA, .inr (.inr (.inr (.inr (va_up f i.toNatClampNeg (some v))))))) = w2) (hp : pc + 1 = n) (kk : gW G A d K nn M Po n L st w2 k j) : gW G A d K nn M Po pc L (.ref v :: .int i :: .ref a :: st) w k j := by
  subst hp
  subst hw2
  exact gs_goP (fun l p e s m args below meth c H locs ls Z X B hls q => va_astq (r := (sm_R0, sm_F0, 2)) X.1 X.2.1 X.2.2.2.2.2.2.2.1.1 B.1 B.2.1 B.2.2 q0 3 qk 0 hw rfl hv rfl (sm_vpin hi.1 hi.2) hd (fun H2 l2 a1 a2 a3 => q H2 l2 ⟨a1, a2, a3⟩)) kk
theorem gs_aald {a nA : Nat} {f : Nat → Option Nat} {i : Int32} {v : Value} (n q0 : Nat) (hd : decode M.2.1 pc = .ok (.aaload, 1)) (hw : w[q0]? = some (a, .inl (G.2.2.2.2 3, nA, .inr (.inr (.inr (.inr f)))))) (hi : 0 ≤ i.toInt ∧ i.toInt < nA) (hv : va_rf (f i.toNatClampNeg) = v) (hp : pc + 1 = n) (kk : gW G A d K nn M Po n L (v :: st) w k j) : gW G A d K nn M Po pc L (.int i :: .ref a :: st) w k j := by
  subst hp
  subst hv
  exact gs_go (fun l p e s m args below meth c H locs ls Z X B hls q => va_aldq X.1 X.2.1 X.2.2.2.2.2.2.2.1.1 B.1 q0 3 hw rfl (sm_vpin hi.1 hi.2) hd q) kk
theorem gs_new {C : String} {T : u_T} {N ci idx : Nat} {fs : List Value} (n : Nat) (ty : Nat → FieldType) (hd : decode M.2.1 pc = .ok (.new idx, 3)) (hc : sm_cl[ci]? = some (C, T, N)) (hu : ∀ w ∈ u_ws C T N, w ∈ sm_big) (hty : ∀ k, k < N → parseFieldDescriptor (T k).2.2.1 = some (ty k)) (h1 : Cond.classLink M.1.cls idx C ∈ sm_big) (h2 : Cond.instantiable C N ∈ sm_big) (h3 : Cond.initialized C ∈ sm_big) (hfs : ∀ j, j < N → defaultValue (ty j) = vp_V fs j) (hk : k + 1 ≤ K) (hj : j + N ≤ nn) (hp : pc + 3 = n) (kk : ∀ q, gW G A d K nn M Po n L (.ref q :: st) (w ++ [(q, .inr (ci, fs))]) (k + 1) (j + N)) : gW G A d K nn M Po pc L st w k j := by
  subst hp
  intro l p e s m args below meth c H locs ls X B hls
  have hts := X.2.2.2.2.2.2.1
  exact va_new (own := M.1.cls) X.1 X.2.1 hts (fun w hw => sm_in_code M (hu w hw)) ty hty X.2.2.2.2.2.1 (hts _ (sm_in_code M h1)) (hts _ (sm_in_code M h2)) (hts _ (sm_in_code M h3)) X.2.2.2.2.2.2.2.1.1 B.1 B.2.1 B.2.2 X.2.2.2.2.2.2.2.2.2 hc hfs hk hj hd (fun q H1 a1 a2 a3 => kk q l p e s m args below meth c H1 locs ls X ⟨a1, a2, a3⟩ hls)
theorem gs_newa {atype : ArrayType} {x : Int32} {N t : Nat} {ty : FieldType} {a0 : vp_A} (n : Nat) (hd : decode M.2.1 pc = .ok (.newarray atype, 2)) (hty : newarray.typeOf atype = ty) (ht : ∀ G : sm_G, (sm_tys G)[t]? = some (G.2.2.2.2 t, ty)) (hun : ∀ (s : State) (c1 c2 : ClassId), va_RA s c1 ty → va_RA s c2 ty → c1 = c2) (ha : ∀ cA : ClassId, vp_cell cA a0 = arrV cA N (fun _ => defaultValue ty)) (h1 : Cond.arrayClass ty ∈ sm_big) (hx : x = nI N) (hN : N < 2147483648) (hb : N * componentBytes ty ≤ 536870912) (hk : k + 1 ≤ K) (hj : j + N ≤ nn) (hp : pc + 2 = n) (kk : ∀ q, gW G A d K nn M Po n L (.ref q :: st) (w ++ [(q, .inl (G.2.2.2.2 t, a0))]) (k + 1) (j + N)) : gW G A d K nn M Po pc L (.int x :: st) w k j := by
  subst hp
  subst hty
  subst hx
  intro l p e s m args below meth c H locs ls X B hls
  have hts := X.2.2.2.2.2.2.1
  refine va_newa X.1 X.2.1 (hts _ (sm_in_code M h1)) rfl X.2.2.2.2.2.2.2.1.1 B.1 B.2.1 B.2.2 X.2.2.2.2.2.2.2.2.2 ha (sm_nn (by rw [nI_t hN]; omega)) (nI_clamp hN) hb hk hj hd (fun q cA H1 a0 a1 a2 a3 => ?_)
  have e1 := (X.2.2.2.2.2.2.2.1.1.2 t _ (ht G)).2
  have e2 := (a0.2 4 (cA, newarray.typeOf atype) rfl).2
  have e3 : cA = G.2.2.2.2 t := hun s _ _ e2 e1
  subst e3
  exact kk q l p e s m args below meth c H1 locs ls X ⟨a1, a2, a3⟩ hls
theorem gs_newq {idx N : Nat} {x : Int32} (n : Nat) (hd : decode M.2.1 pc = .ok (.anewarray idx, 3)) (h1 : Cond.classLink M.1.cls idx "UpdateDesk$Bytes" ∈ sm_big) (hx : x = nI N) (hN : N < 2147483648) (hb : N * 4 ≤ 536870912) (hk : k + 1 ≤ K) (hj : j + N ≤ nn) (hp : pc + 3 = n) (kk : ∀ q, gW G A d K nn M Po n L (.ref q :: st) (w ++ [(q, .inl (G.2.2.2.2 3, N, .inr (.inr (.inr (.inr (fun _ => none))))))]) (k + 1) (j + N)) : gW G A d K nn M Po pc L (.int x :: st) w k j := by
  subst hp
  subst hx
  intro l p e s m args below meth c H locs ls X B hls
  have hts := X.2.2.2.2.2.2.1
  refine va_newq (own := M.1.cls) X.1 X.2.1 X.2.2.2.2.2.1 (hts _ (sm_in_code M h1)) X.2.2.2.2.2.2.2.1.2.2.2.2.2.2 X.2.2.2.2.2.2.2.1.1 B.1 B.2.1 B.2.2 X.2.2.2.2.2.2.2.2.2 (sm_nn (by rw [nI_t hN]; omega)) (nI_clamp hN) hb hk hj hd (fun q cA H1 a0 a1 a2 a3 => ?_)
  have e1 := (X.2.2.2.2.2.2.2.1.1.2 3 _ rfl).2
  have e2 := (a0.2 4 (cA, .object "UpdateDesk$Bytes") rfl).2
  have e3 : cA = G.2.2.2.2 3 := by
    have u1 := va_nmO e1 rfl
    have u2 := va_nmO e2 rfl
    rw [u1] at u2
    exact (Option.some.inj u2).symm
  subst e3
  exact kk q l p e s m args below meth c H1 locs ls X ⟨a1, a2, a3⟩ hls
/-- what is behind a call: the rest of the world beside what came back -/
theorem gs_callX {K2 n2 : Nat} {pcn : Nat} {rest : List Value} {wc wr : va_W} {Po2 : va_W → Prop} {avv : Array Value} (hp : pc + 3 = pcn) (isC isR : List Nat) (hC : isC.map (fun i => w[i]?) = wc.map some) (hR : isR.map (fun i => w[i]?) = wr.map some) (hnd : va_nd isR = true) (hdis : ∀ i ∈ isR, i ∉ isC)
    (hrun : ∀ (l : Launch) (p : Program) (e : Env) (s : State) (m : MethodId) (args : Array Value) (below : List Frame) (meth : Method) (c : Code) (H : Heap) (locs : List Loc) (ls : Array Slot), gX G A M p s m args meth c → gB G A w s H locs → lv_has ls M.2.2.1 L → (∀ q, va_A wc H.size q → A q) →
      va_Run p l e (gR d K nn) s m args below meth c H locs k j K2 n2 (F0 m pc ls st) rest (gQ G (va_A wc H.size) Po2 avv) (va_A wc H.size))
    (kk : ∀ w1, Po2 w1 → gW G A d K nn M Po pcn L rest (wr ++ w1) (k + K2) (j + n2)) : gW G A d K nn M Po pc L st w k j := by
  subst hp
  intro l p e s m args below meth c H locs ls X B hl T hT XX
  have hF := va_free B.2.1 B.2.2 X.2.2.2.2.2.2.2.2.2 isC hC
  obtain ⟨v, st₀, t, T2, L2, h0, X2, hL2, f1, f2, hQ, stp⟩ := hrun l p e s m args below meth c H locs ls X B hl hF T hT XX
  obtain ⟨hv, ⟨w1, hw1, hP1, hD1⟩, hz, hFr⟩ := hQ
  cases hv
  rw [h0] at hz hFr
  obtain ⟨hP, hD⟩ := va_join B.1 B.2.1 isC isR hC hR hnd hdis hFr hF hP1 hD1
  have B2 : gB G A (wr ++ w1) s T2.heap (locs ++ L2) := by
    refine ⟨by rw [f1]; exact hP, hD, Nat.le_trans B.2.2.1 (by rw [f1]; exact hz), fun q g1 g2 => ?_, fun q hq => ?_⟩
    · rw [f1, hFr q (Nat.lt_of_lt_of_le g1 B.2.2.1) (fun z => g2 (hF q z))]
      exact B.2.2.2.1 q g1 g2
    · rcases List.mem_append.mp hq with z | z
      · exact B.2.2.2.2 q z
      · exact hF _ (hL2 q z)
  obtain ⟨t2, a1, b1⟩ := kk w1 hw1 l p e s m args below meth c T2.heap (locs ++ L2) ls X B2 hl T2 rfl X2
  exact ⟨t2, stp t2 a1, b1⟩
def gmi (own : String) (idx : Nat) (M2 : sm_M) (n : Nat) : Prop := (Cond.methodLink own idx M2.1 ∈ sm_big ∨ ∃ host, Cond.methodLinkNest own idx M2.1 host ∈ sm_nest) ∧ Cond.instanceMethod M2.1 ∈ sm_big ∧ M2.1.name = "<init>" ∧ M2.2.2.2 = none ∧ sm_okM M2 n
theorem gs_pre {av : List Value} {wc : va_W} {p : Program} {s : State} {m : MethodId} {args : Array Value} {meth : Method} {c : Code} {H : Heap} {locs : List Loc} (X : gX G A M p s m args meth c) (B : gB G A w s H locs) (isC : List Nat) (hC : isC.map (fun i => w[i]?) = wc.map some) (hnd : va_nd isC = true) (hF : ∀ q, va_A wc H.size q → A q) (U : State) (hU : U.heap = H) (hW : s.WarmedH U.vm) : gP G av wc H.size av.toArray U := by
  have hf : isC.filterMap (fun i => w[i]?) = wc := by
    have h1 : isC.filterMap (fun i => w[i]?) = (isC.map (fun i => w[i]?)).filterMap id := by rw [List.filterMap_map]; rfl
    rw [h1, hC, List.filterMap_map]
    exact List.filterMap_some
  refine ⟨rfl, by rw [hU], by rw [hU]; exact B.1.sub isC hf, gk.narrow hF (gk.go hW (fun q a1 a2 => by rw [hU]; exact B.2.2.2.1 q a1 a2) X.2.2.2.2.2.2.2.1), (B.2.1.sub isC hnd hC).self⟩
theorem gs_init {K2 n2 dc idx np b : Nat} {M2 : sm_M} {av rest : List Value} {wc wr : va_W} {Po2 : va_W → Prop} (n : Nat) (hd : decode M.2.1 pc = .ok (.invokespecial idx, 3)) (hm : gmi M.1.cls idx M2 np) (hdc : dc + 1 ≤ d) (hst : st = av.reverse ++ .ref b :: rest) (hn : av.length = np) (hc : (rest.map (fun v => v.category)).sum ≤ 8) (hk : k + K2 ≤ K) (hj : j + n2 ≤ nn) (isC isR : List Nat) (hC : isC.map (fun i => w[i]?) = wc.map some) (hR : isR.map (fun i => w[i]?) = wr.map some) (hn1 : va_nd isC = true) (hnd : va_nd isR = true) (hdis : ∀ i ∈ isR, i ∉ isC) (hp : pc + 3 = n) (hT : gC G dc K2 n2 M2 (.ref b :: av) wc Po2)
    (kk : ∀ w1, Po2 w1 → gW G A d K nn M Po n L rest (wr ++ w1) (k + K2) (j + n2)) : gW G A d K nn M Po pc L st w k j := by
  obtain ⟨m1, m2, m3, m4, ⟨o1, o2, o3, o4, o5, o6⟩⟩ := hm
  refine gs_callX hp isC isR hC hR hnd hdis (avv := (Value.ref b :: av).toArray) (fun l p e s m args below meth c H locs ls X B hl hF => ?_) kk
  have hts := X.2.2.2.2.2.2.1
  have hpre : PreS s H (gP G (.ref b :: av) wc H.size) (.ref b :: av) := ⟨gP_blind G _ wc H.size, fun U hU hW => gs_pre X B isC hC hn1 hF U hU hW⟩
  have hroom : dc + 1 ≤ d ∧ 8 + (M2.2.2.1 + 11) + 40 * dc ≤ 40 * d := ⟨hdc, by omega⟩
  rcases m1 with m1 | ⟨host, m1⟩
  · have hcw := cwI (R := gR d K nn) (rm := gR dc K2 n2) (mc := K2) (ms := n2) (bytes := M2.2.1) (maxL := M2.2.2.1) np hts (sm_goodIn M M2 o2) (by rw [sm_ws, m4]) rfl rfl (hts _ (sm_in_code M o1)) (hts _ (sm_in_code M m1)) (hts _ (sm_in_code M m2)) m3 ⟨o3, o4, o5⟩ hroom
    exact va_runI (As := av) (rest := rest) (b := b) ⟨X.1, X.2.1, X.2.2.2.2.1, X.2.2.2.2.2.1, hts⟩ (hT l H.size) hcw hpre rfl hn hl.1 hst (lv_room hc) hd ⟨hk, hj⟩
  · have hcw := va_cnB (R := gR d K nn) (rm := gR dc K2 n2) (mc := K2) (ms := n2) (bytes := M2.2.1) (maxL := M2.2.2.1) (ret := none) np hts (sm_goodIn M M2 o2) (by rw [sm_ws, m4]) rfl rfl (X.2.2.2.2.2.2.2.1.2.1 _ m1) (hts _ (sm_in_code M o1)) ⟨o3, o4, o5⟩ hroom
    exact va_runIN (As := av) (rest := rest) (b := b) ⟨X.1, X.2.1, X.2.2.2.2.1, X.2.2.2.2.2.1, hts⟩ (hT l H.size) ⟨hcw, m3, hts _ (sm_in_code M m2)⟩ hpre rfl hn hl.1 hst (lv_room hc) hd ⟨hk, hj⟩
end Gr
