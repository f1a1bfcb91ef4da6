/-! returns, calls, a method's contract out of its walk -/
section Rows4
variable {N d : Nat} {M : sm_M} {pc : Nat} {L : List (Nat × Value)} {st : List Value} {h : sm_H} {Q : Option Value → sm_H → Prop}
theorem sm_iret {x : Int32} (hr : M.2.2.2 = some .int) (hd : decode M.2.1 pc = .ok (.ireturn, 1)) (hq : Q (some (.int x)) h) : sm_W N d M pc L [.int x] h Q :=
  ⟨_, h, fun e0 => ⟨e0, fun l G p e s m args below meth c H locs ls X B hl => W.iret X.1 X.2.1 (X.2.2.1.trans hr) (fun t ht hW => ⟨rfl, by rw [ht]; exact B.1, B.2.2.F ht⟩) B.2.2.2.2 hd (hlocks := X.2.2.2.1)⟩, hq⟩
theorem sm_zret {x : Int32} (hr : M.2.2.2 = some .boolean) (hd : decode M.2.1 pc = .ok (.ireturn, 1)) (hx : x = 0 ∨ x = 1) (hq : Q (some (.int x)) h) : sm_W N d M pc L [.int x] h Q :=
  ⟨_, h, fun e0 => ⟨e0, fun l G p e s m args below meth c H locs ls X B hl => W.zret X.1 X.2.1 (X.2.2.1.trans hr) (by rcases hx with rfl | rfl <;> rfl) (fun t ht hW => ⟨rfl, by rw [ht]; exact B.1, B.2.2.F ht⟩) B.2.2.2.2 hd (hlocks := X.2.2.2.1)⟩, hq⟩
theorem sm_lret {x : Int64} (hr : M.2.2.2 = some .long) (hd : decode M.2.1 pc = .ok (.lreturn, 1)) (hq : Q (some (.long x)) h) : sm_W N d M pc L [.long x] h Q :=
  ⟨_, h, fun e0 => ⟨e0, fun l G p e s m args below meth c H locs ls X B hl => W.lret X.1 X.2.1 (X.2.2.1.trans hr) (fun t ht hW => ⟨rfl, by rw [ht]; exact B.1, B.2.2.F ht⟩) B.2.2.2.2 hd (hlocks := X.2.2.2.1)⟩, hq⟩
theorem sm_vret (hr : M.2.2.2 = none) (hd : decode M.2.1 pc = .ok (.return_, 1)) (hq : Q none h) : sm_W N d M pc L [] h Q :=
  ⟨_, h, fun e0 => ⟨e0, fun l G p e s m args below meth c H locs ls X B hl => W.vret X.1 X.2.1 (X.2.2.1.trans hr) (fun t ht hW => ⟨rfl, by rw [ht]; exact B.1, B.2.2.F ht⟩) B.2.2.2.2 hd (hlocks := X.2.2.2.1)⟩, hq⟩
theorem sm_aret {v : Value} {C : String} (hr : M.2.2.2 = some (.object C)) (hv : v = .null ∨ (∃ a, v = .ref a) ∨ ∃ a, v = .retAddr a) (hd : decode M.2.1 pc = .ok (.areturn, 1)) (hq : Q (some v) h) : sm_W N d M pc L [v] h Q :=
  ⟨_, h, fun e0 => ⟨e0, fun l G p e s m args below meth c H locs ls X B hl => W.aret (v := sm_v G v) X.1 X.2.1 (X.2.2.1.trans hr) (Or.inl ⟨C, rfl⟩) (by rcases hv with rfl | ⟨a, rfl⟩ | ⟨a, rfl⟩ <;> first | exact Or.inl rfl | exact Or.inr ⟨_, rfl⟩) (fun t ht hW => ⟨rfl, by rw [ht]; exact B.1, B.2.2.F ht⟩) B.2.2.2.2 hd (hlocks := X.2.2.2.1)⟩, hq⟩
theorem sm_stk (G : sm_G) (r : Option Value) (rest : List Value) : (r.map (sm_v G)).toList ++ rest.map (sm_v G) = (r.toList ++ rest).map (sm_v G) := by cases r <;> rfl
/-- a call, out of what the kit says of it -/
theorem sm_callX {dc : Nat} {M2 : sm_M} {av rest : List Value} {K : Option Value → sm_H → Prop} (n : Nat) (hp : pc + 3 = n) (hT : sm_T N dc M2 av h K)
    (hrun : ∀ (l : Launch) (G : sm_G) (p : Program) (e : Env) (s : State) (m : MethodId) (args : Array Value) (below : List Frame) (meth : Method) (c : Code) (H : Heap) (locs : List Loc) (ls : Array Slot) (r : Option Value) (h1 : sm_H), sm_X G N M p s m args meth c → sm_B G N h s H locs → lv_has ls M.2.2.1 (L.map (sm_l G)) → Met l M2.1 (sm_ws M2) (sm_R dc) (sm_P G N av h) (sm_Q G N r h1) 0 0 (sm_A G N) →
      va_Run p l e (sm_R d) s m args below meth c H locs 0 0 0 0 (F0 m pc ls (st.map (sm_v G))) (rest.map (sm_v G)) (sm_Q G N r h1 (av.map (sm_v G)).toArray) (sm_A G N))
    (kk : ∀ r h1, K r h1 → sm_W N d M n L (r.toList ++ rest) h1 Q) : sm_W N d M pc L st h Q := by
  subst hp
  obtain ⟨r, h1, hC, hK⟩ := hT
  obtain ⟨r2, h2, k, hq⟩ := kk r h1 hK
  refine ⟨r2, h2, fun e0 => ?_, hq⟩
  obtain ⟨e1, hM⟩ := hC e0
  obtain ⟨e2, k⟩ := k e1
  refine ⟨e2, fun l G p e s m args below meth c H locs ls X B hl => ?_⟩
  intro T hT XX
  obtain ⟨v, st₀, t, T2, L2, h0, X2, hL2, f1, f2, hQ, stp⟩ := hrun l G p e s m args below meth c H locs ls r h1 X B hl (hM l G) T hT XX
  obtain ⟨hv, hP1, hz, hF⟩ := hQ
  cases hv
  rw [h0] at hz hF
  have B2 : sm_B G N h1 s T2.heap (locs ++ L2) := ⟨by rw [f1]; exact hP1, sm_D_go (e1.trans e0.symm) B.2.1, Nat.le_trans B.2.2.1 (by rw [f1]; exact hz), fun q g1 g2 => by rw [f1, hF q (Nat.lt_of_lt_of_le g1 B.2.2.1) g2]; exact B.2.2.2.1 q g1 g2, fun q hq => by
    rcases List.mem_append.mp hq with w | w
    · exact B.2.2.2.2 q w
    · exact hL2 q w⟩
  obtain ⟨t2, a1, b1⟩ := k l G p e s m args below meth c T2.heap (locs ++ L2) ls X B2 hl T2 rfl X2
  exact ⟨t2, stp t2 (by rw [sm_stk]; exact a1), b1⟩
def sm_okM (M2 : sm_M) (n : Nat) : Prop := Cond.initialized M2.1.cls ∈ sm_big ∧ Cond.code M2.1 M2.2.1 M2.2.2.1 M2.2.2.2 ∈ sm_big ∧ M2.1.cls ≠ "java/lang/invoke/MethodHandle" ∧ M2.1.cls ≠ "java/lang/invoke/VarHandle" ∧ (parseMethodDescriptor M2.1.desc).map (fun d => d.parameters.length) = some n ∧ M2.2.2.1 ≤ 21
/-- an object's method in the pool of own at idx -/
def sm_mv (own : String) (idx : Nat) (M2 : sm_M) (ci n : Nat) : Prop := Cond.methodLink own idx M2.1 ∈ sm_big ∧ Cond.instanceMethod M2.1 ∈ sm_big ∧ Cond.selects M2.1.cls M2.1 M2.1 ∈ sm_big ∧ sm_okM M2 n ∧ ∃ q, sm_cl[ci]? = some q ∧ q.1 = M2.1.cls
/-- a static method of the same file -/
def sm_ms (own : String) (idx : Nat) (M2 : sm_M) (n : Nat) : Prop := M2.1.cls = own ∧ Cond.methodLink own idx M2.1 ∈ sm_big ∧ Cond.static M2.1 ∈ sm_big ∧ sm_okM M2 n
/-- a static method of a mate -/
def sm_mN (own : String) (idx : Nat) (M2 : sm_M) (n : Nat) : Prop := (∃ host, Cond.methodLinkNest own idx M2.1 host ∈ sm_nest) ∧ Cond.static M2.1 ∈ sm_big ∧ sm_okM M2 n
theorem sm_pre {G : sm_G} {av : List Value} {p : Program} {s : State} {m : MethodId} {args : Array Value} {meth : Method} {c : Code} {H : Heap} {locs : List Loc} (X : sm_X G N M p s m args meth c) (B : sm_B G N h s H locs) (U : State) (hU : U.heap = H) (hW : s.WarmedH U.vm) : sm_P G N av h (av.map (sm_v G)).toArray U :=
  ⟨rfl, by rw [hU]; exact B.1, B.2.1, sm_K.go hW (fun q a1 a2 => by rw [hU]; exact B.2.2.2.1 q a1 a2) X.2.2.2.2.2.2.2⟩
theorem sm_callV {dc idx ci b np : Nat} {M2 : sm_M} {av rest : List Value} {K : Option Value → sm_H → Prop} (n : Nat) (hd : decode M.2.1 pc = .ok (.invokevirtual idx, 3)) (hm : sm_mv M.1.cls idx M2 ci np) (hdc : dc + 1 ≤ d) (hst : st = av.reverse ++ .ref b :: rest) (hn : av.length = np) (hc : (rest.map (fun v => v.category)).sum ≤ 8) (hp : pc + 3 = n) (hT : sm_V N dc M2 ci b av h K)
    (kk : ∀ r h1, K r h1 → sm_W N d M n L (r.toList ++ rest) h1 Q) : sm_W N d M pc L st h Q := by
  obtain ⟨⟨fs, hfs⟩, hT⟩ := hT
  obtain ⟨m1, m2, m3, ⟨o1, o2, o3, o4, o5, o6⟩, q, hq1, hq2⟩ := hm
  refine sm_callX n hp hT (rest := rest) (fun l G p e s m args below meth c H locs ls r h1 X B hl hM => ?_) kk
  have hts := X.2.2.2.2.2.2.1
  have hG : GoodIn (sm_ws M) (wsV M.1.cls idx M2.1.cls M2.1 (sm_ws M2)) := by
    intro w hw
    rcases List.mem_append.mp hw with hw | hw
    · simp only [List.mem_cons, List.not_mem_nil, or_false] at hw
      rcases hw with rfl | rfl | rfl | rfl
      · exact ⟨sm_in_code M m1, sm_big_good m1⟩
      · exact ⟨sm_in_code M m2, sm_big_good m2⟩
      · exact ⟨sm_in_code M m3, sm_big_good m3⟩
      · exact ⟨sm_in_code M o1, sm_big_good o1⟩
    · exact sm_goodIn M M2 o2 w hw
  have hcw := cwV (R := sm_R d) (rm := sm_R dc) (mc := 0) (ms := 0) np hts hG rfl rfl rfl ⟨rfl, o3, o4, o5⟩ ⟨hdc, by show 8 + (M2.2.2.1 + 11) + 40 * dc ≤ 40 * d; omega⟩
  have hrec := va_recv X.2.2.2.2.2.2.2.1 B.1 hq1 (q0 := b) (sm_w_at hfs)
  rw [hq2] at hrec
  exact va_runV (As := av.map (sm_v G)) (rest := rest.map (sm_v G)) (b := G.1 b) ⟨X.1, X.2.1, X.2.2.2.2.1, X.2.2.2.2.2.1, hts⟩ hM hcw ⟨sm_blind G N _ h, hrec, fun U hU hW => sm_pre (av := .ref b :: av) X B U hU hW⟩ rfl (by rw [List.length_map]; exact hn) hl.1 (by rw [hst]; simp [sm_v]) (lv_room (by rw [List.map_map]; have : ((fun v : Value => v.category) ∘ sm_v G) = (fun v : Value => v.category) := funext (sm_v_cat G); rw [this]; exact hc)) hd ⟨Nat.le_refl _, Nat.le_refl _⟩
theorem sm_callS {dc idx np : Nat} {M2 : sm_M} {av rest : List Value} {K : Option Value → sm_H → Prop} (n : Nat) (hd : decode M.2.1 pc = .ok (.invokestatic idx, 3)) (hm : sm_ms M.1.cls idx M2 np) (hdc : dc + 1 ≤ d) (hst : st = av.reverse ++ rest) (hn : av.length = np) (hc : (rest.map (fun v => v.category)).sum ≤ 8) (hp : pc + 3 = n) (hT : sm_T N dc M2 av h K)
    (kk : ∀ r h1, K r h1 → sm_W N d M n L (r.toList ++ rest) h1 Q) : sm_W N d M pc L st h Q := by
  obtain ⟨m0, m1, m2, ⟨o1, o2, o3, o4, o5, o6⟩⟩ := hm
  refine sm_callX n hp hT (rest := rest) (fun l G p e s m args below meth c H locs ls r h1 X B hl hM => ?_) kk
  have hts := X.2.2.2.2.2.2.1
  have hG : GoodIn (sm_ws M) (wsS M.1.cls idx M2.1 (sm_ws M2)) := by
    intro w hw
    rcases List.mem_append.mp hw with hw | hw
    · simp only [List.mem_cons, List.not_mem_nil, or_false] at hw
      rcases hw with rfl | rfl | rfl
      · exact ⟨sm_in_code M m1, sm_big_good m1⟩
      · exact ⟨sm_in_code M m2, sm_big_good m2⟩
      · rw [← m0]; exact ⟨sm_in_code M o1, sm_big_good o1⟩
    · exact sm_goodIn M M2 o2 w hw
  have hcw := cwS (R := sm_R d) (rm := sm_R dc) (mc := 0) (ms := 0) np hts hG rfl rfl rfl ⟨m0, o3, o4, o5⟩ ⟨hdc, by show 8 + (M2.2.2.1 + 11) + 40 * dc ≤ 40 * d; omega⟩
  exact va_runS (As := av.map (sm_v G)) (rest := rest.map (sm_v G)) ⟨X.1, X.2.1, X.2.2.2.2.1, X.2.2.2.2.2.1, hts⟩ hM hcw ⟨sm_blind G N _ h, fun U hU hW => sm_pre X B U hU hW⟩ rfl (by rw [List.length_map]; exact hn) hl.1 (by rw [hst]; simp) (lv_room (by rw [List.map_map]; have : ((fun v : Value => v.category) ∘ sm_v G) = (fun v : Value => v.category) := funext (sm_v_cat G); rw [this]; exact hc)) hd ⟨Nat.le_refl _, Nat.le_refl _⟩
theorem sm_callN {dc idx np : Nat} {M2 : sm_M} {av rest : List Value} {K : Option Value → sm_H → Prop} (n : Nat) (hd : decode M.2.1 pc = .ok (.invokestatic idx, 3)) (hm : sm_mN M.1.cls idx M2 np) (hdc : dc + 1 ≤ d) (hst : st = av.reverse ++ rest) (hn : av.length = np) (hc : (rest.map (fun v => v.category)).sum ≤ 8) (hp : pc + 3 = n) (hT : sm_T N dc M2 av h K)
    (kk : ∀ r h1, K r h1 → sm_W N d M n L (r.toList ++ rest) h1 Q) : sm_W N d M pc L st h Q := by
  obtain ⟨⟨host, m1⟩, m2, ⟨o1, o2, o3, o4, o5, o6⟩⟩ := hm
  refine sm_callX n hp hT (rest := rest) (fun l G p e s m args below meth c H locs ls r h1 X B hl hM => ?_) kk
  have hts := X.2.2.2.2.2.2.1
  have hcw := va_cnB (R := sm_R d) (rm := sm_R dc) (mc := 0) (ms := 0) np hts (sm_goodIn M M2 o2) rfl rfl rfl (X.2.2.2.2.2.2.2.2.1 _ m1) (hts _ (sm_in_code M o1)) ⟨o3, o4, o5⟩ ⟨hdc, by show 8 + (M2.2.2.1 + 11) + 40 * dc ≤ 40 * d; omega⟩
  exact va_runSN (As := av.map (sm_v G)) (rest := rest.map (sm_v G)) ⟨X.1, X.2.1, X.2.2.2.2.1, X.2.2.2.2.2.1, hts⟩ hM ⟨hcw, hts _ (sm_in_code M m2), trivial⟩ ⟨sm_blind G N _ h, fun U hU hW => sm_pre X B U hU hW⟩ rfl (by rw [List.length_map]; exact hn) hl.1 (by rw [hst]; simp) (lv_room (by rw [List.map_map]; have : ((fun v : Value => v.category) ∘ sm_v G) = (fun v : Value => v.category) := funext (sm_v_cat G); rw [this]; exact hc)) hd ⟨Nat.le_refl _, Nat.le_refl _⟩
/-- the contract of a method out of the walk from its entry -/
theorem sm_meth {av : List Value} (hy : plainName M.1.cls = true) (hn : ∀ G, (lg_sl (av.map (sm_v G))).length ≤ M.2.2.1) (hL : ∀ G, lv_args 0 (av.map (sm_v G)) = L.map (sm_l G)) (k : sm_W N d M 0 L [] h Q) : sm_T N d M av h Q := by
  obtain ⟨r, h1, k, hq⟩ := k
  refine ⟨r, h1, fun e0 => ⟨(k e0).1, fun l G => ?_⟩, hq⟩
  refine Met.ofW (cc := M.2.1) (maxL := M.2.2.1) (ret := M.2.2.2) hy rfl ?_
  intro p e s m args below meth c s₁ Bd hml hv
  obtain ⟨ha, hP, hD, hK⟩ := hv
  subst ha
  have hts := atoms_spec (ws := sm_ws M) Bd.pre
  have hl := lv_entry (av.map (sm_v G)) (n := M.2.2.1) (hn G)
  rw [lg_entry_eq]
  rw [hL G] at hl
  exact (k e0).2 l G p e s m _ below meth c s.heap [] _ ⟨Bd.exec, Bd.bytes, Bd.returns, Bd.notSynchronized, hml, findClass_of_methodNamed Bd.named, hts, hK⟩ ⟨hP, hD, va_S.rf⟩ hl
end Rows4
