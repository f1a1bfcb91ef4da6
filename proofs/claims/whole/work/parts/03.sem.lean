/-! A judgement over plain data: the cells of a run are a list, a reference is a place in it (a text constant: retAddr of its number). sm_W: from this place of a method's code the machine comes to the method's return, and Q holds of answer and cells. No cell is made here. -/
abbrev sm_E : Type := (Nat × vp_A) ⊕ (Nat × List Value)
abbrev sm_H : Type := List sm_E
/-- where cells lie, texts, their bytes; class numbers and slots; array classes -/
abbrev sm_G : Type := (Nat → Nat) × (Nat → Nat) × (Nat → Nat) × va_G × (Nat → ClassId)
def sm_v (G : sm_G) : Value → Value
  | .ref k => .ref (G.1 k)
  | .retAddr k => .ref (if k < 6 then G.2.1 k else G.2.2.1 (k - 6))
  | .int x => .int x
  | .long x => .long x
  | .float _ => va_rf (if G.2.2.1 6 = 0 then none else some (G.2.2.1 6 - 1))
  | .double x => .double x
  | .null => .null
def sm_o (G : sm_G) (f : Nat → Option Nat) : Nat → Option Nat := fun j => (f j).map G.1
def sm_a (G : sm_G) : vp_A → vp_A
  | (n, .inl f) => (n, .inl f)
  | (n, .inr (.inl f)) => (n, .inr (.inl f))
  | (n, .inr (.inr (.inl f))) => (n, .inr (.inr (.inl f)))
  | (n, .inr (.inr (.inr (.inl f)))) => (n, .inr (.inr (.inr (.inl f))))
  | (n, .inr (.inr (.inr (.inr f)))) => (n, .inr (.inr (.inr (.inr (sm_o G f)))))
def sm_e (G : sm_G) : sm_E → va_E
  | .inl (t, a) => .inl (G.2.2.2.2 t, sm_a G a)
  | .inr (c, fs) => .inr (c, fs.map (sm_v G))
def sm_w (G : sm_G) (h : sm_H) : va_W := h.mapIdx (fun k c => (G.1 k, sm_e G c))
def sm_A (G : sm_G) (n : Nat) : Nat → Prop := fun q => ∃ k, k < n ∧ q = G.1 k
def sm_tys (G : sm_G) : List (ClassId × FieldType) := [(G.2.2.2.2 0, .byte), (G.2.2.2.2 1, .int), (G.2.2.2.2 2, .long), (G.2.2.2.2 3, .object "UpdateDesk$Bytes")]
def sm_ws (M : sm_M) : List Cond := Cond.code M.1 M.2.1 M.2.2.1 M.2.2.2 :: sm_big
def sm_R (d : Nat) : Room := { frames := d, cells := 0, slots := 0, locals := 40 * d }
def sm_sx : List Nat := [102, 104, 106, 108, 110, 112]
def sm_st : List String := ["$set", "$unset", "$inc", "$push", "$pull", "$addToSet"]
def sm_sb : List (List Int32) := [[36, 115, 101, 116], [36, 117, 110, 115, 101, 116], [36, 105, 110, 99], [36, 112, 117, 115, 104], [36, 112, 117, 108, 108], [36, 97, 100, 100, 84, 111, 83, 101, 116]]
def sm_sl : List Nat := [4, 6, 4, 5, 5, 9]
def sm_K (G : sm_G) (n : Nat) (U : State) : Prop := va_K G.2.2.2.1 sm_cl (sm_tys G) U ∧ (∀ w ∈ sm_nest, va_Nw w U) ∧ (∀ i, i < 6 → vk_R "UpdateDesk$Plan" (sm_sx.getD i 0) (sm_st.getD i "") (G.2.1 i) U) ∧ vk_S 6 sm_sl sm_sb G.2.1 G.2.2.1 (sm_A G n) U U.heap ∧ va_Z "java/lang/String" "COMPACT_STRINGS" "Z" (.int 1) (sm_A G n) U U.heap ∧ va_Z "jdk/internal/util/Preconditions" "SIOOBE_FORMATTER" "Ljava/util/function/BiFunction;" (sm_v G (.float 0)) (sm_A G n) U U.heap
def sm_l (G : sm_G) (q : Nat × Value) : Nat × Value := (q.1, sm_v G q.2)
def sm_P (G : sm_G) (N : Nat) (av : List Value) (h : sm_H) : Array Value → State → Prop := va_Pc (av.map (sm_v G)) (fun U => va_P G.2.2.2.1 sm_cl (sm_w G h) U.heap ∧ va_D (sm_A G N) (sm_w G h) ∧ sm_K G N U)
def sm_Q (G : sm_G) (N : Nat) (r : Option Value) (h1 : sm_H) : Array Value → State → Outcome → State → Prop := fun _ st o t => o = .returned (r.map (sm_v G)) ∧ va_P G.2.2.2.1 sm_cl (sm_w G h1) t.heap ∧ va_F (sm_A G N) st t
/-- a method's contract at these arguments and cells: its answer and the cells behind it -/
def sm_C (N d : Nat) (M : sm_M) (av : List Value) (h : sm_H) (r : Option Value) (h1 : sm_H) : Prop := h.length = N → h1.length = N ∧ ∀ (l : Launch) (G : sm_G), Met l M.1 (sm_ws M) (sm_R d) (sm_P G N av h) (sm_Q G N r h1) 0 0 (sm_A G N)
def sm_X (G : sm_G) (N : Nat) (M : sm_M) (p : Program) (s : State) (m : MethodId) (args : Array Value) (meth : Method) (c : Code) : Prop := p.tables.exec = Jvm.exec ∧ c.code = M.2.1 ∧ meth.sig.returnType = M.2.2.2 ∧ meth.locks = false ∧ c.maxLocals = M.2.2.1 ∧ s.vm.findClass M.1.cls = some m.cls ∧ (∀ w ∈ sm_ws M, w.before args s = true) ∧ sm_K G N s
def sm_B (G : sm_G) (N : Nat) (h : sm_H) (s : State) (H : Heap) (locs : List Loc) : Prop := va_P G.2.2.2.1 sm_cl (sm_w G h) H ∧ va_D (sm_A G N) (sm_w G h) ∧ va_S (sm_A G N) s.heap H locs
def sm_S (N d : Nat) (M : sm_M) (pc : Nat) (L : List (Nat × Value)) (st : List Value) (h : sm_H) (r : Option Value) (h1 : sm_H) : Prop :=
  h.length = N → h1.length = N ∧ ∀ (l : Launch) (G : sm_G) (p : Program) (e : Env) (s : State) (m : MethodId) (args : Array Value) (below : List Frame) (meth : Method) (c : Code) (H : Heap) (locs : List Loc) (ls : Array Slot), sm_X G N M p s m args meth c → sm_B G N h s H locs → lv_has ls M.2.2.1 (L.map (sm_l G)) →
    W p l e (sm_R d) s m args below meth c H locs 0 0 (MQ below (sm_Q G N r h1) args s 0 0 (sm_A G N)) (F0 m pc ls (st.map (sm_v G)))
def sm_W (N d : Nat) (M : sm_M) (pc : Nat) (L : List (Nat × Value)) (st : List Value) (h : sm_H) (Q : Option Value → sm_H → Prop) : Prop := ∃ (r : Option Value) (h1 : sm_H), sm_S N d M pc L st h r h1 ∧ Q r h1
/-- a call's contract with what is wanted behind it -/
def sm_T (N d : Nat) (M : sm_M) (av : List Value) (h : sm_H) (Q : Option Value → sm_H → Prop) : Prop := ∃ (r : Option Value) (h1 : sm_H), sm_C N d M av h r h1 ∧ Q r h1
/-- the same of a method of an object at place b of kind ci -/
def sm_V (N d : Nat) (M : sm_M) (ci b : Nat) (av : List Value) (h : sm_H) (Q : Option Value → sm_H → Prop) : Prop := (∃ fs, h[b]? = some (.inr (ci, fs))) ∧ sm_T N d M (.ref b :: av) h Q
-- ===== reading and writing cells =====
def sm_g (h : sm_H) (a ci k : Nat) : Option Value := match h[a]? with
  | some (.inr (c, fs)) => if c = ci then fs[k]? else none
  | _ => none
def sm_p (h : sm_H) (a ci k : Nat) (v : Value) : Option sm_H := match h[a]? with
  | some (.inr (c, fs)) => if c = ci ∧ k < fs.length then some (h.set a (.inr (c, fs.set k v))) else none
  | _ => none
def sm_gi (h : sm_H) (a t : Nat) (i : Int32) : Option Int32 := match h[a]? with
  | some (.inl (t1, n, .inl f)) => if t1 = t ∧ 0 ≤ i.toInt ∧ i.toInt < n then some (f i.toNatClampNeg) else none
  | _ => none
def sm_gl (h : sm_H) (a t : Nat) (i : Int32) : Option Int64 := match h[a]? with
  | some (.inl (t1, n, .inr (.inl f))) => if t1 = t ∧ 0 ≤ i.toInt ∧ i.toInt < n then some (f i.toNatClampNeg) else none
  | _ => none
def sm_gq (h : sm_H) (a t : Nat) (i : Int32) : Option (Option Nat) := match h[a]? with
  | some (.inl (t1, n, .inr (.inr (.inr (.inr f))))) => if t1 = t ∧ 0 ≤ i.toInt ∧ i.toInt < n then some (f i.toNatClampNeg) else none
  | _ => none
def sm_n (h : sm_H) (a : Nat) : Option Int32 := match h[a]? with
  | some (.inl (t1, n, _)) => if t1 < 4 then some (Int32.ofNat n) else none
  | _ => none
def sm_pi (h : sm_H) (a : Nat) (i x : Int32) : Option sm_H := match h[a]? with
  | some (.inl (1, n, .inl f)) => if 0 ≤ i.toInt ∧ i.toInt < n then some (h.set a (.inl (1, n, .inl (upd f i.toNatClampNeg x)))) else none
  | _ => none
def sm_pb (h : sm_H) (a : Nat) (i x : Int32) : Option sm_H := match h[a]? with
  | some (.inl (0, n, .inl f)) => if 0 ≤ i.toInt ∧ i.toInt < n then some (h.set a (.inl (0, n, .inl (upd f i.toNatClampNeg (vp_nar .byte x))))) else none
  | _ => none
def sm_pl (h : sm_H) (a : Nat) (i : Int32) (x : Int64) : Option sm_H := match h[a]? with
  | some (.inl (2, n, .inr (.inl f))) => if 0 ≤ i.toInt ∧ i.toInt < n then some (h.set a (.inl (2, n, .inr (.inl (vp_updL f i.toNatClampNeg x))))) else none
  | _ => none
/-- System.arraycopy on bytes -/
def sm_cp (h : sm_H) (a : Nat) (sp : Int32) (b : Nat) (dp n : Int32) (h1 : sm_H) : Prop := ∃ (n0 n1 : Nat) (f g : Nat → Int32), h[a]? = some (.inl (0, n0, .inl f)) ∧ h[b]? = some (.inl (0, n1, .inl g)) ∧ 0 ≤ sp.toInt ∧ 0 ≤ dp.toInt ∧ 0 ≤ n.toInt ∧ sp.toInt + n.toInt ≤ n0 ∧ dp.toInt + n.toInt ≤ n1 ∧ (∀ i, i < n.toNatClampNeg → fits .byte (.int (f (sp.toNatClampNeg + i))) = true) ∧ h1 = h.set b (.inl (0, n1, .inl (va_cpy f g sp.toNatClampNeg dp.toNatClampNeg n.toNatClampNeg)))
-- ===== plain rows =====
theorem sm_rfc0 (o : Option Nat) : (va_rf o).category = 1 := by cases o <;> rfl
theorem sm_v_cat (G : sm_G) (v : Value) : (sm_v G v).category = v.category := by cases v <;> first | rfl | exact sm_rfc0 _
theorem sm_v_rf (G : sm_G) (o : Option Nat) : sm_v G (va_rf o) = va_rf (o.map G.1) := by cases o <;> rfl
theorem sm_w_at {G : sm_G} {h : sm_H} {k : Nat} {c : sm_E} (hk : h[k]? = some c) : (sm_w G h)[k]? = some (G.1 k, sm_e G c) := by
  simp [sm_w, List.getElem?_mapIdx, hk]
theorem sm_w_set {G : sm_G} {h : sm_H} {k : Nat} {c : sm_E} : (sm_w G h).set k (G.1 k, sm_e G c) = sm_w G (h.set k c) := by
  simp [sm_w, List.mapIdx_set]
theorem sm_w_len {G : sm_G} {h : sm_H} : (sm_w G h).length = h.length := by simp [sm_w]
theorem sm_filt (G : sm_G) (L : List (Nat × Value)) (P : Nat × Value → Bool) (hP : ∀ q, P (sm_l G q) = P q) : (L.map (sm_l G)).filter P = (L.filter P).map (sm_l G) := by
  rw [List.filter_map]
  congr 2
  funext q
  exact hP q
theorem sm_vpin {i : Int32} {n : Nat} (h0 : 0 ≤ i.toInt) (h1 : i.toInt < n) : vp_in i n := vp_in_iff.mpr ⟨h0, h1⟩
theorem sm_in_code (M : sm_M) {w : Cond} (h : w ∈ sm_big) : w ∈ sm_ws M := List.mem_cons_of_mem _ h
theorem sm_big_good {w : Cond} (h : w ∈ sm_big) : (w.onTables && w.keeps) = true ∨ ∃ ty, w = .arrayClass ty := good_of_word (List.mem_filter.mp h).2
theorem sm_goodIn (M M2 : sm_M) (h : Cond.code M2.1 M2.2.1 M2.2.2.1 M2.2.2.2 ∈ sm_big) : GoodIn (sm_ws M) (sm_ws M2) := by
  intro w hw
  rcases List.mem_cons.mp hw with rfl | hw
  · exact ⟨sm_in_code M h, sm_big_good h⟩
  · exact ⟨sm_in_code M hw, sm_big_good hw⟩
theorem sm_nest_go {w : Cond} (hw : w ∈ sm_nest) {s U : State} (hW : s.WarmedH U.vm) (h : va_Nw w s) : va_Nw w U := by
  have hm := (List.mem_filter.mp hw).2
  cases w <;> first | exact va_Nw.warmF hW h | exact va_Nw.warmM hW h | (simp [sm_isN] at hm)
theorem sm_nest_same {w : Cond} (hw : w ∈ sm_nest) {s U : State} (hv : s.vm = U.vm) (h : va_Nw w s) : va_Nw w U := by
  have hm := (List.mem_filter.mp hw).2
  cases w <;> first | exact va_Nw.same rfl hv h | (simp [sm_isN] at hm)
theorem sm_K.go {G : sm_G} {N : Nat} {s U : State} (hW : s.WarmedH U.vm) (hh : ∀ q : Nat, q < s.heap.size → ¬ sm_A G N q → U.heap[q]? = s.heap[q]?) (h : sm_K G N s) : sm_K G N U :=
  ⟨va_K.moved hW.alike h.1, fun w hw => sm_nest_go hw hW (h.2.1 w hw), fun i hi => (h.2.2.1 i hi).warm hW, vk_S.kept (vk_S.moved hW.alike h.2.2.2.1) hh, va_Z.kept (va_Z.moved hW.alike h.2.2.2.2.1) hh, va_Z.kept (va_Z.moved hW.alike h.2.2.2.2.2) hh⟩
theorem sm_K.same {G : sm_G} {N : Nat} {s U : State} (hv : s.vm = U.vm) (hh : U.heap = s.heap) (h : sm_K G N s) : sm_K G N U :=
  ⟨va_K.moved (by rw [hv]; exact Vm.Alike.refl U.vm) h.1, fun w hw => sm_nest_same hw hv (h.2.1 w hw), fun i hi => (h.2.2.1 i hi).same hv.symm, by rw [hh]; exact vk_S.moved (by rw [hv]; exact Vm.Alike.refl U.vm) h.2.2.2.1, by rw [hh]; exact va_Z.moved (by rw [hv]; exact Vm.Alike.refl U.vm) h.2.2.2.2.1, by rw [hh]; exact va_Z.moved (by rw [hv]; exact Vm.Alike.refl U.vm) h.2.2.2.2.2⟩
theorem sm_blind (G : sm_G) (N : Nat) (av : List Value) (h : sm_H) : FrameBlind (sm_P G N av h) := by
  intro a U g mk q
  obtain ⟨q0, q1, q2, q3⟩ := q
  exact ⟨q0, q1, q2, sm_K.same (s := U) (U := U.calling g mk a) rfl rfl q3⟩
theorem sm_D_go {G : sm_G} {N : Nat} {h h1 : sm_H} (e : h1.length = h.length) (hD : va_D (sm_A G N) (sm_w G h)) : va_D (sm_A G N) (sm_w G h1) := by
  have key : ∀ (k : Nat) (q : Nat × va_E), (sm_w G h1)[k]? = some q → ∃ q0, (sm_w G h)[k]? = some q0 ∧ q0.1 = q.1 := by
    intro k q hk
    have hl : k < h1.length := by
      have := (List.getElem?_eq_some_iff.mp hk).1
      rwa [sm_w_len] at this
    have h2 : h[k]? = some (h[k]'(by omega)) := List.getElem?_eq_getElem (by omega)
    have h3 : h1[k]? = some (h1[k]) := List.getElem?_eq_getElem hl
    rw [sm_w_at h3] at hk
    cases hk
    exact ⟨_, sm_w_at h2, rfl⟩
  refine ⟨fun i j x y hi hj hxy => ?_, fun k q hk => ?_⟩
  · obtain ⟨x0, a1, a2⟩ := key i x hi
    obtain ⟨y0, b1, b2⟩ := key j y hj
    exact hD.1 i j x0 y0 a1 b1 (by rw [a2, b2, hxy])
  · obtain ⟨q0, a1, a2⟩ := key k q hk
    rw [← a2]
    exact hD.2 k q0 a1
section Rows
variable {N d : Nat} {M : sm_M} {pc : Nat} {L : List (Nat × Value)} {st : List Value} {h : sm_H} {Q : Option Value → sm_H → Prop}
/-- rows that touch neither cells nor the list of variables -/
theorem sm_go {n : Nat} {st2 : List Value} (hk : ∀ (l : Launch) (G : sm_G) (p : Program) (e : Env) (s : State) (m : MethodId) (args : Array Value) (below : List Frame) (meth : Method) (c : Code) (H : Heap) (locs : List Loc) (ls : Array Slot) (Z : State → Prop), sm_X G N M p s m args meth c → lv_has ls M.2.2.1 (L.map (sm_l G)) →
      W p l e (sm_R d) s m args below meth c H locs 0 0 Z (F0 m n ls (st2.map (sm_v G))) → W p l e (sm_R d) s m args below meth c H locs 0 0 Z (F0 m pc ls (st.map (sm_v G))))
    (k : sm_W N d M n L st2 h Q) : sm_W N d M pc L st h Q := by
  obtain ⟨r, h1, k, hq⟩ := k
  exact ⟨r, h1, fun e0 => ⟨(k e0).1, fun l G p e s m args below meth c H locs ls X B hl => hk l G p e s m args below meth c H locs ls _ X hl ((k e0).2 l G p e s m args below meth c H locs ls X B hl)⟩, hq⟩
/-- rows that change the list of variables -/
theorem sm_goL {n : Nat} {st2 : List Value} {L2 : List (Nat × Value)} (hk : ∀ (l : Launch) (G : sm_G) (p : Program) (e : Env) (s : State) (m : MethodId) (args : Array Value) (below : List Frame) (meth : Method) (c : Code) (H : Heap) (locs : List Loc) (ls : Array Slot) (Z : State → Prop), sm_X G N M p s m args meth c → lv_has ls M.2.2.1 (L.map (sm_l G)) →
      (∀ ls2, lv_has ls2 M.2.2.1 (L2.map (sm_l G)) → W p l e (sm_R d) s m args below meth c H locs 0 0 Z (F0 m n ls2 (st2.map (sm_v G)))) → W p l e (sm_R d) s m args below meth c H locs 0 0 Z (F0 m pc ls (st.map (sm_v G))))
    (k : sm_W N d M n L2 st2 h Q) : sm_W N d M pc L st h Q := by
  obtain ⟨r, h1, k, hq⟩ := k
  exact ⟨r, h1, fun e0 => ⟨(k e0).1, fun l G p e s m args below meth c H locs ls X B hl => hk l G p e s m args below meth c H locs ls _ X hl (fun ls2 hl2 => (k e0).2 l G p e s m args below meth c H locs ls2 X B hl2)⟩, hq⟩
theorem sm_iconst {i : Int} {x : Int32} (n : Nat) (hd : decode M.2.1 pc = .ok (.iconst i, 1)) (hx : Int32.ofInt i = x) (hp : pc + 1 = n) (k : sm_W N d M n L (.int x :: st) h Q) : sm_W N d M pc L st h Q := by
  subst hp
  exact sm_go (fun l G p e s m args below meth c H locs ls Z X hl w => lv_iconst X.1 X.2.1 hd hx w) k
theorem sm_bipush {i : Int} {x : Int32} (n : Nat) (hd : decode M.2.1 pc = .ok (.bipush i, 2)) (hx : (Int8.ofInt i).toInt32 = x) (hp : pc + 2 = n) (k : sm_W N d M n L (.int x :: st) h Q) : sm_W N d M pc L st h Q := by
  subst hp
  exact sm_go (fun l G p e s m args below meth c H locs ls Z X hl w => lv_bipush X.1 X.2.1 hd hx w) k
theorem sm_sipush {i : Int} {x : Int32} (n : Nat) (hd : decode M.2.1 pc = .ok (.sipush i, 3)) (hx : (Int16.ofInt i).toInt32 = x) (hp : pc + 3 = n) (k : sm_W N d M n L (.int x :: st) h Q) : sm_W N d M pc L st h Q := by
  subst hp
  exact sm_go (fun l G p e s m args below meth c H locs ls Z X hl w => lv_sipush X.1 X.2.1 hd hx w) k
theorem sm_lconst {i : Fin 2} {x : Int64} (n : Nat) (hd : decode M.2.1 pc = .ok (.lconst i, 1)) (hx : Int64.ofNat (i : Nat) = x) (hp : pc + 1 = n) (k : sm_W N d M n L (.long x :: st) h Q) : sm_W N d M pc L st h Q := by
  subst hp
  exact sm_go (fun l G p e s m args below meth c H locs ls Z X hl w => lv_lconst X.1 X.2.1 hd hx w) k
theorem sm_ldc {i : Nat} {x : Int32} (n : Nat) (hd : decode M.2.1 pc = .ok (.ldc i, 2)) (hc : Cond.constant M.1.cls i x ∈ sm_big) (hp : pc + 2 = n) (k : sm_W N d M n L (.int x :: st) h Q) : sm_W N d M pc L st h Q := by
  subst hp
  exact sm_go (fun l G p e s m args below meth c H locs ls Z X hl w => lv_ldc X.1 X.2.1 X.2.2.2.2.2.1 (X.2.2.2.2.2.2.1 _ (sm_in_code M hc)) hd w) k
theorem sm_ldc2 {i : Nat} {x : Int64} (n : Nat) (hd : decode M.2.1 pc = .ok (.ldc2_w i, 3)) (hc : Cond.constantLong M.1.cls i x ∈ sm_big) (hp : pc + 3 = n) (k : sm_W N d M n L (.long x :: st) h Q) : sm_W N d M pc L st h Q := by
  subst hp
  exact sm_go (fun l G p e s m args below meth c H locs ls Z X hl w => lv_ldc2 X.1 X.2.1 X.2.2.2.2.2.1 (X.2.2.2.2.2.2.1 _ (sm_in_code M hc)) hd w) k
theorem sm_ldcS {i j : Nat} (n : Nat) (hd : decode M.2.1 pc = .ok (.ldc i, 2)) (hM : M.1.cls = "UpdateDesk$Plan") (hj : j < 6) (hi : sm_sx.getD j 0 = i) (hp : pc + 2 = n) (k : sm_W N d M n L (.retAddr j :: st) h Q) : sm_W N d M pc L st h Q := by
  subst hp
  subst hi
  exact sm_go (fun l G p e s m args below meth c H locs ls Z X hl w => va_ldcS (own := "UpdateDesk$Plan") (tx := sm_st.getD j "") X.1 X.2.1 (hM ▸ X.2.2.2.2.2.1) (X.2.2.2.2.2.2.2.2.2.1 j hj) hd (by rw [List.map_cons, show sm_v G (.retAddr j) = .ref (G.2.1 j) by simp only [sm_v]; rw [if_pos hj]] at w; exact w)) k
theorem sm_null (n : Nat) (hd : decode M.2.1 pc = .ok (.aconst_null, 1)) (hp : pc + 1 = n) (k : sm_W N d M n L (.null :: st) h Q) : sm_W N d M pc L st h Q := by
  subst hp
  exact sm_go (fun l G p e s m args below meth c H locs ls Z X hl w => lv_null X.1 X.2.1 hd w) k
end Rows
