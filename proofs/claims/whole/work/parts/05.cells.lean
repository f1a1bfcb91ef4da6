/-! rows that read and write cells -/
/-- in the pool of own, idx is field k of kind ci -/
def sm_fl (own : String) (idx ci k : Nat) : Prop := ∃ (C : String) (T : u_T) (n : Nat), sm_cl[ci]? = some (C, T, n) ∧ k < n ∧ (∀ w ∈ u_ws C T n, w ∈ sm_big) ∧ (T k).1 = C ∧ (Cond.fieldLink own idx C (T k).2.1 (T k).2.2.1 ∈ sm_big ∨ ∃ host, Cond.fieldLinkNest own idx C (T k).2.1 (T k).2.2.1 host ∈ sm_nest)
/-- the same of a field that may be written with values of type ty -/
def sm_fp (own : String) (idx ci k : Nat) (ty : FieldType) : Prop := ∃ (C : String) (T : u_T) (n : Nat) (ty0 : Nat → FieldType), sm_cl[ci]? = some (C, T, n) ∧ k < n ∧ (∀ w ∈ u_ws C T n, w ∈ sm_big) ∧ (T k).1 = C ∧ (Cond.fieldLink own idx C (T k).2.1 (T k).2.2.1 ∈ sm_big ∨ ∃ host, Cond.fieldLinkNest own idx C (T k).2.1 (T k).2.2.1 host ∈ sm_nest) ∧ (∀ k, k < n → parseFieldDescriptor (T k).2.2.1 = some (ty0 k)) ∧ (∀ a, a < n → ∀ b, b < n → a ≠ b → (T a).2.1 ≠ (T b).2.1) ∧ (T k).2.2.2 = false ∧ parseFieldDescriptor (T k).2.2.1 = some ty
theorem sm_g_spec {h : sm_H} {a ci k : Nat} {v : Value} (hg : sm_g h a ci k = some v) : ∃ fs, h[a]? = some (.inr (ci, fs)) ∧ fs[k]? = some v := by
  unfold sm_g at hg
  split at hg
  · rename_i c fs e
    split at hg
    · rename_i hc
      subst hc
      exact ⟨fs, e, hg⟩
    · cases hg
  · cases hg
theorem sm_p_spec {h h1 : sm_H} {a ci k : Nat} {v : Value} (hg : sm_p h a ci k v = some h1) : ∃ fs, h[a]? = some (.inr (ci, fs)) ∧ k < fs.length ∧ h1 = h.set a (.inr (ci, fs.set k v)) := by
  unfold sm_p at hg
  split at hg
  · rename_i c fs e
    split at hg
    · rename_i hc
      obtain ⟨hc, hk⟩ := hc
      subst hc
      cases hg
      exact ⟨fs, e, hk, rfl⟩
    · cases hg
  · cases hg
theorem sm_gi_spec {h : sm_H} {a t : Nat} {i x : Int32} (hg : sm_gi h a t i = some x) : ∃ (n : Nat) (f : Nat → Int32), h[a]? = some (.inl (t, n, .inl f)) ∧ vp_in i n ∧ f i.toNatClampNeg = x := by
  unfold sm_gi at hg
  split at hg
  · rename_i t1 n f e
    split at hg
    · rename_i hc
      obtain ⟨hc, h0, h1⟩ := hc
      subst hc
      cases hg
      exact ⟨n, f, e, sm_vpin h0 h1, rfl⟩
    · cases hg
  · cases hg
theorem sm_gl_spec {h : sm_H} {a t : Nat} {i : Int32} {x : Int64} (hg : sm_gl h a t i = some x) : ∃ (n : Nat) (f : Nat → Int64), h[a]? = some (.inl (t, n, .inr (.inl f))) ∧ vp_in i n ∧ f i.toNatClampNeg = x := by
  unfold sm_gl at hg
  split at hg
  · rename_i t1 n f e
    split at hg
    · rename_i hc
      obtain ⟨hc, h0, h1⟩ := hc
      subst hc
      cases hg
      exact ⟨n, f, e, sm_vpin h0 h1, rfl⟩
    · cases hg
  · cases hg
theorem sm_gq_spec {h : sm_H} {a t : Nat} {i : Int32} {x : Option Nat} (hg : sm_gq h a t i = some x) : ∃ (n : Nat) (f : Nat → Option Nat), h[a]? = some (.inl (t, n, .inr (.inr (.inr (.inr f))))) ∧ vp_in i n ∧ f i.toNatClampNeg = x := by
  unfold sm_gq at hg
  split at hg
  · rename_i t1 n f e
    split at hg
    · rename_i hc
      obtain ⟨hc, h0, h1⟩ := hc
      subst hc
      cases hg
      exact ⟨n, f, e, sm_vpin h0 h1, rfl⟩
    · cases hg
  · cases hg
theorem sm_n_spec {h : sm_H} {a : Nat} {x : Int32} (hg : sm_n h a = some x) : ∃ (t n : Nat) (y : _), t < 4 ∧ h[a]? = some (.inl (t, n, y)) ∧ Int32.ofNat n = x := by
  unfold sm_n at hg
  split at hg
  · rename_i t1 n y e
    split at hg
    · rename_i hc
      cases hg
      exact ⟨t1, n, y, hc, e, rfl⟩
    · cases hg
  · cases hg
theorem sm_pi_spec {h h1 : sm_H} {a : Nat} {i x : Int32} (hg : sm_pi h a i x = some h1) : ∃ (n : Nat) (f : Nat → Int32), h[a]? = some (.inl (1, n, .inl f)) ∧ vp_in i n ∧ h1 = h.set a (.inl (1, n, .inl (upd f i.toNatClampNeg x))) := by
  unfold sm_pi at hg
  split at hg
  · rename_i n f e
    split at hg
    · rename_i hc
      cases hg
      exact ⟨n, f, e, sm_vpin hc.1 hc.2, rfl⟩
    · cases hg
  · cases hg
theorem sm_pb_spec {h h1 : sm_H} {a : Nat} {i x : Int32} (hg : sm_pb h a i x = some h1) : ∃ (n : Nat) (f : Nat → Int32), h[a]? = some (.inl (0, n, .inl f)) ∧ vp_in i n ∧ h1 = h.set a (.inl (0, n, .inl (upd f i.toNatClampNeg (vp_nar .byte x)))) := by
  unfold sm_pb at hg
  split at hg
  · rename_i n f e
    split at hg
    · rename_i hc
      cases hg
      exact ⟨n, f, e, sm_vpin hc.1 hc.2, rfl⟩
    · cases hg
  · cases hg
theorem sm_pl_spec {h h1 : sm_H} {a : Nat} {i : Int32} {x : Int64} (hg : sm_pl h a i x = some h1) : ∃ (n : Nat) (f : Nat → Int64), h[a]? = some (.inl (2, n, .inr (.inl f))) ∧ vp_in i n ∧ h1 = h.set a (.inl (2, n, .inr (.inl (vp_updL f i.toNatClampNeg x)))) := by
  unfold sm_pl at hg
  split at hg
  · rename_i n f e
    split at hg
    · rename_i hc
      cases hg
      exact ⟨n, f, e, sm_vpin hc.1 hc.2, rfl⟩
    · cases hg
  · cases hg
section Rows3
variable {N d : Nat} {M : sm_M} {pc : Nat} {L : List (Nat × Value)} {st : List Value} {h : sm_H} {Q : Option Value → sm_H → Prop}
/-- rows that read cells -/
theorem sm_goR {n : Nat} {st2 : List Value} (hk : ∀ (l : Launch) (G : sm_G) (p : Program) (e : Env) (s : State) (m : MethodId) (args : Array Value) (below : List Frame) (meth : Method) (c : Code) (H : Heap) (locs : List Loc) (ls : Array Slot) (Z : State → Prop), sm_X G N M p s m args meth c → sm_B G N h s H locs → lv_has ls M.2.2.1 (L.map (sm_l G)) →
      W p l e (sm_R d) s m args below meth c H locs 0 0 Z (F0 m n ls (st2.map (sm_v G))) → W p l e (sm_R d) s m args below meth c H locs 0 0 Z (F0 m pc ls (st.map (sm_v G))))
    (k : sm_W N d M n L st2 h Q) : sm_W N d M pc L st h Q := by
  obtain ⟨r, h1, k, hq⟩ := k
  exact ⟨r, h1, fun e0 => ⟨(k e0).1, fun l G p e s m args below meth c H locs ls X B hl => hk l G p e s m args below meth c H locs ls _ X B hl ((k e0).2 l G p e s m args below meth c H locs ls X B hl)⟩, hq⟩
/-- rows that write a cell -/
theorem sm_goP {n : Nat} {st2 : List Value} {h2 : sm_H} (hlen : h2.length = h.length) (hk : ∀ (l : Launch) (G : sm_G) (p : Program) (e : Env) (s : State) (m : MethodId) (args : Array Value) (below : List Frame) (meth : Method) (c : Code) (H : Heap) (locs : List Loc) (ls : Array Slot) (Z : State → Prop), sm_X G N M p s m args meth c → sm_B G N h s H locs → lv_has ls M.2.2.1 (L.map (sm_l G)) →
      (∀ (H2 : Heap) (locs2 : List Loc), sm_B G N h2 s H2 locs2 → W p l e (sm_R d) s m args below meth c H2 locs2 0 0 Z (F0 m n ls (st2.map (sm_v G)))) → W p l e (sm_R d) s m args below meth c H locs 0 0 Z (F0 m pc ls (st.map (sm_v G))))
    (k : sm_W N d M n L st2 h2 Q) : sm_W N d M pc L st h Q := by
  obtain ⟨r, h1, k, hq⟩ := k
  exact ⟨r, h1, fun e0 => ⟨(k (hlen.trans e0)).1, fun l G p e s m args below meth c H locs ls X B hl => hk l G p e s m args below meth c H locs ls _ X B hl (fun H2 locs2 B2 => (k (hlen.trans e0)).2 l G p e s m args below meth c H2 locs2 ls X B2 hl)⟩, hq⟩
theorem sm_get {idx ci k a : Nat} {v : Value} (n : Nat) (hd : decode M.2.1 pc = .ok (.getfield idx, 3)) (hf : sm_fl M.1.cls idx ci k) (hg : sm_g h a ci k = some v) (hp : pc + 3 = n) (kk : sm_W N d M n L (v :: st) h Q) : sm_W N d M pc L (.ref a :: st) h Q := by
  subst hp
  obtain ⟨fs, hc, hv⟩ := sm_g_spec hg
  obtain ⟨C, T, n, hcl, hk, hu, hT, hl⟩ := hf
  refine sm_goR (fun l G p e s m args below meth c H locs ls Z X B hls w => ?_) kk
  have hts := X.2.2.2.2.2.2.1
  have hin : ∀ w ∈ u_ws C T n, w ∈ sm_ws M := fun w hw => sm_in_code M (hu w hw)
  have hv2 : (fs.map (sm_v G))[k]? = some (sm_v G v) := by rw [List.getElem?_map, hv]; rfl
  rcases hl with hl | ⟨host, hl⟩
  · exact va_get (own := M.1.cls) (ref := C) X.1 X.2.1 hts hin X.2.2.2.2.2.1 X.2.2.2.2.2.2.2.1 B.1 a (sm_w_at hc) hcl k hk (hts _ (sm_in_code M hl)) (by rw [hT]; exact fun _ q => q) hv2 hd w
  · exact va_getN (own := M.1.cls) (ref := C) X.1 X.2.1 hts hin X.2.2.2.2.2.1 X.2.2.2.2.2.2.2.1 B.1 a (sm_w_at hc) hcl k hk (va_Nw.use rfl (X.2.2.2.2.2.2.2.2.1 _ hl)) (by rw [hT]; exact fun _ q => q) hv2 hd w
theorem sm_put {idx ci k a : Nat} {v : Value} {ty : FieldType} {h2 : sm_H} (n : Nat) (hd : decode M.2.1 pc = .ok (.putfield idx, 3)) (hf : sm_fp M.1.cls idx ci k ty) (hs : ∀ G, sm_v G v = v) (hn : narrow ty v = v) (ht : fits ty v = true) (hg : sm_p h a ci k v = some h2) (hp : pc + 3 = n) (kk : sm_W N d M n L st h2 Q) : sm_W N d M pc L (v :: .ref a :: st) h Q := by
  subst hp
  obtain ⟨fs, hc, hv, rfl⟩ := sm_p_spec hg
  obtain ⟨C, T, n, ty0, hcl, hk, hu, hT, hl, hty, hnm, hfin, hd2⟩ := hf
  refine sm_goP (List.length_set ..) (fun l G p e s m args below meth c H locs ls Z X B hls w => ?_) kk
  have hts := X.2.2.2.2.2.2.1
  have hin : ∀ w ∈ u_ws C T n, w ∈ sm_ws M := fun w hw => sm_in_code M (hu w hw)
  have hv2 : k < (fs.map (sm_v G)).length := by rw [List.length_map]; exact hv
  have he : (sm_w G h).set a (G.1 a, .inr (ci, (fs.map (sm_v G)).set k v)) = sm_w G (h.set a (.inr (ci, fs.set k v))) := by
    rw [← sm_w_set]
    simp only [sm_e, List.map_set, hs G]
  show W p l e (sm_R d) s m args below meth c H locs 0 0 Z (F0 m pc ls (sm_v G v :: .ref (G.1 a) :: st.map (sm_v G)))
  rw [hs G]
  rcases hl with hl | ⟨host, hl⟩
  · exact va_put (own := M.1.cls) (ref := C) X.1 X.2.1 hts hin ty0 hty hnm X.2.2.2.2.2.1 X.2.2.2.2.2.2.2.1 B.1 B.2.1 B.2.2 a (sm_w_at hc) hcl k hk (hts _ (sm_in_code M hl)) (by rw [hT]; exact fun _ q => q) hfin hd2 hn ht hv2 hd (fun H1 locs1 a1 a2 a3 => w H1 locs1 ⟨he ▸ a1, he ▸ a2, a3⟩)
  · exact va_putN (own := M.1.cls) (ref := C) X.1 X.2.1 hts hin ty0 hty hnm X.2.2.2.2.2.1 X.2.2.2.2.2.2.2.1 B.1 B.2.1 B.2.2 a (sm_w_at hc) hcl k hk (va_Nw.use rfl (X.2.2.2.2.2.2.2.2.1 _ hl)) (by rw [hT]; exact fun _ q => q) hfin hd2 hn ht hv2 hd (fun H1 locs1 a1 a2 a3 => w H1 locs1 ⟨he ▸ a1, he ▸ a2, a3⟩)
theorem sm_iald {a : Nat} {i x : Int32} (n : Nat) (hd : decode M.2.1 pc = .ok (.iaload, 1)) (hg : sm_gi h a 1 i = some x) (hp : pc + 1 = n) (kk : sm_W N d M n L (.int x :: st) h Q) : sm_W N d M pc L (.int i :: .ref a :: st) h Q := by
  subst hp
  obtain ⟨m0, f, hc, hin, rfl⟩ := sm_gi_spec hg
  exact sm_goR (fun l G p e s m args below meth c H locs ls Z X B hls w => va_iald X.1 X.2.1 X.2.2.2.2.2.2.2.1 B.1 a 1 (sm_w_at hc) rfl hin hd w) kk
theorem sm_bald {a : Nat} {i x : Int32} (n : Nat) (hd : decode M.2.1 pc = .ok (.baload, 1)) (hg : sm_gi h a 0 i = some x) (hp : pc + 1 = n) (kk : sm_W N d M n L (.int x :: st) h Q) : sm_W N d M pc L (.int i :: .ref a :: st) h Q := by
  subst hp
  obtain ⟨m0, f, hc, hin, rfl⟩ := sm_gi_spec hg
  exact sm_goR (fun l G p e s m args below meth c H locs ls Z X B hls w => va_bald X.1 X.2.1 X.2.2.2.2.2.2.2.1 B.1 a 0 (sm_w_at hc) rfl hin hd w) kk
theorem sm_lald {a : Nat} {i : Int32} {x : Int64} (n : Nat) (hd : decode M.2.1 pc = .ok (.laload, 1)) (hg : sm_gl h a 2 i = some x) (hp : pc + 1 = n) (kk : sm_W N d M n L (.long x :: st) h Q) : sm_W N d M pc L (.int i :: .ref a :: st) h Q := by
  subst hp
  obtain ⟨m0, f, hc, hin, rfl⟩ := sm_gl_spec hg
  exact sm_goR (fun l G p e s m args below meth c H locs ls Z X B hls w => va_lald X.1 X.2.1 X.2.2.2.2.2.2.2.1 B.1 a 2 (sm_w_at hc) rfl hin hd w) kk
theorem sm_aald {a : Nat} {i : Int32} {x : Option Nat} (n : Nat) (hd : decode M.2.1 pc = .ok (.aaload, 1)) (hg : sm_gq h a 3 i = some x) (hp : pc + 1 = n) (kk : sm_W N d M n L (va_rf x :: st) h Q) : sm_W N d M pc L (.int i :: .ref a :: st) h Q := by
  subst hp
  obtain ⟨m0, f, hc, hin, rfl⟩ := sm_gq_spec hg
  refine sm_goR (fun l G p e s m args below meth c H locs ls Z X B hls w => ?_) kk
  refine va_aldq X.1 X.2.1 X.2.2.2.2.2.2.2.1 B.1 a 3 (C := "UpdateDesk$Bytes") (f := sm_o G f) (sm_w_at hc) rfl hin hd ?_
  rw [List.map_cons, sm_v_rf] at w
  exact w
theorem sm_alen {a : Nat} {x : Int32} (n : Nat) (hd : decode M.2.1 pc = .ok (.arraylength, 1)) (hg : sm_n h a = some x) (hp : pc + 1 = n) (kk : sm_W N d M n L (.int x :: st) h Q) : sm_W N d M pc L (.ref a :: st) h Q := by
  subst hp
  obtain ⟨t, m0, y, ht, hc, rfl⟩ := sm_n_spec hg
  refine sm_goR (fun l G p e s m args below meth c H locs ls Z X B hls w => ?_) kk
  have h1 : (sm_a G (m0, y)).1 = m0 := by rcases y with y | y | y | y | y <;> rfl
  have h2 : ∃ ty, (sm_tys G)[t]? = some (G.2.2.2.2 t, ty) := by
    match t, ht with
    | 0, _ => exact ⟨_, rfl⟩
    | 1, _ => exact ⟨_, rfl⟩
    | 2, _ => exact ⟨_, rfl⟩
    | 3, _ => exact ⟨_, rfl⟩
  obtain ⟨ty, h2⟩ := h2
  exact va_alen X.1 X.2.1 X.2.2.2.2.2.2.2.1 B.1 a t (x := sm_a G (m0, y)) (sm_w_at hc) h2 (by rw [h1]) hd w
theorem sm_iast {a : Nat} {i x : Int32} {h2 : sm_H} (n : Nat) (hd : decode M.2.1 pc = .ok (.iastore, 1)) (hg : sm_pi h a i x = some h2) (hp : pc + 1 = n) (kk : sm_W N d M n L st h2 Q) : sm_W N d M pc L (.int x :: .int i :: .ref a :: st) h Q := by
  subst hp
  obtain ⟨m0, f, hc, hin, rfl⟩ := sm_pi_spec hg
  refine sm_goP (List.length_set ..) (fun l G p e s m args below meth c H locs ls Z X B hls w => ?_) kk
  have he : (sm_w G h).set a (G.1 a, .inl (G.2.2.2.2 1, m0, .inl (upd f i.toNatClampNeg x))) = sm_w G (h.set a (.inl (1, m0, .inl (upd f i.toNatClampNeg x)))) := by rw [← sm_w_set]; rfl
  exact va_iast X.1 X.2.1 X.2.2.2.2.2.2.2.1 B.1 B.2.1 B.2.2 a 1 (sm_w_at hc) rfl hin hd (fun H1 locs1 a1 a2 a3 => w H1 locs1 ⟨he ▸ a1, he ▸ a2, a3⟩)
theorem sm_bast {a : Nat} {i x : Int32} {h2 : sm_H} (n : Nat) (hd : decode M.2.1 pc = .ok (.bastore, 1)) (hg : sm_pb h a i x = some h2) (hp : pc + 1 = n) (kk : sm_W N d M n L st h2 Q) : sm_W N d M pc L (.int x :: .int i :: .ref a :: st) h Q := by
  subst hp
  obtain ⟨m0, f, hc, hin, rfl⟩ := sm_pb_spec hg
  refine sm_goP (List.length_set ..) (fun l G p e s m args below meth c H locs ls Z X B hls w => ?_) kk
  have he : (sm_w G h).set a (G.1 a, .inl (G.2.2.2.2 0, m0, .inl (upd f i.toNatClampNeg (vp_nar .byte x)))) = sm_w G (h.set a (.inl (0, m0, .inl (upd f i.toNatClampNeg (vp_nar .byte x))))) := by rw [← sm_w_set]; rfl
  exact va_bast X.1 X.2.1 X.2.2.2.2.2.2.2.1 B.1 B.2.1 B.2.2 a 0 (sm_w_at hc) rfl hin hd (fun H1 locs1 a1 a2 a3 => w H1 locs1 ⟨he ▸ a1, he ▸ a2, a3⟩)
theorem sm_last {a : Nat} {i : Int32} {x : Int64} {h2 : sm_H} (n : Nat) (hd : decode M.2.1 pc = .ok (.lastore, 1)) (hg : sm_pl h a i x = some h2) (hp : pc + 1 = n) (kk : sm_W N d M n L st h2 Q) : sm_W N d M pc L (.long x :: .int i :: .ref a :: st) h Q := by
  subst hp
  obtain ⟨m0, f, hc, hin, rfl⟩ := sm_pl_spec hg
  refine sm_goP (List.length_set ..) (fun l G p e s m args below meth c H locs ls Z X B hls w => ?_) kk
  have he : (sm_w G h).set a (G.1 a, .inl (G.2.2.2.2 2, m0, .inr (.inl (vp_updL f i.toNatClampNeg x)))) = sm_w G (h.set a (.inl (2, m0, .inr (.inl (vp_updL f i.toNatClampNeg x))))) := by rw [← sm_w_set]; rfl
  exact va_last X.1 X.2.1 X.2.2.2.2.2.2.2.1 B.1 B.2.1 B.2.2 a 2 (sm_w_at hc) rfl hin hd (fun H1 locs1 a1 a2 a3 => w H1 locs1 ⟨he ▸ a1, he ▸ a2, a3⟩)
end Rows3
