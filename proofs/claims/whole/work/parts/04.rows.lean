section Rows2
variable {N d : Nat} {M : sm_M} {pc : Nat} {L : List (Nat × Value)} {st : List Value} {h : sm_H} {Q : Option Value → sm_H → Prop}
theorem sm_at {G : sm_G} {ls : Array Slot} {nL : Nat} (hl : lv_has ls nL (L.map (sm_l G))) (j : Nat) {i : Nat} {v : Value} (hj : L[j]? = some (i, v)) : ls[i]? = some (.val (sm_v G v)) := lv_at hl j (by rw [List.getElem?_map, hj]; rfl)
theorem sm_f1 (G : sm_G) (i : Nat) (q : Nat × Value) : (fun q : Nat × Value => !(q.1 == i) && !(q.1 + 1 == i && q.2.category == 2)) (sm_l G q) = (fun q : Nat × Value => !(q.1 == i) && !(q.1 + 1 == i && q.2.category == 2)) q := by
  simp only [sm_l, sm_v_cat]
theorem sm_iload_n {k : Fin 4} {i : Nat} {x : Int32} (n j : Nat) (hd : decode M.2.1 pc = .ok (.iload_n k, 1)) (hi : (k : Nat) = i) (hj : L[j]? = some (i, .int x)) (hp : pc + 1 = n) (k : sm_W N d M n L (.int x :: st) h Q) : sm_W N d M pc L st h Q := by
  subst hp
  exact sm_go (fun l G p e s m args below meth c H locs ls Z X hl w => lv_iload_n X.1 X.2.1 hd hi (sm_at hl j hj) w) k
theorem sm_iload {i : Nat} {x : Int32} (n j : Nat) (hd : decode M.2.1 pc = .ok (.iload i, 2)) (hj : L[j]? = some (i, .int x)) (hp : pc + 2 = n) (k : sm_W N d M n L (.int x :: st) h Q) : sm_W N d M pc L st h Q := by
  subst hp
  exact sm_go (fun l G p e s m args below meth c H locs ls Z X hl w => lv_iload X.1 X.2.1 hd (sm_at hl j hj) w) k
theorem sm_lload_n {k : Fin 4} {i : Nat} {x : Int64} (n j : Nat) (hd : decode M.2.1 pc = .ok (.lload_n k, 1)) (hi : (k : Nat) = i) (hj : L[j]? = some (i, .long x)) (hp : pc + 1 = n) (k : sm_W N d M n L (.long x :: st) h Q) : sm_W N d M pc L st h Q := by
  subst hp
  exact sm_go (fun l G p e s m args below meth c H locs ls Z X hl w => lv_lload_n X.1 X.2.1 hd hi (sm_at hl j hj) w) k
theorem sm_lload {i : Nat} {x : Int64} (n j : Nat) (hd : decode M.2.1 pc = .ok (.lload i, 2)) (hj : L[j]? = some (i, .long x)) (hp : pc + 2 = n) (k : sm_W N d M n L (.long x :: st) h Q) : sm_W N d M pc L st h Q := by
  subst hp
  exact sm_go (fun l G p e s m args below meth c H locs ls Z X hl w => lv_lload X.1 X.2.1 hd (sm_at hl j hj) w) k
theorem sm_aload_n {k : Fin 4} {i : Nat} {x : Nat} (n j : Nat) (hd : decode M.2.1 pc = .ok (.aload_n k, 1)) (hi : (k : Nat) = i) (hj : L[j]? = some (i, .ref x)) (hp : pc + 1 = n) (k : sm_W N d M n L (.ref x :: st) h Q) : sm_W N d M pc L st h Q := by
  subst hp
  exact sm_go (fun l G p e s m args below meth c H locs ls Z X hl w => lv_aload_n X.1 X.2.1 hd hi (sm_at hl j hj) w) k
theorem sm_aload {i : Nat} {x : Nat} (n j : Nat) (hd : decode M.2.1 pc = .ok (.aload i, 2)) (hj : L[j]? = some (i, .ref x)) (hp : pc + 2 = n) (k : sm_W N d M n L (.ref x :: st) h Q) : sm_W N d M pc L st h Q := by
  subst hp
  exact sm_go (fun l G p e s m args below meth c H locs ls Z X hl w => lv_aload X.1 X.2.1 hd (sm_at hl j hj) w) k
theorem sm_aload_nQ {k : Fin 4} {i : Nat} {x : Option Nat} (n j : Nat) (hd : decode M.2.1 pc = .ok (.aload_n k, 1)) (hi : (k : Nat) = i) (hj : L[j]? = some (i, va_rf x)) (hp : pc + 1 = n) (k : sm_W N d M n L (va_rf x :: st) h Q) : sm_W N d M pc L st h Q := by
  subst hp
  refine sm_go (fun l G p e s m args below meth c H locs ls Z X hl w => ?_) k
  have hg := sm_at hl j hj
  cases x with
  | none => exact lv_aload_nN X.1 X.2.1 hd hi hg w
  | some a => exact lv_aload_n X.1 X.2.1 hd hi hg w
theorem sm_aload_nS {k : Fin 4} {i : Nat} {x : Nat} (n j : Nat) (hd : decode M.2.1 pc = .ok (.aload_n k, 1)) (hi : (k : Nat) = i) (hj : L[j]? = some (i, .retAddr x)) (hp : pc + 1 = n) (k : sm_W N d M n L (.retAddr x :: st) h Q) : sm_W N d M pc L st h Q := by
  subst hp
  exact sm_go (fun l G p e s m args below meth c H locs ls Z X hl w => lv_aload_n X.1 X.2.1 hd hi (sm_at hl j hj) w) k
theorem sm_istore_n {k : Fin 4} {i : Nat} {x : Int32} (n : Nat) (L2 : List (Nat × Value)) (hd : decode M.2.1 pc = .ok (.istore_n k, 1)) (hi : (k : Nat) = i) (hn : i < M.2.2.1) (hL : (i, Value.int x) :: L.filter (fun q : Nat × Value => !(q.1 == i) && !(q.1 + 1 == i && q.2.category == 2)) = L2) (hp : pc + 1 = n) (k : sm_W N d M n L2 st h Q) : sm_W N d M pc L (.int x :: st) h Q := by
  subst hp
  exact sm_goL (fun l G p e s m args below meth c H locs ls Z X hl w => lv_istore_n X.1 X.2.1 hd hi hl hn (by rw [← hL, List.map_cons, sm_filt G L _ (sm_f1 G i)]; rfl) w) k
theorem sm_istore {i : Nat} {x : Int32} (n : Nat) (L2 : List (Nat × Value)) (hd : decode M.2.1 pc = .ok (.istore i, 2)) (hn : i < M.2.2.1) (hL : (i, Value.int x) :: L.filter (fun q : Nat × Value => !(q.1 == i) && !(q.1 + 1 == i && q.2.category == 2)) = L2) (hp : pc + 2 = n) (k : sm_W N d M n L2 st h Q) : sm_W N d M pc L (.int x :: st) h Q := by
  subst hp
  exact sm_goL (fun l G p e s m args below meth c H locs ls Z X hl w => lv_istore X.1 X.2.1 hd hl hn (by rw [← hL, List.map_cons, sm_filt G L _ (sm_f1 G i)]; rfl) w) k
theorem sm_astore_n {k : Fin 4} {i : Nat} {x : Nat} (n : Nat) (L2 : List (Nat × Value)) (hd : decode M.2.1 pc = .ok (.astore_n k, 1)) (hi : (k : Nat) = i) (hn : i < M.2.2.1) (hL : (i, Value.ref x) :: L.filter (fun q : Nat × Value => !(q.1 == i) && !(q.1 + 1 == i && q.2.category == 2)) = L2) (hp : pc + 1 = n) (k : sm_W N d M n L2 st h Q) : sm_W N d M pc L (.ref x :: st) h Q := by
  subst hp
  exact sm_goL (fun l G p e s m args below meth c H locs ls Z X hl w => lv_astore_n X.1 X.2.1 hd hi hl hn (by rw [← hL, List.map_cons, sm_filt G L _ (sm_f1 G i)]; rfl) w) k
theorem sm_astore {i : Nat} {x : Nat} (n : Nat) (L2 : List (Nat × Value)) (hd : decode M.2.1 pc = .ok (.astore i, 2)) (hn : i < M.2.2.1) (hL : (i, Value.ref x) :: L.filter (fun q : Nat × Value => !(q.1 == i) && !(q.1 + 1 == i && q.2.category == 2)) = L2) (hp : pc + 2 = n) (k : sm_W N d M n L2 st h Q) : sm_W N d M pc L (.ref x :: st) h Q := by
  subst hp
  exact sm_goL (fun l G p e s m args below meth c H locs ls Z X hl w => lv_astore X.1 X.2.1 hd hl hn (by rw [← hL, List.map_cons, sm_filt G L _ (sm_f1 G i)]; rfl) w) k
theorem sm_astore_nQ {k : Fin 4} {i : Nat} {x : Option Nat} (n : Nat) (L2 : List (Nat × Value)) (hd : decode M.2.1 pc = .ok (.astore_n k, 1)) (hi : (k : Nat) = i) (hn : i < M.2.2.1) (hL : (i, va_rf x) :: L.filter (fun q : Nat × Value => !(q.1 == i) && !(q.1 + 1 == i && q.2.category == 2)) = L2) (hp : pc + 1 = n) (k : sm_W N d M n L2 st h Q) : sm_W N d M pc L (va_rf x :: st) h Q := by
  subst hp
  refine sm_goL (fun l G p e s m args below meth c H locs ls Z X hl w => ?_) k
  cases x with
  | none => exact lv_astore_nN X.1 X.2.1 hd hi hl hn (by rw [← hL, List.map_cons, sm_filt G L _ (sm_f1 G i)]; rfl) w
  | some a => exact lv_astore_n X.1 X.2.1 hd hi hl hn (by rw [← hL, List.map_cons, sm_filt G L _ (sm_f1 G i)]; rfl) w
theorem sm_f2 (G : sm_G) (i : Nat) (q : Nat × Value) : (fun q : Nat × Value => !(q.1 == i) && (!(q.1 == i + 1) && !(q.1 + 1 == i && q.2.category == 2))) (sm_l G q) = (fun q : Nat × Value => !(q.1 == i) && (!(q.1 == i + 1) && !(q.1 + 1 == i && q.2.category == 2))) q := by
  simp only [sm_l, sm_v_cat]
theorem sm_lstore_n {k : Fin 4} {i : Nat} {x : Int64} (n : Nat) (L2 : List (Nat × Value)) (hd : decode M.2.1 pc = .ok (.lstore_n k, 1)) (hi : (k : Nat) = i) (hn : i + 1 < M.2.2.1) (hL : (i, Value.long x) :: L.filter (fun q : Nat × Value => !(q.1 == i) && (!(q.1 == i + 1) && !(q.1 + 1 == i && q.2.category == 2))) = L2) (hp : pc + 1 = n) (k : sm_W N d M n L2 st h Q) : sm_W N d M pc L (.long x :: st) h Q := by
  subst hp
  exact sm_goL (fun l G p e s m args below meth c H locs ls Z X hl w => lv_lstore_n X.1 X.2.1 hd hi hl hn (by rw [← hL, List.map_cons, sm_filt G L _ (sm_f2 G i)]; rfl) w) k
theorem sm_lstore {i : Nat} {x : Int64} (n : Nat) (L2 : List (Nat × Value)) (hd : decode M.2.1 pc = .ok (.lstore i, 2)) (hn : i + 1 < M.2.2.1) (hL : (i, Value.long x) :: L.filter (fun q : Nat × Value => !(q.1 == i) && (!(q.1 == i + 1) && !(q.1 + 1 == i && q.2.category == 2))) = L2) (hp : pc + 2 = n) (k : sm_W N d M n L2 st h Q) : sm_W N d M pc L (.long x :: st) h Q := by
  subst hp
  exact sm_goL (fun l G p e s m args below meth c H locs ls Z X hl w => lv_lstore X.1 X.2.1 hd hl hn (by rw [← hL, List.map_cons, sm_filt G L _ (sm_f2 G i)]; rfl) w) k
theorem sm_iinc {i j : Nat} {z : Int} {x y : Int32} (n : Nat) (L2 : List (Nat × Value)) (hd : decode M.2.1 pc = .ok (.iinc i z, 3)) (hj : L[j]? = some (i, .int x)) (hy : x + Int32.ofInt z = y) (hn : i < M.2.2.1) (hL : (i, Value.int y) :: L.filter (fun q : Nat × Value => !(q.1 == i) && !(q.1 + 1 == i && q.2.category == 2)) = L2) (hp : pc + 3 = n) (k : sm_W N d M n L2 st h Q) : sm_W N d M pc L st h Q := by
  subst hp
  exact sm_goL (fun l G p e s m args below meth c H locs ls Z X hl w => lv_iinc (k := j) X.1 X.2.1 hd hl (by rw [List.getElem?_map, hj]; rfl) hy hn (by rw [← hL, List.map_cons, sm_filt G L _ (sm_f1 G i)]; rfl) w) k
theorem sm_iadd {x y : Int32} (n : Nat) (hd : decode M.2.1 pc = .ok (.iadd, 1)) (hp : pc + 1 = n) (k : sm_W N d M n L (.int (x + y) :: st) h Q) : sm_W N d M pc L (.int y :: .int x :: st) h Q := by
  subst hp
  exact sm_go (fun l G p e s m args below meth c H locs ls Z X hl w => lv_iadd X.1 X.2.1 hd w) k
theorem sm_isub {x y : Int32} (n : Nat) (hd : decode M.2.1 pc = .ok (.isub, 1)) (hp : pc + 1 = n) (k : sm_W N d M n L (.int (x - y) :: st) h Q) : sm_W N d M pc L (.int y :: .int x :: st) h Q := by
  subst hp
  exact sm_go (fun l G p e s m args below meth c H locs ls Z X hl w => lv_isub X.1 X.2.1 hd w) k
theorem sm_imul {x y : Int32} (n : Nat) (hd : decode M.2.1 pc = .ok (.imul, 1)) (hp : pc + 1 = n) (k : sm_W N d M n L (.int (x * y) :: st) h Q) : sm_W N d M pc L (.int y :: .int x :: st) h Q := by
  subst hp
  exact sm_go (fun l G p e s m args below meth c H locs ls Z X hl w => lv_imul X.1 X.2.1 hd w) k
theorem sm_iand {x y : Int32} (n : Nat) (hd : decode M.2.1 pc = .ok (.iand, 1)) (hp : pc + 1 = n) (k : sm_W N d M n L (.int (x &&& y) :: st) h Q) : sm_W N d M pc L (.int y :: .int x :: st) h Q := by
  subst hp
  exact sm_go (fun l G p e s m args below meth c H locs ls Z X hl w => lv_iand X.1 X.2.1 hd w) k
theorem sm_ior {x y : Int32} (n : Nat) (hd : decode M.2.1 pc = .ok (.ior, 1)) (hp : pc + 1 = n) (k : sm_W N d M n L (.int (x ||| y) :: st) h Q) : sm_W N d M pc L (.int y :: .int x :: st) h Q := by
  subst hp
  exact sm_go (fun l G p e s m args below meth c H locs ls Z X hl w => lv_ior X.1 X.2.1 hd w) k
theorem sm_ixor {x y : Int32} (n : Nat) (hd : decode M.2.1 pc = .ok (.ixor, 1)) (hp : pc + 1 = n) (k : sm_W N d M n L (.int (x ^^^ y) :: st) h Q) : sm_W N d M pc L (.int y :: .int x :: st) h Q := by
  subst hp
  exact sm_go (fun l G p e s m args below meth c H locs ls Z X hl w => lv_ixor X.1 X.2.1 hd w) k
theorem sm_ishl {x y : Int32} (n : Nat) (hd : decode M.2.1 pc = .ok (.ishl, 1)) (hp : pc + 1 = n) (k : sm_W N d M n L (.int (x <<< (y &&& 31)) :: st) h Q) : sm_W N d M pc L (.int y :: .int x :: st) h Q := by
  subst hp
  exact sm_go (fun l G p e s m args below meth c H locs ls Z X hl w => lv_ishl X.1 X.2.1 hd w) k
theorem sm_ishr {x y : Int32} (n : Nat) (hd : decode M.2.1 pc = .ok (.ishr, 1)) (hp : pc + 1 = n) (k : sm_W N d M n L (.int (x >>> (y &&& 31)) :: st) h Q) : sm_W N d M pc L (.int y :: .int x :: st) h Q := by
  subst hp
  exact sm_go (fun l G p e s m args below meth c H locs ls Z X hl w => lv_ishr X.1 X.2.1 hd w) k
theorem sm_idiv {x y : Int32} (n : Nat) (hd : decode M.2.1 pc = .ok (.idiv, 1)) (hne : ¬ y = 0) (hp : pc + 1 = n) (k : sm_W N d M n L (.int (x / y) :: st) h Q) : sm_W N d M pc L (.int y :: .int x :: st) h Q := by
  subst hp
  exact sm_go (fun l G p e s m args below meth c H locs ls Z X hl w => lv_idiv X.1 X.2.1 hd hne w) k
theorem sm_irem {x y : Int32} (n : Nat) (hd : decode M.2.1 pc = .ok (.irem, 1)) (hne : ¬ y = 0) (hp : pc + 1 = n) (k : sm_W N d M n L (.int (x - x / y * y) :: st) h Q) : sm_W N d M pc L (.int y :: .int x :: st) h Q := by
  subst hp
  exact sm_go (fun l G p e s m args below meth c H locs ls Z X hl w => lv_irem X.1 X.2.1 hd hne w) k
theorem sm_ineg {x : Int32} (n : Nat) (hd : decode M.2.1 pc = .ok (.ineg, 1)) (hp : pc + 1 = n) (k : sm_W N d M n L (.int (-x) :: st) h Q) : sm_W N d M pc L (.int x :: st) h Q := by
  subst hp
  exact sm_go (fun l G p e s m args below meth c H locs ls Z X hl w => lv_ineg X.1 X.2.1 hd w) k
theorem sm_ladd {x y : Int64} (n : Nat) (hd : decode M.2.1 pc = .ok (.ladd, 1)) (hp : pc + 1 = n) (k : sm_W N d M n L (.long (x + y) :: st) h Q) : sm_W N d M pc L (.long y :: .long x :: st) h Q := by
  subst hp
  exact sm_go (fun l G p e s m args below meth c H locs ls Z X hl w => lv_ladd X.1 X.2.1 hd w) k
theorem sm_lsub {x y : Int64} (n : Nat) (hd : decode M.2.1 pc = .ok (.lsub, 1)) (hp : pc + 1 = n) (k : sm_W N d M n L (.long (x - y) :: st) h Q) : sm_W N d M pc L (.long y :: .long x :: st) h Q := by
  subst hp
  exact sm_go (fun l G p e s m args below meth c H locs ls Z X hl w => lv_lsub X.1 X.2.1 hd w) k
theorem sm_lmul {x y : Int64} (n : Nat) (hd : decode M.2.1 pc = .ok (.lmul, 1)) (hp : pc + 1 = n) (k : sm_W N d M n L (.long (x * y) :: st) h Q) : sm_W N d M pc L (.long y :: .long x :: st) h Q := by
  subst hp
  exact sm_go (fun l G p e s m args below meth c H locs ls Z X hl w => lv_lmul X.1 X.2.1 hd w) k
theorem sm_land {x y : Int64} (n : Nat) (hd : decode M.2.1 pc = .ok (.land, 1)) (hp : pc + 1 = n) (k : sm_W N d M n L (.long (x &&& y) :: st) h Q) : sm_W N d M pc L (.long y :: .long x :: st) h Q := by
  subst hp
  exact sm_go (fun l G p e s m args below meth c H locs ls Z X hl w => lv_land X.1 X.2.1 hd w) k
theorem sm_lor {x y : Int64} (n : Nat) (hd : decode M.2.1 pc = .ok (.lor, 1)) (hp : pc + 1 = n) (k : sm_W N d M n L (.long (x ||| y) :: st) h Q) : sm_W N d M pc L (.long y :: .long x :: st) h Q := by
  subst hp
  exact sm_go (fun l G p e s m args below meth c H locs ls Z X hl w => lv_lor X.1 X.2.1 hd w) k
theorem sm_lxor {x y : Int64} (n : Nat) (hd : decode M.2.1 pc = .ok (.lxor, 1)) (hp : pc + 1 = n) (k : sm_W N d M n L (.long (x ^^^ y) :: st) h Q) : sm_W N d M pc L (.long y :: .long x :: st) h Q := by
  subst hp
  exact sm_go (fun l G p e s m args below meth c H locs ls Z X hl w => lv_lxor X.1 X.2.1 hd w) k
theorem sm_lshl {x : Int64} {y : Int32} (n : Nat) (hd : decode M.2.1 pc = .ok (.lshl, 1)) (hp : pc + 1 = n) (k : sm_W N d M n L (.long (x <<< (y.toInt64 &&& 63)) :: st) h Q) : sm_W N d M pc L (.int y :: .long x :: st) h Q := by
  subst hp
  exact sm_go (fun l G p e s m args below meth c H locs ls Z X hl w => lv_lshl X.1 X.2.1 hd rfl w) k
theorem sm_lshr {x : Int64} {y : Int32} (n : Nat) (hd : decode M.2.1 pc = .ok (.lshr, 1)) (hp : pc + 1 = n) (k : sm_W N d M n L (.long (x >>> (y.toInt64 &&& 63)) :: st) h Q) : sm_W N d M pc L (.int y :: .long x :: st) h Q := by
  subst hp
  exact sm_go (fun l G p e s m args below meth c H locs ls Z X hl w => lv_lshr X.1 X.2.1 hd rfl w) k
theorem sm_i2l {x : Int32} (n : Nat) (hd : decode M.2.1 pc = .ok (.i2l, 1)) (hp : pc + 1 = n) (k : sm_W N d M n L (.long (x.toInt64) :: st) h Q) : sm_W N d M pc L (.int x :: st) h Q := by
  subst hp
  exact sm_go (fun l G p e s m args below meth c H locs ls Z X hl w => lv_i2l X.1 X.2.1 hd rfl w) k
theorem sm_l2i {x : Int64} (n : Nat) (hd : decode M.2.1 pc = .ok (.l2i, 1)) (hp : pc + 1 = n) (k : sm_W N d M n L (.int (x.toInt32) :: st) h Q) : sm_W N d M pc L (.long x :: st) h Q := by
  subst hp
  exact sm_go (fun l G p e s m args below meth c H locs ls Z X hl w => lv_l2i X.1 X.2.1 hd rfl w) k
theorem sm_i2b {x : Int32} (n : Nat) (hd : decode M.2.1 pc = .ok (.i2b, 1)) (hp : pc + 1 = n) (k : sm_W N d M n L (.int (x.toInt8.toInt32) :: st) h Q) : sm_W N d M pc L (.int x :: st) h Q := by
  subst hp
  exact sm_go (fun l G p e s m args below meth c H locs ls Z X hl w => lv_i2b X.1 X.2.1 hd rfl w) k
theorem sm_lcmp {x y : Int64} (n : Nat) (hd : decode M.2.1 pc = .ok (.lcmp, 1)) (hp : pc + 1 = n) (k : sm_W N d M n L (.int (lg_cmp x y) :: st) h Q) : sm_W N d M pc L (.long y :: .long x :: st) h Q := by
  subst hp
  exact sm_go (fun l G p e s m args below meth c H locs ls Z X hl w => W.lcmp X.1 X.2.1 hd w) k
theorem sm_pop {v : Value} (n : Nat) (hd : decode M.2.1 pc = .ok (.pop, 1)) (hv : v.category = 1) (hp : pc + 1 = n) (k : sm_W N d M n L st h Q) : sm_W N d M pc L (v :: st) h Q := by
  subst hp
  exact sm_go (fun l G p e s m args below meth c H locs ls Z X hl w => lv_pop X.1 X.2.1 hd (by rw [sm_v_cat]; exact hv) w) k
theorem sm_dup {v : Value} (n : Nat) (hd : decode M.2.1 pc = .ok (.dup, 1)) (hv : v.category = 1) (hp : pc + 1 = n) (k : sm_W N d M n L (v :: v :: st) h Q) : sm_W N d M pc L (v :: st) h Q := by
  subst hp
  exact sm_go (fun l G p e s m args below meth c H locs ls Z X hl w => lv_dup X.1 X.2.1 hd (by rw [sm_v_cat]; exact hv) w) k
theorem sm_goto {off : Int} (n : Nat) (hd : decode M.2.1 pc = .ok (.goto off, 3)) (ht : (pc : Int) + off = (n : Int)) (k : sm_W N d M n L st h Q) : sm_W N d M pc L st h Q :=
  sm_go (fun l G p e s m args below meth c H locs ls Z X hl w => lv_goto X.1 X.2.1 hd ht w) k
theorem sm_goD {P : Prop} {n t : Nat} {st2 : List Value} (hk : ∀ (l : Launch) (G : sm_G) (p : Program) (e : Env) (s : State) (m : MethodId) (args : Array Value) (below : List Frame) (meth : Method) (c : Code) (H : Heap) (locs : List Loc) (ls : Array Slot) (Z : State → Prop), sm_X G N M p s m args meth c →
      (P → W p l e (sm_R d) s m args below meth c H locs 0 0 Z (F0 m t ls (st2.map (sm_v G)))) → (¬ P → W p l e (sm_R d) s m args below meth c H locs 0 0 Z (F0 m n ls (st2.map (sm_v G)))) → W p l e (sm_R d) s m args below meth c H locs 0 0 Z (F0 m pc ls (st.map (sm_v G))))
    (kt : P → sm_W N d M t L st2 h Q) (kf : ¬ P → sm_W N d M n L st2 h Q) : sm_W N d M pc L st h Q := by
  by_cases hP : P
  · obtain ⟨r, h1, k, hq⟩ := kt hP
    exact ⟨r, h1, fun e0 => ⟨(k e0).1, fun l G p e s m args below meth c H locs ls X B hl => hk l G p e s m args below meth c H locs ls _ X (fun _ => (k e0).2 l G p e s m args below meth c H locs ls X B hl) (fun q => absurd hP q)⟩, hq⟩
  · obtain ⟨r, h1, k, hq⟩ := kf hP
    exact ⟨r, h1, fun e0 => ⟨(k e0).1, fun l G p e s m args below meth c H locs ls X B hl => hk l G p e s m args below meth c H locs ls _ X (fun q => absurd q hP) (fun _ => (k e0).2 l G p e s m args below meth c H locs ls X B hl)⟩, hq⟩
theorem sm_if_eq {x : Int32} {off : Int} (n t : Nat) (hd : decode M.2.1 pc = .ok (.ifCond .eq off, 3)) (ht : (pc : Int) + off = (t : Int)) (hp : pc + 3 = n) (kt : x = 0 → sm_W N d M t L st h Q) (kf : ¬ x = 0 → sm_W N d M n L st h Q) : sm_W N d M pc L (.int x :: st) h Q := by
  subst hp
  exact sm_goD (P := x = 0) (fun l G p e s m args below meth c H locs ls Z X wt wf => lv_if_eq X.1 X.2.1 hd ht wt wf) kt kf
theorem sm_icmp_eq {x y : Int32} {off : Int} (n t : Nat) (hd : decode M.2.1 pc = .ok (.if_icmp .eq off, 3)) (ht : (pc : Int) + off = (t : Int)) (hp : pc + 3 = n) (kt : x = y → sm_W N d M t L st h Q) (kf : ¬ x = y → sm_W N d M n L st h Q) : sm_W N d M pc L (.int y :: .int x :: st) h Q := by
  subst hp
  exact sm_goD (P := x = y) (fun l G p e s m args below meth c H locs ls Z X wt wf => lv_icmp_eq X.1 X.2.1 hd ht wt wf) kt kf
theorem sm_if_lt {x : Int32} {off : Int} (n t : Nat) (hd : decode M.2.1 pc = .ok (.ifCond .lt off, 3)) (ht : (pc : Int) + off = (t : Int)) (hp : pc + 3 = n) (kt : x < 0 → sm_W N d M t L st h Q) (kf : ¬ x < 0 → sm_W N d M n L st h Q) : sm_W N d M pc L (.int x :: st) h Q := by
  subst hp
  exact sm_goD (P := x < 0) (fun l G p e s m args below meth c H locs ls Z X wt wf => lv_if_lt X.1 X.2.1 hd ht wt wf) kt kf
theorem sm_icmp_lt {x y : Int32} {off : Int} (n t : Nat) (hd : decode M.2.1 pc = .ok (.if_icmp .lt off, 3)) (ht : (pc : Int) + off = (t : Int)) (hp : pc + 3 = n) (kt : x < y → sm_W N d M t L st h Q) (kf : ¬ x < y → sm_W N d M n L st h Q) : sm_W N d M pc L (.int y :: .int x :: st) h Q := by
  subst hp
  exact sm_goD (P := x < y) (fun l G p e s m args below meth c H locs ls Z X wt wf => lv_icmp_lt X.1 X.2.1 hd ht wt wf) kt kf
theorem sm_if_ge {x : Int32} {off : Int} (n t : Nat) (hd : decode M.2.1 pc = .ok (.ifCond .ge off, 3)) (ht : (pc : Int) + off = (t : Int)) (hp : pc + 3 = n) (kt : 0 ≤ x → sm_W N d M t L st h Q) (kf : ¬ 0 ≤ x → sm_W N d M n L st h Q) : sm_W N d M pc L (.int x :: st) h Q := by
  subst hp
  exact sm_goD (P := 0 ≤ x) (fun l G p e s m args below meth c H locs ls Z X wt wf => lv_if_ge X.1 X.2.1 hd ht wt wf) kt kf
theorem sm_icmp_ge {x y : Int32} {off : Int} (n t : Nat) (hd : decode M.2.1 pc = .ok (.if_icmp .ge off, 3)) (ht : (pc : Int) + off = (t : Int)) (hp : pc + 3 = n) (kt : y ≤ x → sm_W N d M t L st h Q) (kf : ¬ y ≤ x → sm_W N d M n L st h Q) : sm_W N d M pc L (.int y :: .int x :: st) h Q := by
  subst hp
  exact sm_goD (P := y ≤ x) (fun l G p e s m args below meth c H locs ls Z X wt wf => lv_icmp_ge X.1 X.2.1 hd ht wt wf) kt kf
theorem sm_if_gt {x : Int32} {off : Int} (n t : Nat) (hd : decode M.2.1 pc = .ok (.ifCond .gt off, 3)) (ht : (pc : Int) + off = (t : Int)) (hp : pc + 3 = n) (kt : 0 < x → sm_W N d M t L st h Q) (kf : ¬ 0 < x → sm_W N d M n L st h Q) : sm_W N d M pc L (.int x :: st) h Q := by
  subst hp
  exact sm_goD (P := 0 < x) (fun l G p e s m args below meth c H locs ls Z X wt wf => lv_if_gt X.1 X.2.1 hd ht wt wf) kt kf
theorem sm_icmp_gt {x y : Int32} {off : Int} (n t : Nat) (hd : decode M.2.1 pc = .ok (.if_icmp .gt off, 3)) (ht : (pc : Int) + off = (t : Int)) (hp : pc + 3 = n) (kt : y < x → sm_W N d M t L st h Q) (kf : ¬ y < x → sm_W N d M n L st h Q) : sm_W N d M pc L (.int y :: .int x :: st) h Q := by
  subst hp
  exact sm_goD (P := y < x) (fun l G p e s m args below meth c H locs ls Z X wt wf => lv_icmp_gt X.1 X.2.1 hd ht wt wf) kt kf
theorem sm_if_le {x : Int32} {off : Int} (n t : Nat) (hd : decode M.2.1 pc = .ok (.ifCond .le off, 3)) (ht : (pc : Int) + off = (t : Int)) (hp : pc + 3 = n) (kt : x ≤ 0 → sm_W N d M t L st h Q) (kf : ¬ x ≤ 0 → sm_W N d M n L st h Q) : sm_W N d M pc L (.int x :: st) h Q := by
  subst hp
  exact sm_goD (P := x ≤ 0) (fun l G p e s m args below meth c H locs ls Z X wt wf => lv_if_le X.1 X.2.1 hd ht wt wf) kt kf
theorem sm_icmp_le {x y : Int32} {off : Int} (n t : Nat) (hd : decode M.2.1 pc = .ok (.if_icmp .le off, 3)) (ht : (pc : Int) + off = (t : Int)) (hp : pc + 3 = n) (kt : x ≤ y → sm_W N d M t L st h Q) (kf : ¬ x ≤ y → sm_W N d M n L st h Q) : sm_W N d M pc L (.int y :: .int x :: st) h Q := by
  subst hp
  exact sm_goD (P := x ≤ y) (fun l G p e s m args below meth c H locs ls Z X wt wf => lv_icmp_le X.1 X.2.1 hd ht wt wf) kt kf
theorem sm_if_ne {x : Int32} {off : Int} (n t : Nat) (hd : decode M.2.1 pc = .ok (.ifCond .ne off, 3)) (ht : (pc : Int) + off = (t : Int)) (hp : pc + 3 = n) (kt : ¬ x = 0 → sm_W N d M t L st h Q) (kf : x = 0 → sm_W N d M n L st h Q) : sm_W N d M pc L (.int x :: st) h Q := by
  subst hp
  exact sm_goD (P := x = 0) (fun l G p e s m args below meth c H locs ls Z X wt wf => lv_if_ne X.1 X.2.1 hd ht wf wt) kf kt
theorem sm_icmp_ne {x y : Int32} {off : Int} (n t : Nat) (hd : decode M.2.1 pc = .ok (.if_icmp .ne off, 3)) (ht : (pc : Int) + off = (t : Int)) (hp : pc + 3 = n) (kt : ¬ x = y → sm_W N d M t L st h Q) (kf : x = y → sm_W N d M n L st h Q) : sm_W N d M pc L (.int y :: .int x :: st) h Q := by
  subst hp
  exact sm_goD (P := x = y) (fun l G p e s m args below meth c H locs ls Z X wt wf => lv_icmp_ne X.1 X.2.1 hd ht wf wt) kf kt
theorem sm_ifnull {x : Nat} {off : Int} (n : Nat) (hd : decode M.2.1 pc = .ok (.ifnull off, 3)) (hp : pc + 3 = n) (k : sm_W N d M n L st h Q) : sm_W N d M pc L (.ref x :: st) h Q := by
  subst hp
  exact sm_go (fun l G p e s m args below meth c H locs ls Z X hl w => lv_ifnull X.1 X.2.1 hd w) k
theorem sm_ifnullN {off : Int} (n : Nat) (hd : decode M.2.1 pc = .ok (.ifnull off, 3)) (ht : (pc : Int) + off = (n : Int)) (k : sm_W N d M n L st h Q) : sm_W N d M pc L (.null :: st) h Q :=
  sm_go (fun l G p e s m args below meth c H locs ls Z X hl w => lv_ifnullN X.1 X.2.1 hd ht w) k
theorem sm_ifnonnull {x : Nat} {off : Int} (n : Nat) (hd : decode M.2.1 pc = .ok (.ifnonnull off, 3)) (ht : (pc : Int) + off = (n : Int)) (k : sm_W N d M n L st h Q) : sm_W N d M pc L (.ref x :: st) h Q :=
  sm_go (fun l G p e s m args below meth c H locs ls Z X hl w => lv_ifnonnull X.1 X.2.1 hd ht w) k
theorem sm_ifnonnullN {off : Int} (n : Nat) (hd : decode M.2.1 pc = .ok (.ifnonnull off, 3)) (hp : pc + 3 = n) (k : sm_W N d M n L st h Q) : sm_W N d M pc L (.null :: st) h Q := by
  subst hp
  exact sm_go (fun l G p e s m args below meth c H locs ls Z X hl w => lv_ifnonnullN X.1 X.2.1 hd w) k
theorem sm_tabIn {dflt lo hi : Int} {offs : Array Int} {len : Nat} {x : Int32} {off : Int} (n : Nat) (hd : decode M.2.1 pc = .ok (.tableswitch dflt lo hi offs, len)) (h1 : ¬ x.toInt < lo) (h2 : ¬ hi < x.toInt) (ho : offs[(x.toInt - lo).toNat]? = some off) (ht : (pc : Int) + off = (n : Int)) (k : sm_W N d M n L st h Q) : sm_W N d M pc L (.int x :: st) h Q :=
  sm_go (fun l G p e s m args below meth c H locs ls Z X hl w => lv_tableIn X.1 X.2.1 hd h1 h2 ho ht w) k
theorem sm_tabOut {dflt lo hi : Int} {offs : Array Int} {len : Nat} {x : Int32} (n : Nat) (hd : decode M.2.1 pc = .ok (.tableswitch dflt lo hi offs, len)) (ho : x.toInt < lo ∨ hi < x.toInt) (ht : (pc : Int) + dflt = (n : Int)) (k : sm_W N d M n L st h Q) : sm_W N d M pc L (.int x :: st) h Q :=
  sm_go (fun l G p e s m args below meth c H locs ls Z X hl w => lv_tableOut X.1 X.2.1 hd ho ht w) k
theorem sm_look {dflt : Int} {ps : Array (Int × Int)} {len : Nat} {x : Int32} {off : Int} (n : Nat) (hd : decode M.2.1 pc = .ok (.lookupswitch dflt ps, len)) (hs : (ps.toList.zip (ps.toList.drop 1)).all (fun (a, next) => a.1 < next.1) = true) (ho : Op.lookupswitch.offset ps.toList dflt x.toInt = off) (ht : (pc : Int) + off = (n : Int)) (k : sm_W N d M n L st h Q) : sm_W N d M pc L (.int x :: st) h Q :=
  sm_go (fun l G p e s m args below meth c H locs ls Z X hl w => lv_lookup X.1 X.2.1 hd hs ho ht w) k
end Rows2
