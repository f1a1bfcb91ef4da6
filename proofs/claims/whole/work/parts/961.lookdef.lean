/-! what look answers, over the elements of a change -/
def spB (nm : List Nat) : Bool := (stp nm).all (fun w => decide (w ≠ [])) && decide ((stp nm).length ≤ 8)
theorem spB_ok {nm : List Nat} : spB nm = true ↔ spOK nm := by
  rw [spB, spOK, Bool.and_eq_true, List.all_eq_true]
  simp
/-- what is wrong with a path, 0 for nothing -/
def pthF (op : Nat) (e : El) (ea : List (List Nat)) : Nat := if spB e.2.1 = false then 3 else if op = 3 ∧ e.1 ≠ 16 ∧ e.1 ≠ 18 then 4 else if ea.any (fun q => bgn q e.2.1 || bgn e.2.1 q) then 5 else 0
/-- the first path that something is wrong with -/
def lkP (op : Nat) : List El → List (List Nat) → Nat → Nat × Nat
  | [], _, p => (0, p)
  | e :: r, ea, p => if pthF op e ea = 0 then lkP op r (ea ++ [e.2.1]) (p + 1) else (pthF op e ea, p)
def els (raw : List Nat) : List El := dcs raw.length (slice raw 4 (raw.length - 1))
theorem els_encD {es : List El} (hw : ∀ e ∈ es, wfE e) : els (encD es) = es := by
  rw [els, sl_encD, dcs_encs es _ hw (by rw [encD_len]; omega)]
/-- the first fault of a change: why (0 for none), the operator's place, the path's -/
def lkO : List El → List (List Nat) → Nat → Nat × Int32 × Int32
  | [], _, _ => (0, 0, 0)
  | e :: r, ea, o => if opOf e.2.1 = 0 then (1, nI o, -1) else if e.1 ≠ 3 then (2, nI o, -1) else if (lkP (opOf e.2.1) (els e.2.2) ea 0).1 = 0 then lkO r (ea ++ (els e.2.2).map (fun x => x.2.1)) (o + 1) else ((lkP (opOf e.2.1) (els e.2.2) ea 0).1, nI o, nI (lkP (opOf e.2.1) (els e.2.2) ea 0).2)
theorem mtE_nm (pn : List Nat) (l : List (Nat × List Nat)) : mtE pn l = (l.map (fun p => p.2)).any (fun q => bgn q pn || bgn pn q) := by
  rw [mtE, List.any_map]
  rfl
