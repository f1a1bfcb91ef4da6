/-! the reference: meetsEarlier -/
/-- paths with their names, from a pointer on -/
def PsAt (S : sT) : Int32 → List (Nat × List Nat) → Prop
  | x, [] => x = -1
  | x, p :: r => x = nI p.1 ∧ p.1 < 6000 ∧ NmN S p.1 p.2 ∧ PsAt S (S.2.1 24 p.1) r
/-- paths from a pointer on, up to this one -/
def PsTo (S : sT) (path : Nat) : Int32 → List (Nat × List Nat) → Prop
  | x, [] => x = nI path
  | x, p :: r => x = nI p.1 ∧ p.1 < 6000 ∧ p.1 ≠ path ∧ NmN S p.1 p.2 ∧ PsTo S path (S.2.1 24 p.1) r
/-- operators with their paths from a pointer on, up to the one that holds this path behind the paths ps -/
def OpsTo (S : sT) (path : Nat) (ps : List (Nat × List Nat)) : Int32 → List (Nat × List (Nat × List Nat)) → Prop
  | x, [] => ∃ o, x = nI o ∧ o < 6000 ∧ PsTo S path (S.2.1 23 o) ps
  | x, o :: r => x = nI o.1 ∧ o.1 < 6000 ∧ PsAt S (S.2.1 23 o.1) o.2 ∧ (∀ p ∈ o.2, p.1 ≠ path) ∧ OpsTo S path ps (S.2.1 24 o.1) r
/-- one of these paths meets this one -/
def mtE (pn : List Nat) (l : List (Nat × List Nat)) : Bool := l.any (fun p => bgn p.2 pn || bgn pn p.2)
theorem mtE_cons (pn : List Nat) (p : Nat × List Nat) (l : List (Nat × List Nat)) : mtE pn (p :: l) = (bgn p.2 pn || (bgn pn p.2 || mtE pn l)) := by
  simp [mtE, Bool.or_assoc]
section Me
variable {S : sT} {N d : Nat} {Q : Option Value → sm_H → Prop}
theorem sM_meetsEarlier {R path : Nat} {pn : List Nat} {ps : List (Nat × List Nat)} {ops : List (Nat × List (Nat × List Nat))} (hs : okSt S) (hR : R < 6000) (hp1 : path < 6000) (hN : NmN S path pn) (hO : OpsTo S path ps (S.2.1 23 R) ops) (hQ : Q (some (.int (if mtE pn (ops.flatMap (fun o => o.2) ++ ps) then 1 else 0))) (hp S)) : sm_V N (d + 3) mm_M_meetsEarlier 5 33 [.int (nI R), .int (nI path)] (hp S) Q := by
  generalize hres : mtE pn (ops.flatMap (fun o => o.2) ++ ps) = res at *
  have neg1 : (-1 : Int32) < 0 := by decide
  have pos : ∀ k : Nat, k < 6000 → ¬ nI k < 0 := by
    intro k hk c
    rw [ti_lt, nI_t (by omega)] at c
    have : (0 : Int32).toInt = 0 := rfl
    omega
  -- one path that is not the one asked for
  have one : ∀ (o : Nat) (p : Nat × List Nat) (l : List (Nat × List Nat)), p.1 < 6000 → NmN S p.1 p.2 → p.1 ≠ path → mtE pn (p :: l) = res → (mtE pn l = res → sm_W N (d + 2 + 1) mm_M_meetsEarlier 19 [(0, .ref 33), (2, .int (nI path)), (3, .int (nI o)), (4, .int (S.2.1 24 p.1))] [] (hp S) Q) → sm_W N (d + 2 + 1) mm_M_meetsEarlier 19 [(0, .ref 33), (2, .int (nI path)), (3, .int (nI o)), (4, .int (nI p.1))] [] (hp S) Q := by
    intro o p l hp6 hpn hne hr hW
    rw [mtE_cons] at hr
    refine kM_meetsEarlier_19 ⟨fun c => absurd c (pos _ hp6), fun _ => ⟨fun c => ?_, fun c => ?_⟩⟩
    · rw [nI_eq (by omega) (by omega)] at c
      exact absurd c hne
    · refine sM_begins hs hp6 hp1 hpn hN ⟨_, rfl, fun c2 => ?_, fun c2 => ?_⟩
      · have b1 : bgn p.2 pn = false := by
          cases h : bgn p.2 pn with
          | false => rfl
          | true => rw [h] at c2; exact absurd c2 (by decide)
        rw [b1, Bool.false_or] at hr
        refine sM_begins hs hp1 hp6 hN hpn ⟨_, rfl, fun c3 => ?_, fun c3 => ?_⟩
        · have b2 : bgn pn p.2 = false := by
            cases h : bgn pn p.2 with
            | false => rfl
            | true => rw [h] at c3; exact absurd c3 (by decide)
          rw [b2, Bool.false_or] at hr
          exact ⟨_, hg_33_14 S, _, (hq_r S hp6).2.2.2.2.2.2.1, hW hr⟩
        · have b2 : bgn pn p.2 = true := by
            cases h : bgn pn p.2 with
            | true => rfl
            | false => rw [h] at c3; exact absurd rfl c3
          rw [b2, Bool.true_or] at hr
          rw [← hr] at hQ
          exact hQ
      · have b1 : bgn p.2 pn = true := by
          cases h : bgn p.2 pn with
          | true => rfl
          | false => rw [h] at c2; exact absurd rfl c2
        rw [b1, Bool.true_or] at hr
        rw [← hr] at hQ
        exact hQ
  have key7 : ∀ (os : List (Nat × List (Nat × List Nat))) (x : Int32), OpsTo S path ps x os → mtE pn (os.flatMap (fun o => o.2) ++ ps) = res → sm_W N (d + 2 + 1) mm_M_meetsEarlier 7 [(0, .ref 33), (2, .int (nI path)), (3, .int x)] [] (hp S) Q := by
    intro os
    induction os with
    | nil =>
      intro x hx hr
      obtain ⟨o, rfl, ho, hps⟩ := hx
      have key19 : ∀ (l : List (Nat × List Nat)) (y : Int32), PsTo S path y l → mtE pn l = res → sm_W N (d + 2 + 1) mm_M_meetsEarlier 19 [(0, .ref 33), (2, .int (nI path)), (3, .int (nI o)), (4, .int y)] [] (hp S) Q := by
        intro l
        induction l with
        | nil =>
          intro y hy hr2
          have hy1 : y = nI path := hy
          subst hy1
          have hf : res = false := hr2.symm
          rw [hf] at hQ
          exact kM_meetsEarlier_19 ⟨fun c => absurd c (pos _ hp1), fun _ => ⟨fun _ => hQ, fun c => absurd rfl c⟩⟩
        | cons p l ih2 =>
          intro y hy hr2
          obtain ⟨rfl, hp6, hne, hpn, hps2⟩ := hy
          exact one o p l hp6 hpn hne hr2 (fun h => ih2 _ hps2 h)
      exact kM_meetsEarlier_7 ⟨fun c => absurd c (pos _ ho), fun _ => ⟨_, hg_33_13 S, _, (hq_r S ho).2.2.2.2.2.1, key19 ps _ hps hr⟩⟩
    | cons o os ih =>
      intro x hx hr
      obtain ⟨rfl, ho, hps, hne, hos⟩ := hx
      have key19 : ∀ (l : List (Nat × List Nat)) (y : Int32), PsAt S y l → (∀ p ∈ l, p.1 ≠ path) → mtE pn (l ++ (os.flatMap (fun o => o.2) ++ ps)) = res → sm_W N (d + 2 + 1) mm_M_meetsEarlier 19 [(0, .ref 33), (2, .int (nI path)), (3, .int (nI o.1)), (4, .int y)] [] (hp S) Q := by
        intro l
        induction l with
        | nil =>
          intro y hy _ hr2
          have hy1 : y = -1 := hy
          subst hy1
          exact kM_meetsEarlier_19 ⟨fun _ => ⟨_, hg_33_14 S, _, (hq_r S ho).2.2.2.2.2.2.1, ih _ hos hr2⟩, fun c => absurd neg1 c⟩
        | cons p l ih2 =>
          intro y hy hne2 hr2
          obtain ⟨rfl, hp6, hpn, hps2⟩ := hy
          exact one o.1 p _ hp6 hpn (hne2 p List.mem_cons_self) hr2 (fun h => ih2 _ hps2 (fun q hq => hne2 q (List.mem_cons_of_mem _ hq)) h)
      refine kM_meetsEarlier_7 ⟨fun c => absurd c (pos _ ho), fun _ => ⟨_, hg_33_13 S, _, (hq_r S ho).2.2.2.2.2.1, key19 o.2 _ hps hne ?_⟩⟩
      rw [List.flatMap_cons, List.append_assoc] at hr
      exact hr
  exact cM_meetsEarlier (hk_33 S) ⟨_, hg_33_13 S, _, (hq_r S hR).2.2.2.2.2.1, key7 ops _ hO hres⟩
end Me
