/-! the reference: meetsEarlier -/
/-- paths with their names, from a pointer on -/
def PsAt (S : sT) : Int32 → List (Nat × List Nat) → Prop
  | x, [] => x = -1
  | x, p :: r => x = nI p.1 ∧ p.1 < 6000 ∧ NmN S p.1 p.2 ∧ PsAt S (S.2.1 24 p.1) r
/-- operators with their paths, from a pointer on -/
def OpsAt (S : sT) : Int32 → List (Nat × List (Nat × List Nat)) → Prop
  | x, [] => x = -1
  | x, o :: r => x = nI o.1 ∧ o.1 < 6000 ∧ PsAt S (S.2.1 23 o.1) o.2 ∧ OpsAt S (S.2.1 24 o.1) r
/-- a path before this one meets it -/
def mtE (path : Nat) (pn : List Nat) : List (Nat × List Nat) → Bool
  | [] => false
  | p :: r => if p.1 = path then false else (bgn p.2 pn || (bgn pn p.2 || mtE path pn r))
section Me
variable {S : sT} {N d : Nat} {Q : Option Value → sm_H → Prop}
theorem sM_meetsEarlier {R path : Nat} {pn : List Nat} {ops : List (Nat × List (Nat × List Nat))} (hs : okSt S) (hR : R < 6000) (hp1 : path < 6000) (hN : NmN S path pn) (hO : OpsAt S (S.2.1 23 R) ops) (hQ : Q (some (.int (if mtE path pn (ops.flatMap (fun o => o.2)) then 1 else 0))) (hp S)) : sm_V N (d + 3) mm_M_meetsEarlier 5 33 [.int (nI R), .int (nI path)] (hp S) Q := by
  generalize hres : mtE path pn (ops.flatMap (fun o => o.2)) = res at *
  have neg1 : (-1 : Int32) < 0 := by decide
  have key7 : ∀ (os : List (Nat × List (Nat × List Nat))) (x : Int32), OpsAt S x os → mtE path pn (os.flatMap (fun o => o.2)) = res → sm_W N (d + 2 + 1) mm_M_meetsEarlier 7 [(0, .ref 33), (2, .int (nI path)), (3, .int x)] [] (hp S) Q := by
    intro os
    induction os with
    | nil =>
      intro x hx hr
      have hx1 : x = -1 := hx
      subst hx1
      have hf : res = false := hr.symm
      rw [hf] at hQ
      exact kM_meetsEarlier_7 ⟨fun _ => hQ, fun c => absurd neg1 c⟩
    | cons o os ih =>
      intro x hx hr
      obtain ⟨rfl, ho, hps, hos⟩ := hx
      have key19 : ∀ (ps : List (Nat × List Nat)) (y : Int32), PsAt S y ps → mtE path pn (ps ++ os.flatMap (fun o => o.2)) = res → sm_W N (d + 2 + 1) mm_M_meetsEarlier 19 [(0, .ref 33), (2, .int (nI path)), (3, .int (nI o.1)), (4, .int y)] [] (hp S) Q := by
        intro ps
        induction ps with
        | nil =>
          intro y hy hr2
          have hy1 : y = -1 := hy
          subst hy1
          exact kM_meetsEarlier_19 ⟨fun _ => ⟨_, hg_33_14 S, _, (hq_r S ho).2.2.2.2.2.2.1, ih _ hos hr2⟩, fun c => absurd neg1 c⟩
        | cons p ps ih2 =>
          intro y hy hr2
          obtain ⟨rfl, hp6, hpn, hps2⟩ := hy
          have hr3 : (if p.1 = path then false else (bgn p.2 pn || (bgn pn p.2 || mtE path pn (ps ++ os.flatMap (fun o => o.2))))) = res := hr2
          refine kM_meetsEarlier_19 ⟨fun c => ?_, fun _ => ⟨fun c => ?_, fun c => ?_⟩⟩
          · exact absurd c (by rw [ti_lt, nI_t (by omega)]; have : (0 : Int32).toInt = 0 := rfl; omega)
          · rw [nI_eq (by omega) (by omega)] at c
            rw [if_pos c] at hr3
            rw [← hr3] at hQ
            exact hQ
          · rw [nI_eq (by omega) (by omega)] at c
            rw [if_neg c] at hr3
            refine sM_begins hs hp6 hp1 hpn hN ⟨_, rfl, fun c2 => ?_, fun c2 => ?_⟩
            · have b1 : bgn p.2 pn = false := by
                cases h : bgn p.2 pn with
                | false => rfl
                | true => rw [h] at c2; exact absurd c2 (by decide)
              rw [b1, Bool.false_or] at hr3
              refine sM_begins hs hp1 hp6 hN hpn ⟨_, rfl, fun c3 => ?_, fun c3 => ?_⟩
              · have b2 : bgn pn p.2 = false := by
                  cases h : bgn pn p.2 with
                  | false => rfl
                  | true => rw [h] at c3; exact absurd c3 (by decide)
                rw [b2, Bool.false_or] at hr3
                exact ⟨_, hg_33_14 S, _, (hq_r S hp6).2.2.2.2.2.2.1, ih2 _ hps2 hr3⟩
              · have b2 : bgn pn p.2 = true := by
                  cases h : bgn pn p.2 with
                  | true => rfl
                  | false => rw [h] at c3; exact absurd rfl c3
                rw [b2, Bool.true_or] at hr3
                rw [← hr3] at hQ
                exact hQ
            · have b1 : bgn p.2 pn = true := by
                cases h : bgn p.2 pn with
                | true => rfl
                | false => rw [h] at c2; exact absurd rfl c2
              rw [b1, Bool.true_or] at hr3
              rw [← hr3] at hQ
              exact hQ
      refine kM_meetsEarlier_7 ⟨fun c => ?_, fun _ => ⟨_, hg_33_13 S, _, (hq_r S ho).2.2.2.2.2.1, key19 o.2 _ hps (by rw [List.flatMap_cons] at hr; exact hr)⟩⟩
      exact absurd c (by rw [ti_lt, nI_t (by omega)]; have : (0 : Int32).toInt = 0 := rfl; omega)
  exact cM_meetsEarlier (hk_33 S) ⟨_, hg_33_13 S, _, (hq_r S hR).2.2.2.2.2.1, key7 ops _ hO hres⟩
end Me
