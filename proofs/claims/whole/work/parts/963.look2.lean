/-! the reference: look, its loops -/
theorem zip_snd : ∀ (a : List Nat) (b : List (List Nat)), a.length = b.length → (a.zip b).map (fun p => p.2) = b := by
  intro a
  induction a with
  | nil =>
    intro b h
    cases b with
    | nil => rfl
    | cons c b => simp at h
  | cons x a ih =>
    intro b h
    cases b with
    | nil => rfl
    | cons c b =>
      have h2 := ih b (by simpa using h)
      rw [List.zip_cons_cons, List.map_cons, h2]
theorem zip_in {p : Nat × List Nat} : ∀ (a : List Nat) (b : List (List Nat)), p ∈ a.zip b → p.1 ∈ a := by
  intro a b h
  exact (List.of_mem_zip h).1
theorem opOf_le (nm : List Nat) : opOf nm ≤ 6 := by
  rw [opOf]
  repeat' split
  all_goals omega
section Lk
variable {N d : Nat} {S : sT} {Q : Option Value → sm_H → Prop}
theorem lk_58 {R n o op t : Nat} {nm : List Nat} {ea : List (List Nat)} {dn : List (Nat × List (Nat × List Nat))} {r : Nat × Nat} (hs : okSt S) (hR : R < 6000) (hn : n < 6000) (hN : NmN S n nm) (hop : opOf nm = op) (hO : OpsFr S (S.2.1 23 R) dn (nI n)) (hea : (dn.flatMap (fun a => a.2)).map (fun p => p.2) = ea)
    (h0 : r.1 = 0 → ∀ T, frS S T → sm_W N (d + 3 + 1) mm_M_look 9 [(0, .ref 33), (1, .int (nI R)), (2, .int (nI (o + 1))), (3, .int (S.2.1 24 n))] [] (hp T) Q)
    (h1 : r.1 ≠ 0 → ∀ T, frS S T → Q (some (.int (nI r.1))) (hp (sI (sI T 17 (nI o)) 18 (nI r.2)))) :
    ∀ (ks : List Nat) (es : List El) (f : List Nat) (i p : Nat) (l1 : List (Nat × List Nat)) (y : Int32) (T : sT), frS S T → RL (RV t S) S 3 i ks es f → f.Nodup → Ch S y ks → PsAt S (S.2.1 23 n) (l1 ++ ks.zip (es.map (fun e => e.2.1))) → (∀ q ∈ l1, q.1 ∉ f) → (∀ a ∈ dn, ∀ q ∈ a.2, q.1 ∉ f) → lkP op es (ea ++ l1.map (fun q => q.2)) p = r →
      sm_W N (d + 3 + 1) mm_M_look 58 [(0, .ref 33), (1, .int (nI R)), (2, .int (nI o)), (3, .int (nI n)), (4, .int (nI p)), (5, .int y)] [] (hp T) Q := by
  intro ks
  induction ks with
  | nil =>
    intro es f i p l1 y T hT hR2 _ hy _ _ _ hr
    cases es with
    | cons e es => exact absurd hR2 (by simp [RL])
    | nil =>
      have hy1 : y = -1 := hy
      subst hy1
      have hr0 : r.1 = 0 := by rw [← hr]; rfl
      refine kM_look_58 ⟨fun _ => ⟨_, hg_33_14 T, _, (hq_r T hn).2.2.2.2.2.2.1, ?_⟩, fun c => absurd (by decide) c⟩
      rw [hT.2.1 24 (by omega) (by omega), nI_al]
      exact h0 hr0 T hT
  | cons m ks ih =>
    intro es f i p l1 y T hT hR2 hnd hy hps hl1 hdn hr
    cases es with
    | nil => exact absurd hR2 (by simp [RL])
    | cons e es =>
      obtain ⟨f1, f2, rfl, hnm, hz, hv, hR3⟩ := hR2
      obtain ⟨rfl, hm, hch⟩ := hy
      rw [if_neg (by decide)] at hnm
      obtain ⟨-, hkd, hk2⟩ := RV_k hv
      obtain ⟨f3, hf3⟩ := RV_hd hv
      obtain ⟨nd1, nd2, nd3⟩ := List.nodup_append.mp hnd
      have hmf : m ∈ f1 := by rw [hf3]; simp
      have hmn : m ∉ f2 := fun z => nd3 m hmf m z rfl
      have hl1m : ∀ q ∈ l1, q.1 ≠ m := fun q hq z => hl1 q hq (z ▸ List.mem_append_left _ hmf)
      have hdnm : ∀ a ∈ dn, ∀ q ∈ a.2, q.1 ≠ m := fun a ha q hq z => hdn a ha q hq (z ▸ List.mem_append_left _ hmf)
      have hps2 : PsAt S (S.2.1 23 n) (l1 ++ (m, e.2.1) :: ks.zip (es.map (fun e => e.2.1))) := hps
      have hTo := OpsFr_To hn (PsAt_To hps2 hl1m) hO hdnm
      have hmt : mtE e.2.1 (dn.flatMap (fun o => o.2) ++ l1) = (ea ++ l1.map (fun q => q.2)).any (fun q => bgn q e.2.1 || bgn e.2.1 q) := by
        rw [mtE_nm, List.map_append, hea]
      rw [lkP] at hr
      have pos : ¬ nI m < 0 := by
        intro c
        rw [ti_lt, nI_t (by omega)] at c
        have : (0 : Int32).toInt = 0 := rfl
        omega
      have b123 : ∀ T, frS S T → spB e.2.1 = true → ¬ (op = 3 ∧ e.1 ≠ 16 ∧ e.1 ≠ 18) → sm_W N (d + 3 + 1) mm_M_look 123 [(0, .ref 33), (1, .int (nI R)), (2, .int (nI o)), (3, .int (nI n)), (4, .int (nI p)), (5, .int (nI m))] [] (hp T) Q := by
        intro T hT hsp hnn
        have hpf : pthF op e (ea ++ l1.map (fun q => q.2)) = if mtE e.2.1 (dn.flatMap (fun o => o.2) ++ l1) then 5 else 0 := by rw [hmt, pthF, if_neg (by rw [hsp]; decide), if_neg hnn]
        refine kM_look_123 ?_
        refine sM_meetsEarlier (frS_ok hT hs) hR hm (NmN_S hT hnm) (by rw [hT.2.1 23 (by omega) (by omega)]; exact OpsTo_S hT hTo) ⟨_, rfl, fun c => ?_, fun c => ?_⟩
        · have hb : mtE e.2.1 (dn.flatMap (fun o => o.2) ++ l1) = false := by
            cases h : mtE e.2.1 (dn.flatMap (fun o => o.2) ++ l1) with
            | false => rfl
            | true => rw [h] at c; exact absurd c (by decide)
          rw [hb, if_neg (by decide)] at hpf
          rw [if_pos hpf] at hr
          refine ⟨_, hg_33_14 T, _, (hq_r T hm).2.2.2.2.2.2.1, ?_⟩
          rw [hT.2.1 24 (by omega) (by omega), nI_al]
          refine ih es f2 (i + 1) (p + 1) (l1 ++ [(m, e.2.1)]) _ T hT hR3 nd2 hch (by rw [List.append_assoc]; exact hps) ?_ (fun a ha q hq z => hdn a ha q hq (List.mem_append_right _ z)) (by rw [List.map_append, ← List.append_assoc]; exact hr)
          intro q hq z
          rcases List.mem_append.mp hq with hq | hq
          · exact hl1 q hq (List.mem_append_right _ z)
          · rw [List.mem_singleton.mp hq] at z
            exact hmn z
        · have hb : mtE e.2.1 (dn.flatMap (fun o => o.2) ++ l1) = true := by
            cases h : mtE e.2.1 (dn.flatMap (fun o => o.2) ++ l1) with
            | true => rfl
            | false => rw [h] at c; exact absurd rfl c
          rw [hb, if_pos rfl] at hpf
          rw [hpf, if_neg (by decide)] at hr
          have h2 := h1 (by rw [← hr]; exact Nat.succ_ne_zero _) T hT
          rw [← hr] at h2
          exact sM_fail (d := d + 2) ⟨_, rfl, h2⟩
      refine kM_look_58 ⟨fun c => absurd c pos, fun _ => ?_⟩
      refine sM_split (d := d + 1) hm (NmN_S hT hnm) (fun hsp T2 hT2 => ⟨_, rfl, fun _ => ?_, fun c => absurd rfl c⟩) (fun hsp T2 hT2 h23 hst => ⟨_, rfl, fun c => absurd c (by decide), fun _ => ?_⟩)
      · have hsb : spB e.2.1 = false := by
          cases h : spB e.2.1 with
          | false => rfl
          | true => exact absurd (spB_ok.mp h) hsp
        have hpf : pthF op e (ea ++ l1.map (fun q => q.2)) = 3 := by rw [pthF, if_pos hsb]
        rw [hpf, if_neg (by decide)] at hr
        have h2 := h1 (by rw [← hr]; exact Nat.succ_ne_zero _) T2 (frS_tr hT hT2)
        rw [← hr] at h2
        exact sM_fail (d := d + 2) ⟨_, rfl, h2⟩
      · have hT3 := frS_tr hT hT2
        have hsb := spB_ok.mpr hsp
        have hk18 : sm_gi (hp T2) 35 1 (nI m) = some (nI e.1) := by rw [(hq_r T2 hm).1, hT3.2.1 18 (by omega) (by omega), hkd]
        refine sM_operator (d := d) hn (NmN_S hT3 hN) ⟨_, rfl, fun c => ?_, fun c => ?_⟩
        · rw [hop, nI_eql (by have := opOf_le nm; omega) (by omega)] at c
          refine ⟨_, hg_33_7 T2, _, hk18, fun c1 => ?_, fun c1 => ⟨_, hg_33_7 T2, _, hk18, fun c2 => ?_, fun c2 => ?_⟩⟩
          · rw [nI_eql (by omega) (by omega)] at c1
            exact b123 T2 hT3 hsb (fun z => z.2.1 c1)
          · rw [nI_eql (by omega) (by omega)] at c2
            exact b123 T2 hT3 hsb (fun z => z.2.2 c2)
          · rw [nI_eql (by omega) (by omega)] at c1 c2
            have hpf : pthF op e (ea ++ l1.map (fun q => q.2)) = 4 := by rw [pthF, if_neg (by rw [hsb]; decide), if_pos ⟨c, c1, c2⟩]
            rw [hpf, if_neg (by decide)] at hr
            have h2 := h1 (by rw [← hr]; exact Nat.succ_ne_zero _) T2 hT3
            rw [← hr] at h2
            exact sM_fail (d := d + 2) ⟨_, rfl, h2⟩
        · rw [hop, nI_eql (by have := opOf_le nm; omega) (by omega)] at c
          exact b123 T2 hT3 hsb (fun z => c z.1)
theorem lk_9 {R t : Nat} {res : Nat × Int32 × Int32} (hs : okSt S) (hR : R < 6000) (h0 : res.1 = 0 → ∀ T, frS S T → Q (some (.int 0)) (hp T)) (h1 : res.1 ≠ 0 → ∀ T, frS S T → Q (some (.int (nI res.1))) (hp (sI (sI T 17 res.2.1) 18 res.2.2))) :
    ∀ (ks : List Nat) (es : List El) (f : List Nat) (i o : Nat) (dn : List (Nat × List (Nat × List Nat))) (ea : List (List Nat)) (x : Int32) (T : sT), frS S T → RL (RV (t + 1) S) S 3 i ks es f → f.Nodup → (encs es).length < 100000 → Ch S x ks → OpsFr S (S.2.1 23 R) dn x → (∀ a ∈ dn, ∀ q ∈ a.2, q.1 ∉ f) → (dn.flatMap (fun a => a.2)).map (fun p => p.2) = ea → lkO es ea o = res → sm_W N (d + 3 + 1) mm_M_look 9 [(0, .ref 33), (1, .int (nI R)), (2, .int (nI o)), (3, .int x)] [] (hp T) Q := by
  intro ks
  induction ks with
  | nil =>
    intro es f i o dn ea x T hT hR2 _ _ hx _ _ _ hr
    cases es with
    | cons e es => exact absurd hR2 (by simp [RL])
    | nil =>
      have hx1 : x = -1 := hx
      subst hx1
      exact kM_look_9 ⟨fun _ => h0 (by rw [← hr]; rfl) T hT, fun c => absurd (by decide) c⟩
  | cons n ks ih =>
    intro es f i o dn ea x T hT hR2 hnd hlen hx hO hdn hea hr
    cases es with
    | nil => exact absurd hR2 (by simp [RL])
    | cons e es =>
      obtain ⟨f1, f2, rfl, hnm, hz, hv, hR3⟩ := hR2
      obtain ⟨rfl, hn, hch⟩ := hx
      rw [if_neg (by decide)] at hnm
      obtain ⟨-, hkd, hk2⟩ := RV_k hv
      obtain ⟨nd1, nd2, nd3⟩ := List.nodup_append.mp hnd
      rw [encs_cons, List.length_append, enc1_len] at hlen
      have pos : ¬ nI n < 0 := by
        intro c
        rw [ti_lt, nI_t (by omega)] at c
        have : (0 : Int32).toInt = 0 := rfl
        omega
      have hk18 : sm_gi (hp T) 35 1 (nI n) = some (nI e.1) := by rw [(hq_r T hn).1, hT.2.1 18 (by omega) (by omega), hkd]
      rw [lkO] at hr
      have hol : opOf e.2.1 < 2 ^ 31 := by have := opOf_le e.2.1; omega
      refine kM_look_9 ⟨fun c => absurd c pos, fun _ => ?_⟩
      refine sM_operator (d := d) hn (NmN_S hT hnm) ⟨_, rfl, fun c => ?_, fun c => ⟨_, hg_33_7 T, _, hk18, fun c1 => ?_, fun c1 => ?_⟩⟩
      · rw [nI_eql hol (by omega)] at c
        rw [if_pos c] at hr
        have h2 := h1 (by rw [← hr]; exact Nat.succ_ne_zero _) T hT
        rw [← hr] at h2
        exact sM_fail (d := d + 2) ⟨_, rfl, h2⟩
      · rw [nI_eql hol (by omega)] at c
        rw [nI_eql (by omega) (by omega)] at c1
        rw [if_neg c, if_neg (fun z => z c1)] at hr
        refine ⟨_, hg_33_13 T, _, (hq_r T hn).2.2.2.2.2.1, ?_⟩
        rw [hT.2.1 23 (by omega) (by omega)]
        obtain ⟨-, -, -, hv2⟩ := hv
        rcases hv2 with ⟨-, q⟩ | ⟨-, -, es2, ks2, f3, hraw, hf1, hK, hRL⟩
        · exact absurd (Or.inl c1) (leaf_k q)
        · rw [c1] at hRL
          rw [hraw, encD_len] at hlen
          have hel : els e.2.2 = es2 := by rw [hraw]; exact els_encD (RL_wf (by omega) hRL)
          rw [hel] at hr
          subst hf1
          obtain ⟨n1, n2⟩ := List.nodup_cons.mp nd1
          have kin := RL_in hRL
          have hPs := RL_Ps hRL hK.1
          refine lk_58 (S := S) (t := t) (dn := dn) (ea := ea) (op := opOf e.2.1) (r := lkP (opOf e.2.1) es2 ea 0) hs hR hn hnm rfl hO hea (fun z T2 hT2 => ?_) (fun z T2 hT2 => ?_) ks2 es2 f3 0 0 [] _ T hT hRL n2 hK.1 hPs (fun q hq => absurd hq (by simp)) (fun a ha q hq z => hdn a ha q hq (List.mem_append_left _ (List.mem_cons_of_mem _ z))) (by simp)
          · rw [if_pos z] at hr
            refine ih es f2 (i + 1) (o + 1) (dn ++ [(n, ks2.zip (es2.map (fun e => e.2.1)))]) _ _ T2 hT2 hR3 nd2 (by omega) hch (OpsFr_snoc (o := (n, ks2.zip (es2.map (fun e => e.2.1)))) hn hPs hO) ?_ ?_ hr
            · intro a ha q hq w
              rcases List.mem_append.mp ha with ha | ha
              · exact hdn a ha q hq (List.mem_append_right _ w)
              · rw [List.mem_singleton.mp ha] at hq
                exact nd3 q.1 (List.mem_cons_of_mem _ (kin q.1 (zip_in _ _ hq))) q.1 w rfl
            · rw [List.flatMap_append, List.map_append, hea]
              congr 1
              rw [List.flatMap_cons, List.flatMap_nil, List.append_nil]
              exact zip_snd _ _ (by rw [List.length_map]; exact RL_len hRL)
          · rw [if_neg z] at hr
            have h2 := h1 (by rw [← hr]; exact z) T2 hT2
            rw [← hr] at h2
            exact h2
      · rw [nI_eql hol (by omega)] at c
        rw [nI_eql (by omega) (by omega)] at c1
        rw [if_neg c, if_pos c1] at hr
        have h2 := h1 (by rw [← hr]; exact Nat.succ_ne_zero _) T hT
        rw [← hr] at h2
        exact sM_fail (d := d + 2) ⟨_, rfl, h2⟩
theorem sM_look {R : Nat} {raw fp : List Nat} (hs : okSt S) (hv : RV 16 S R 3 raw fp) (hnd : fp.Nodup) (hl : raw.length ≤ 2000) (h0 : (lkO (els raw) [] 0).1 = 0 → ∀ T, frS S T → Q (some (.int 0)) (hp T)) (h1 : (lkO (els raw) [] 0).1 ≠ 0 → ∀ T, frS S T → Q (some (.int (nI (lkO (els raw) [] 0).1))) (hp (sI (sI T 17 (lkO (els raw) [] 0).2.1) 18 (lkO (els raw) [] 0).2.2))) : sm_V N (d + 3 + 1) mm_M_look 5 33 [.int (nI R)] (hp S) Q := by
  obtain ⟨hn, -, -, hv⟩ := hv
  rcases hv with ⟨-, q⟩ | ⟨-, -, es, ks, f2, rfl, rfl, hK, hRL⟩
  · exact absurd (Or.inl rfl) (leaf_k q)
  · rw [encD_len] at hl
    rw [els_encD (RL_wf (by omega) hRL)] at h0 h1
    obtain ⟨n1, n2⟩ := List.nodup_cons.mp hnd
    exact cM_look (hk_33 S) ⟨_, hg_33_13 S, _, (hq_r S hn).2.2.2.2.2.1, lk_9 (t := 14) hs hn h0 h1 ks es f2 0 0 [] [] _ S (frS_rf S) hRL n2 (by omega) hK.1 rfl (fun a ha => absurd ha (by simp)) rfl rfl⟩
end Lk
